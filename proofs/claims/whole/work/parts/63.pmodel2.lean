theorem zl_step {n c : Nat} (hc : 48 ≤ c) : 10 * lN n + lN c - 48 = lN (10 * n + (c - 48)) := by
  have e1 : 10 * lN n = lN (10 * n) := lN_mul 10 n
  have e2 : lN (10 * n + c) - 48 = lN (10 * n + c - 48) := lN_sub (b := 48) (by omega)
  rw [e1, lN_add, e2]
  congr 1
  omega
theorem zy_numL {lt : Nat → Nat} {len a0 : Nat} {st cd : List Nat} {K : Int32 → gM → Prop} (hl : zlok lt len) (hc : cd.length < 120) : ∀ (f d a n : Nat) (M : gM), d + f = 6 → a = a0 + d → a ≤ len → zpm lt len a st cd M → (48 ≤ lt (zrd lt f a n).1 ∧ lt (zrd lt f a n).1 ≤ 57 → ∀ M', M'.1 9 0 11 = nI (zrd lt f a n).1 → zFm M M' → K (-1) M') → (¬ (48 ≤ lt (zrd lt f a n).1 ∧ lt (zrd lt f a n).1 ≤ 57) → ∀ M', zpm lt len (zrd lt f a n).1 st (cd ++ [17 + (zrd lt f a n).2]) M' → zFm M M' → K 1 M') → wp_X9_begins_L28 K (f + 1) 0 (nI a0) (lN n) M
  | 0, d, a, n, M, e, ea, ha, h, k1, k0 => by
    have hlen := hl.1
    have e1 : (zrd lt 0 a n) = (a, n) := rfl
    rw [e1] at k1 k0
    unfold wp_X9_begins_L28
    rw [h.2.1]
    refine zy_isDigit h.1 h.2.2.1 hl (by omega) (fun c => ?_) (fun c => ?_)
    · rw [if_neg (by decide), h.2.1, zn_sub (by omega), if_pos (by rw [show a - a0 = 6 by omega]; decide)]
      exact k1 c M h.2.1 zFm_refl
    · rw [if_pos rfl]
      refine zy_emits (c := 17 + n) h hc (by rw [zmst_num (by omega)]; congr 1; omega) (fun M1 h1 f1 => k0 c M1 h1 f1)
  | f + 1, d, a, n, M, e, ea, ha, h, k1, k0 => by
    have hlen := hl.1
    unfold wp_X9_begins_L28
    rw [h.2.1]
    refine zy_isDigit h.1 h.2.2.1 hl (by omega) (fun c => ?_) (fun c => ?_)
    · have al := zlok_lt hl (i := a) (by omega)
      have er : zrd lt (f + 1) a n = zrd lt f (a + 1) (10 * n + (lt a - 48)) := by
        show (if 48 ≤ lt a ∧ lt a ≤ 57 then _ else _) = _
        rw [if_pos c]
      rw [er] at k1 k0
      rw [if_neg (by decide), h.2.1, zn_sub (by omega), if_neg (zk_ne (c := 6) (a := 6) rfl (by omega) (by omega) (by omega))]
      refine ⟨vp_in_nI (by omega) (by omega), ?_⟩
      intro n73 e73 M1 e1
      rw [nI_clamp (by omega), h.2.2.1 a al, nI_l (by omega), zl_step c.1] at e73
      rw [nI_1] at e1
      subst e73
      have h1 : zpm lt len (a + 1) st cd M1 := by rw [e1]; exact zpm_at h
      have f1 : zFm M M1 := by rw [e1]; exact zFm_u (by omega)
      exact zy_numL hl hc f (d + 1) (a + 1) _ M1 (by omega) (by omega) (by omega) h1 (fun z M' a' b' => k1 z M' a' (zFm_trans f1 b')) (fun z M' a' b' => k0 z M' a' (zFm_trans f1 b'))
    · have er : zrd lt (f + 1) a n = (a, n) := by
        show (if 48 ≤ lt a ∧ lt a ≤ 57 then _ else _) = _
        rw [if_neg c]
      rw [er] at k0
      rw [if_pos rfl]
      refine zy_emits (c := 17 + n) h hc (by rw [zmst_num (by omega)]; congr 1; omega) (fun M1 h1 f1 => k0 c M1 h1 f1)
def zvf (x : Int32) : Int32 := if x = 97 then 5 else if x = 98 then -1 else if x = 99 then -1 else if x = 100 then 2 else if x = 101 then -1 else if x = 102 then 3 else if x = 103 then -1 else if x = 104 then -1 else if x = 105 then -1 else if x = 106 then -1 else if x = 107 then -1 else if x = 108 then 1 else if x = 109 then -1 else if x = 110 then 8 else if x = 111 then -1 else if x = 112 then 0 else if x = 113 then -1 else if x = 114 then 9 else if x = 115 then -1 else if x = 116 then 6 else if x = 117 then -1 else if x = 118 then 7 else if x = 119 then 4 else -1
theorem zvf_t : ∀ c, c < 127 → zvf (nI c) = if zvr c = 10 then -1 else nI (zvr c) := by decide +kernel
theorem zy_var {lt : Nat → Nat} {len a : Nat} {M : gM} {K : Int32 → gM → Prop} (hl : zlok lt len) (hK : K (if zvr (lt a) = 10 then -1 else nI (zvr (lt a))) M) : wp_X9_variable (zlI lt len a) M K := by
  have e : ∀ x, K (zvf x) M → wp_X9_variable x M K := fun x q => by
    unfold zvf at q
    unfold wp_X9_variable
    by_cases c97 : x = 97
    · rw [if_pos c97] at q ⊢; exact q
    rw [if_neg c97] at q ⊢
    by_cases c98 : x = 98
    · rw [if_pos c98] at q ⊢; exact q
    rw [if_neg c98] at q ⊢
    by_cases c99 : x = 99
    · rw [if_pos c99] at q ⊢; exact q
    rw [if_neg c99] at q ⊢
    by_cases c100 : x = 100
    · rw [if_pos c100] at q ⊢; exact q
    rw [if_neg c100] at q ⊢
    by_cases c101 : x = 101
    · rw [if_pos c101] at q ⊢; exact q
    rw [if_neg c101] at q ⊢
    by_cases c102 : x = 102
    · rw [if_pos c102] at q ⊢; exact q
    rw [if_neg c102] at q ⊢
    by_cases c103 : x = 103
    · rw [if_pos c103] at q ⊢; exact q
    rw [if_neg c103] at q ⊢
    by_cases c104 : x = 104
    · rw [if_pos c104] at q ⊢; exact q
    rw [if_neg c104] at q ⊢
    by_cases c105 : x = 105
    · rw [if_pos c105] at q ⊢; exact q
    rw [if_neg c105] at q ⊢
    by_cases c106 : x = 106
    · rw [if_pos c106] at q ⊢; exact q
    rw [if_neg c106] at q ⊢
    by_cases c107 : x = 107
    · rw [if_pos c107] at q ⊢; exact q
    rw [if_neg c107] at q ⊢
    by_cases c108 : x = 108
    · rw [if_pos c108] at q ⊢; exact q
    rw [if_neg c108] at q ⊢
    by_cases c109 : x = 109
    · rw [if_pos c109] at q ⊢; exact q
    rw [if_neg c109] at q ⊢
    by_cases c110 : x = 110
    · rw [if_pos c110] at q ⊢; exact q
    rw [if_neg c110] at q ⊢
    by_cases c111 : x = 111
    · rw [if_pos c111] at q ⊢; exact q
    rw [if_neg c111] at q ⊢
    by_cases c112 : x = 112
    · rw [if_pos c112] at q ⊢; exact q
    rw [if_neg c112] at q ⊢
    by_cases c113 : x = 113
    · rw [if_pos c113] at q ⊢; exact q
    rw [if_neg c113] at q ⊢
    by_cases c114 : x = 114
    · rw [if_pos c114] at q ⊢; exact q
    rw [if_neg c114] at q ⊢
    by_cases c115 : x = 115
    · rw [if_pos c115] at q ⊢; exact q
    rw [if_neg c115] at q ⊢
    by_cases c116 : x = 116
    · rw [if_pos c116] at q ⊢; exact q
    rw [if_neg c116] at q ⊢
    by_cases c117 : x = 117
    · rw [if_pos c117] at q ⊢; exact q
    rw [if_neg c117] at q ⊢
    by_cases c118 : x = 118
    · rw [if_pos c118] at q ⊢; exact q
    rw [if_neg c118] at q ⊢
    by_cases c119 : x = 119
    · rw [if_pos c119] at q ⊢; exact q
    rw [if_neg c119] at q ⊢
    exact q
  refine e _ ?_
  have hb := zlt_b (i := a) hl
  unfold zlI
  by_cases q : a < len
  · rw [if_pos q, zvf_t _ (by omega)]; exact hK
  · rw [if_neg q]
    rw [hl.2.2 a (by omega)] at hK
    exact hK
/-- an operand -/
theorem zy_oprd {lt : Nat → Nat} {rk len k0 a : Nat} {st cd : List Nat} {x2 : Int32} {M : gM} {K : Int32 → gM → Prop} (hl : zlok lt len) (hi : zpi rk len k0 1 a st cd) (hr : x2 = 0 ↔ rk = 0) (h : zpm lt len a st cd M) (h0 : (zoprd lt rk a st cd).1 = 0 → ∀ M', M'.1 9 0 11 = nI (zoprd lt rk a st cd).2.1 → zFm M M' → K (-1) M') (h1 : (zoprd lt rk a st cd).1 = 1 → ∀ M', zpm lt len (zoprd lt rk a st cd).2.1 (zoprd lt rk a st cd).2.2.1 (zoprd lt rk a st cd).2.2.2 M' → zFm M M' → K 0 M') (h2 : (zoprd lt rk a st cd).1 = 2 → ∀ cdx M', zpm lt len (zoprd lt rk a st cd).2.1 st cdx M' → zpop4 st cdx = (zoprd lt rk a st cd).2.2 → cdx.length = cd.length + 1 → zFm M M' → K 1 M') : wp_X9_begins 0 x2 M K := by
  have hb := zlt_b (i := a) hl
  have hlen := hl.1
  obtain ⟨p1, p2, p3, p4, p5, p6, p7, p8⟩ := hi
  unfold wp_X9_begins
  rw [h.2.1]
  refine zy_letter h.1 h.2.2.1 hl (by omega) ?_
  rw [h.2.1]
  refine zy_isDigit h.1 h.2.2.1 hl (by omega) (fun c1 => ?_) (fun c1 => ?_)
  · rw [if_neg (by decide)]
    have al := zlok_lt hl (i := a) (by omega)
    intro n24 e24
    rw [h.2.1] at e24
    subst e24
    unfold zoprd at h0 h2
    rw [if_pos c1] at h0 h2
    refine ⟨6 + 1, zy_numL hl (by omega) 6 0 a 0 M (by omega) (by omega) p2 h (fun c2 M1 e1 f1 => ?_) (fun c2 M1 z1 f1 => ?_)⟩
    · rw [if_pos c2] at h0
      exact h0 rfl M1 e1 f1
    · rw [if_neg c2] at h2
      exact h2 rfl _ M1 z1 rfl (by simp) f1
  · rw [if_pos rfl]
    unfold zoprd at h0 h1 h2
    rw [if_neg c1] at h0 h1 h2
    have push : ∀ (s a' : Nat) {M1 M2 M3 M4 : gM} {v : Int32}, zpm lt len a' st cd M1 → v = nI (zms s) → M2 = g_uI M1 56 0 st.length v → M3 = g_uI M2 9 0 17 (M2.1 9 0 17 + 1) → M4 = g_uI M3 9 0 11 (M3.1 9 0 11 + 1) → zpm lt len (a' + 1) (s :: st) cd M4 ∧ zFm M1 M4 := fun s a' {M1 M2 M3 M4 v} z1 hv e2 e3 e4 => by
      have q : M2.1 9 0 17 = nI st.length := by rw [e2, zuI, if_neg (by omega)]; exact z1.2.2.2.1
      rw [q, nI_1] at e3
      have z3 : zpm lt len a' (s :: st) cd M3 := by rw [e3, e2]; exact zpm_push z1 hv
      rw [z3.2.1, nI_1] at e4
      refine ⟨by rw [e4]; exact zpm_at z3, ?_⟩
      rw [e4, e3, e2]
      exact zFm_trans (zFm_trans (zFm_u (by omega)) (zFm_u (by omega))) (zFm_u (by omega))
    by_cases c2 : lt a = 45
    · rw [if_pos c2] at h1
      rw [if_pos (show zlI lt len a = 45 from (zlI_eq (n := 45) hl rfl (by omega) (by omega)).mpr c2)]
      unfold wp_X9_begins_b108 wp_X9_begins_b129
      rw [if_pos (show zlI lt len a = 45 from (zlI_eq (n := 45) hl rfl (by omega) (by omega)).mpr c2), h.2.2.2.1]
      refine ⟨vp_in_nI (by omega) (by omega), ?_⟩
      intro M2 e2 M3 e3 M4 e4
      rw [nI_clamp (by omega)] at e2
      obtain ⟨q1, q2⟩ := push 4 a h (by decide) e2 e3 e4
      exact h1 rfl M4 q1 q2
    · rw [if_neg c2] at h0 h1 h2
      have n45 : ¬ zlI lt len a = 45 := fun z => c2 ((zlI_eq (n := 45) hl rfl (by omega) (by omega)).mp z)
      rw [if_neg n45]
      by_cases c3 : lt a = 40
      · rw [if_pos c3] at h1
        rw [if_pos (show zlI lt len a = 40 from (zlI_eq (n := 40) hl rfl (by omega) (by omega)).mpr c3)]
        unfold wp_X9_begins_b108 wp_X9_begins_b129
        rw [if_neg n45, h.2.2.2.1]
        refine ⟨vp_in_nI (by omega) (by omega), ?_⟩
        intro M2 e2 M3 e3 M4 e4
        rw [nI_clamp (by omega)] at e2
        obtain ⟨q1, q2⟩ := push 7 a h (by decide) e2 e3 e4
        exact h1 rfl M4 q1 q2
      · rw [if_neg c3] at h0 h1 h2
        rw [if_neg (show ¬ zlI lt len a = 40 from fun z => c3 ((zlI_eq (n := 40) hl rfl (by omega) (by omega)).mp z))]
        have mm : ∀ (s : Nat), zlI lt len a = nI (zms s) → lt a ≠ 0 → (lt (a + 1) = 40 → ∀ M', zpm lt len (a + 2) (s :: st) cd M' → zFm M M' → K 0 M') → (lt (a + 1) ≠ 40 → ∀ M', M'.1 9 0 11 = nI (a + 1) → zFm M M' → K (-1) M') → wp_X9_begins_b164 K 0 (zlI lt len a) M := fun s hs hz k1 k0' => by
          have al := zlok_lt hl (i := a) hz
          unfold wp_X9_begins_b164
          intro M1 e1
          rw [h.2.1, nI_1] at e1
          have q1 : zpm lt len (a + 1) st cd M1 := by rw [e1]; exact zpm_at h
          have q2 : zFm M M1 := by rw [e1]; exact zFm_u (by omega)
          rw [q1.2.1]
          refine zy_letter q1.1 q1.2.2.1 hl (by omega) ?_
          by_cases c5 : lt (a + 1) = 40
          · rw [if_pos (show zlI lt len (a + 1) = 40 from (zlI_eq (n := 40) hl rfl (by omega) (by omega)).mpr c5), q1.2.2.2.1]
            refine ⟨vp_in_nI (by omega) (by omega), ?_⟩
            intro M2 e2 M3 e3 M4 e4
            rw [nI_clamp (by omega)] at e2
            obtain ⟨r1, r2⟩ := push s (a + 1) q1 hs e2 e3 e4
            exact k1 c5 M4 r1 (zFm_trans q2 r2)
          · rw [if_neg (show ¬ zlI lt len (a + 1) = 40 from fun z => c5 ((zlI_eq (n := 40) hl rfl (by omega) (by omega)).mp z))]
            exact k0' c5 M1 q1.2.1 q2
        by_cases c4 : lt a = 77
        · rw [if_pos c4] at h0 h1
          have e77 : zlI lt len a = 77 := (zlI_eq (n := 77) hl rfl (by omega) (by omega)).mpr c4
          rw [if_pos e77]
          refine mm 8 (by rw [e77]; decide) (by omega) (fun c5 M' a' b' => ?_) (fun c5 M' a' b' => ?_)
          · rw [if_pos c5] at h1; exact h1 rfl M' a' b'
          · rw [if_neg c5] at h0; exact h0 rfl M' a' b'
        · rw [if_neg c4] at h0 h1 h2
          rw [if_neg (show ¬ zlI lt len a = 77 from fun z => c4 ((zlI_eq (n := 77) hl rfl (by omega) (by omega)).mp z))]
          by_cases c6 : lt a = 109
          · rw [if_pos c6] at h0 h1
            have e109 : zlI lt len a = 109 := (zlI_eq (n := 109) hl rfl (by omega) (by omega)).mpr c6
            rw [if_pos e109]
            refine mm 9 (by rw [e109]; decide) (by omega) (fun c5 M' a' b' => ?_) (fun c5 M' a' b' => ?_)
            · rw [if_pos c5] at h1; exact h1 rfl M' a' b'
            · rw [if_neg c5] at h0; exact h0 rfl M' a' b'
          · rw [if_neg c6] at h0 h1 h2
            rw [if_neg (show ¬ zlI lt len a = 109 from fun z => c6 ((zlI_eq (n := 109) hl rfl (by omega) (by omega)).mp z))]
            refine zy_var hl ?_
            have hv := zvr_le (lt a)
            by_cases c7 : zvr (lt a) = 10 ∨ (zvr (lt a) = 9 ∧ rk = 0)
            · rw [if_pos c7] at h0
              have k3 := h0 rfl M h.2.1 zFm_refl
              by_cases c8 : zvr (lt a) = 10
              · rw [if_pos c8, if_pos (by decide)]; exact k3
              · rw [if_neg c8, if_neg (nI_pos (by omega)), if_pos (by rw [show zvr (lt a) = 9 by omega]; decide), if_pos (hr.mpr (by omega))]; exact k3
            · rw [if_neg c7] at h2
              have al := zlok_lt hl (i := a) (zvr_nz (by omega))
              have fin : wp_X9_begins_b242 K 0 (nI (zvr (lt a))) M := by
                unfold wp_X9_begins_b242
                refine zy_emits (c := 7 + zvr (lt a)) h (by omega) (by
                  unfold zmst
                  rw [if_neg (by omega), if_pos (by omega), nI_l (by omega)]
                  congr 2
                  omega) (fun M1 hM1 f1 => ?_)
                intro M2 e2
                rw [hM1.2.1, nI_1] at e2
                refine h2 rfl _ M2 (by rw [e2]; exact zpm_at hM1) rfl (by simp) (zFm_trans f1 (by rw [e2]; exact zFm_u (by omega)))
              rw [if_neg (fun q => c7 (Or.inl q)), if_neg (nI_pos (by omega))]
              by_cases c9 : zvr (lt a) = 9
              · rw [if_pos (by rw [c9]; decide), if_neg (fun q => c7 (Or.inr ⟨c9, hr.mp q⟩))]; exact fin
              · rw [if_neg (zk_ne (c := 9) (a := 9) rfl c9 (by omega) (by omega))]; exact fin
