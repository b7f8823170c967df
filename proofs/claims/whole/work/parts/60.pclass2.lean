theorem zx_str {s : Nat} {M : gM} {K : Int32 → gM → Prop} (hs : s ≤ 9) (hK : K (nI (if s < 4 then zstr s else 0)) M) : wp_X6_strengthOf (nI (zcs s)) M K := by
  unfold wp_X6_strengthOf
  rcases (show s = 0 ∨ s = 1 ∨ s = 2 ∨ s = 3 ∨ s = 4 ∨ s = 5 ∨ s = 6 ∨ s = 7 ∨ s = 8 ∨ s = 9 by omega) with rfl | rfl | rfl | rfl | rfl | rfl | rfl | rfl | rfl | rfl
  · rw [if_neg (by decide), if_neg (by decide), if_pos (by decide)]; exact hK
  · rw [if_neg (by decide), if_neg (by decide), if_neg (by decide), if_pos (by decide)]; exact hK
  · rw [if_pos (by decide)]; exact hK
  · rw [if_neg (by decide), if_pos (by decide)]; exact hK
  all_goals (rw [if_neg (by decide), if_neg (by decide), if_neg (by decide), if_neg (by decide)]; exact hK)
theorem zx_set {lt : Nat → Nat} {len a k : Nat} {K : gM → Prop} (hk : k = 1 ∨ k = 2) : ∀ (st cd : List Nat) (M : gM), zpc lt len a st cd M → cd.length + st.length ≤ 120 → (∀ s ∈ st, s ≤ 9) → (∀ M', zpc lt len a (zset k st cd).1 (zset k st cd).2 M' → zFe M M' → K M') → wp_X6_closeOperators_L0 K (st.length + 1) 0 (nI k) M
  | [], cd, M, h, hl, h9, hK => by
    unfold wp_X6_closeOperators_L0
    rw [h.2.2.2.1]
    exact (if_pos (by decide)).mpr (hK M h zFe_refl)
  | s :: t, cd, M, h, hl, h9, hK => by
    simp only [List.length_cons] at hl
    have hs9 := h9 s List.mem_cons_self
    unfold wp_X6_closeOperators_L0
    rw [h.2.2.2.1, if_neg (zk_nle2 (c := 0) (a := 0) rfl (by simp) (by simp; omega))]
    refine zx_top h (by simp; omega) (fun e => by cases e) (fun s' t' e => ?_)
    injection e with e1 e2
    subst e1; subst e2
    refine zx_str hs9 ?_
    unfold zset at hK
    have hz : zstr s ≤ 2 := by unfold zstr; split <;> omega
    by_cases c : s < 4 ∧ k ≤ zstr s
    · rw [if_pos c] at hK
      rw [if_pos c.1, if_neg (nI_nlt c.2 (by omega))]
      refine zx_top h (by simp; omega) (fun e => by cases e) (fun s' t' e => ?_)
      injection e with e1 e2
      subst e1; subst e2
      refine zx_emit (c := s) h (by omega) (by
        rcases (show s = 0 ∨ s = 1 ∨ s = 2 ∨ s = 3 by omega) with rfl | rfl | rfl | rfl <;> decide) (fun M1 h1 f1 => ?_)
      intro M2 e2
      rw [h1.2.2.2.1, zn_s1 (by simp)] at e2
      simp only [List.length_cons, Nat.add_sub_cancel] at e2
      have h2 := zpc_pop h1
      rw [← e2] at h2
      refine zx_set hk t (cd ++ [s]) M2 h2 (by simp; omega) (fun u hu => h9 u (List.mem_cons_of_mem _ hu)) (fun M' a b => hK M' a (zFe_trans (zFe_trans f1 ?_) b))
      rw [e2]
      exact zFe_u (by omega)
    · rw [if_neg c] at hK
      rw [if_pos (by
        by_cases c4 : s < 4
        · rw [if_pos c4]; exact nI_lt (by omega) (by omega)
        · rw [if_neg c4]; exact nI_lt (by omega) (by omega))]
      exact hK M h zFe_refl
/-- numbers -/
theorem zn_step {n c : Nat} (hc : 48 ≤ c) : nI n * 10 + (nI c - 48) = nI (10 * n + (c - 48)) := by
  have e1 : nI c - 48 = nI (c - 48) := zn_sub (b := 48) hc
  have e2 : nI n * 10 = nI (n * 10) := pk_mul n 10
  rw [e1, e2, nI_add, Nat.mul_comm]
theorem zx_numL {lt : Nat → Nat} {len m : Nat} {st cd : List Nat} {K : Int32 → gM → Prop} (hl : zlok lt len) (hm : m ≤ 6) : ∀ (f d a n : Nat) (M : gM), d + f = m → a ≤ len → zpc lt len a st cd M → (∀ M', zpc lt len (zrd lt f a n).1 st cd M' → zFe M M' → K (if 48 ≤ lt (zrd lt f a n).1 ∧ lt (zrd lt f a n).1 ≤ 57 then -1 else if d = 0 ∧ (zrd lt f a n).1 = a then -1 else nI (zrd lt f a n).2) M') → wp_X6_readNumber_L4 K (f + 2) 0 (nI m) (nI n) (nI d) M
  | 0, d, a, n, M, e, ha, h, hK => by
    have hK' := hK M h zFe_refl
    have e1 : (zrd lt 0 a n) = (a, n) := rfl
    rw [e1] at hK'
    unfold wp_X6_readNumber_L4
    rw [if_neg (nI_nlt (by omega) (by omega))]
    refine zx_sign h hl ha ?_
    have := zlt_b (i := a) hl
    refine zx_isDigit (by omega) (fun c => ?_) (fun c => ?_)
    · rw [if_neg (by decide), if_pos (nI_le (by omega) (by omega))]
      intro n59 e59
      rw [zn_p1] at e59
      subst e59
      unfold wp_X6_readNumber_L4
      rw [if_pos (nI_lt (by omega) (by omega))]
      rw [if_pos c] at hK'
      exact hK'
    · rw [if_pos rfl]
      rw [if_neg c] at hK'
      by_cases d0 : d = 0
      · rw [if_pos ⟨d0, rfl⟩] at hK'
        rw [d0, if_pos (by decide)]; exact hK'
      · rw [if_neg (fun q => d0 q.1)] at hK'
        rw [if_neg (nI_ne0 (by omega) (by omega))]; exact hK'
  | f + 1, d, a, n, M, e, ha, h, hK => by
    have := zlt_b (i := a) hl
    unfold wp_X6_readNumber_L4
    rw [if_neg (nI_nlt (by omega) (by omega))]
    refine zx_sign h hl ha ?_
    refine zx_isDigit (by omega) (fun c => ?_) (fun c => ?_)
    · rw [if_neg (by decide), if_neg (nI_ge (by omega) (by omega))]
      intro n48 e48 M1 e1 n59 e59
      rw [zn_p1] at e59
      rw [zn_step c.1] at e48
      rw [h.2.1, nI_1] at e1
      subst e48; subst e59
      have h1 : zpc lt len (a + 1) st cd M1 := by rw [e1]; exact zpc_at h
      have hal := zlok_lt hl (i := a) (by omega)
      have er : zrd lt (f + 1) a n = zrd lt f (a + 1) (10 * n + (lt a - 48)) := by
        show (if 48 ≤ lt a ∧ lt a ≤ 57 then _ else _) = _
        rw [if_pos c]
      rw [er] at hK
      refine zx_numL hl hm f (d + 1) (a + 1) (10 * n + (lt a - 48)) M1 (by omega) (by omega) h1 (fun M' h' f' => ?_)
      have hk := hK M' h' (zFe_trans (by rw [e1]; exact zFe_u (by omega)) f')
      have hge := (zrd_lt lt f (a + 1) (10 * n + (lt a - 48))).1
      rw [if_neg (show ¬ (d = 0 ∧ (zrd lt f (a + 1) (10 * n + (lt a - 48))).1 = a) by omega)] at hk
      rw [if_neg (show ¬ (d + 1 = 0 ∧ (zrd lt f (a + 1) (10 * n + (lt a - 48))).1 = a + 1) by omega)]
      exact hk
    · have er : zrd lt (f + 1) a n = (a, n) := by
        show (if 48 ≤ lt a ∧ lt a ≤ 57 then _ else _) = _
        rw [if_neg c]
      rw [er] at hK
      have hK' := hK M h zFe_refl
      rw [if_neg c] at hK'
      rw [if_pos rfl]
      by_cases d0 : d = 0
      · rw [if_pos ⟨d0, rfl⟩] at hK'
        rw [d0, if_pos (by decide)]; exact hK'
      · rw [if_neg (fun q => d0 q.1)] at hK'
        rw [if_neg (nI_ne0 (by omega) (by omega))]; exact hK'
theorem zx_num {lt : Nat → Nat} {len m a : Nat} {st cd : List Nat} {M : gM} {K : Int32 → gM → Prop} (hl : zlok lt len) (hm : m ≤ 6) (ha : a ≤ len) (h : zpc lt len a st cd M) (hK : ∀ M', zpc lt len (zrd lt m a 0).1 st cd M' → zFe M M' → K (if 48 ≤ lt (zrd lt m a 0).1 ∧ lt (zrd lt m a 0).1 ≤ 57 then -1 else if (zrd lt m a 0).1 = a then -1 else nI (zrd lt m a 0).2) M') : wp_X6_readNumber 0 (nI m) M K := ⟨m + 2, zx_numL hl hm m 0 a 0 M (by omega) ha h (fun M' h' f' => by
  have := hK M' h' f'
  by_cases c : (zrd lt m a 0).1 = a
  · rw [if_pos (show 0 = 0 ∧ (zrd lt m a 0).1 = a from ⟨rfl, c⟩)]
    rw [if_pos c] at this
    exact this
  · rw [if_neg (show ¬ (0 = 0 ∧ (zrd lt m a 0).1 = a) from fun q => c q.2)]
    rw [if_neg c] at this
    exact this)⟩
theorem zix6 : ∀ c, c < 127 → g_sIx 6 (nI c) = if zvr c = 10 then -1 else nI (zvr c) := by decide +kernel
theorem zx_ix6 {c : Nat} {M : gM} {K : Int32 → gM → Prop} (hc : c < 127) (hK : K (if zvr c = 10 then -1 else nI (zvr c)) M) : wp_S_indexOf 6 (nI c) M K := by
  refine ⟨by decide, by decide, nI_pos' (by omega), zk_lt (c := 128) (a := 128) rfl (by omega) (by omega), ?_⟩
  rw [zix6 c hc]; exact hK
theorem zsubsub (x : Int32) : -1 - (-1 - x) = x := by
  rw [Int32.sub_eq_add_neg, Int32.sub_eq_add_neg (-1) x, Int32.neg_add, Int32.sub_eq_add_neg, Int32.neg_neg, ← Int32.add_assoc]
  rw [show (-1 : Int32) + 1 = 0 by decide, Int32.zero_add, Int32.neg_neg]
/-- an operand -/
theorem zx_oprd {lt : Nat → Nat} {rk len k0 a : Nat} {st cd : List Nat} {x2 : Int32} {M : gM} {K : Int32 → gM → Prop} (hl : zlok lt len) (hi : zpi rk len k0 1 a st cd) (hr : x2 = 0 ↔ rk = 0) (h : zpc lt len a st cd M) (h0 : (zoprd lt rk a st cd).1 = 0 → ∀ M', M'.1 6 0 3 = nI (zoprd lt rk a st cd).2.1 → zFe M M' → K 3 M') (h1 : (zoprd lt rk a st cd).1 = 1 → ∀ M', zpc lt len (zoprd lt rk a st cd).2.1 (zoprd lt rk a st cd).2.2.1 (zoprd lt rk a st cd).2.2.2 M' → zFe M M' → K 0 M') (h2 : (zoprd lt rk a st cd).1 = 2 → ∀ cdx M', zpc lt len (zoprd lt rk a st cd).2.1 st cdx M' → zpop4 st cdx = (zoprd lt rk a st cd).2.2 → cdx.length = cd.length + 1 → zFe M M' → K 1 M') : wp_X6_readOperand 0 (nI (lt a)) x2 M K := by
  have hb := zlt_b (i := a) hl
  have hlen := hl.1
  obtain ⟨p1, p2, p3, p4, p5, p6, p7, p8⟩ := hi
  unfold wp_X6_readOperand
  refine zx_isDigit (by omega) (fun c1 => ?_) (fun c1 => ?_)
  · rw [if_neg (by decide)]
    have rv := zrd_val lt 6 a 0
    have ra : a < (zrd lt 6 a 0).1 := by
      have e : (zrd lt 6 a 0).1 = (zrd lt 5 (a + 1) (10 * 0 + (lt a - 48))).1 := by
        show (if 48 ≤ lt a ∧ lt a ≤ 57 then _ else _ : Nat × Nat).1 = _
        rw [if_pos c1]
      have := (zrd_lt lt 5 (a + 1) (10 * 0 + (lt a - 48))).1
      omega
    refine zx_num (m := 6) hl (by omega) p2 h (fun M1 hM1 f1 => ?_)
    unfold zoprd at h0 h2
    rw [if_pos c1] at h0 h2
    by_cases c2 : 48 ≤ lt (zrd lt 6 a 0).1 ∧ lt (zrd lt 6 a 0).1 ≤ 57
    · rw [if_pos c2] at h0 ⊢
      rw [if_neg (by decide)]
      exact h0 rfl M1 hM1.2.1 f1
    · rw [if_neg c2] at h2 ⊢
      rw [if_neg (show ¬ (zrd lt 6 a 0).1 = a by omega), if_pos (nI_pos' (by omega))]
      have al := zlok_lt hl (i := a) (by omega)
      refine zx_emit (c := 17 + (zrd lt 6 a 0).2) hM1 (by omega) (by rw [zcst_num (by omega)]; congr 1; omega) (fun M2 hM2 f2 => ?_)
      exact h2 rfl _ M2 hM2 rfl (by simp) (zFe_trans f1 f2)
  · rw [if_pos rfl]
    unfold zoprd at h0 h1 h2
    rw [if_neg c1] at h0 h1 h2
    have at1 : ∀ {M1 M2 : gM} {s : List Nat}, zpc lt len a s cd M1 → M2 = g_uI M1 6 0 3 ((M1.1 6 0 3) + 1) → zpc lt len (a + 1) s cd M2 ∧ zFe M1 M2 := fun {M1 M2 s} q e => by
      rw [q.2.1, nI_1] at e
      rw [e]
      exact ⟨zpc_at q, zFe_u (by omega)⟩
    by_cases c2 : lt a = 45
    · rw [if_pos c2] at h1
      have al := zlok_lt hl (i := a) (by omega)
      rw [c2, if_pos (by decide)]
      unfold wp_X6_readOperand_b42 wp_X6_readOperand_b55
      rw [if_pos (by decide)]
      refine zx_push (s := 4) h (by omega) (by decide) (fun M1 hM1 f1 => ?_)
      intro M2 e2
      obtain ⟨q1, q2⟩ := at1 hM1 e2
      exact h1 rfl M2 q1 (zFe_trans f1 q2)
    · rw [if_neg c2] at h0 h1 h2
      rw [if_neg (zk_ne (c := 45) (a := 45) rfl c2 (by omega) (by omega))]
      by_cases c3 : lt a = 40
      · rw [if_pos c3] at h1
        have al := zlok_lt hl (i := a) (by omega)
        rw [c3, if_pos (by decide)]
        unfold wp_X6_readOperand_b42 wp_X6_readOperand_b55
        rw [if_neg (by decide)]
        refine zx_push (s := 7) h (by omega) (by decide) (fun M1 hM1 f1 => ?_)
        intro M2 e2
        obtain ⟨q1, q2⟩ := at1 hM1 e2
        exact h1 rfl M2 q1 (zFe_trans f1 q2)
      · rw [if_neg c3] at h0 h1 h2
        rw [if_neg (zk_ne (c := 40) (a := 40) rfl c3 (by omega) (by omega))]
        have mm : ∀ (s : Nat), (s = 8 ∧ lt a = 77) ∨ (s = 9 ∧ lt a = 109) → (lt (a + 1) = 40 → ∀ M', zpc lt len (a + 2) (s :: st) cd M' → zFe M M' → K 0 M') → (lt (a + 1) ≠ 40 → ∀ M', M'.1 6 0 3 = nI (a + 1) → zFe M M' → K 3 M') → wp_X6_readOperand_b82 K 0 (nI (lt a)) M := fun s hs k1 k0' => by
          have al := zlok_lt hl (i := a) (by omega)
          have hb2 := zlt_b (i := a + 1) hl
          unfold wp_X6_readOperand_b82
          intro M1 e1
          obtain ⟨q1, q2⟩ := at1 h e1
          refine zx_sign q1 hl (by omega) ?_
          by_cases c5 : lt (a + 1) = 40
          · have al2 := zlok_lt hl (i := a + 1) (by omega)
            rw [c5, if_pos (by decide)]
            refine zx_push (s := s) q1 (by omega) (by rcases hs with z | z <;> (rw [z.1, z.2]; decide)) (fun M2 hM2 f2 => ?_)
            intro M3 e3
            rw [hM2.2.1, nI_1] at e3
            refine k1 c5 M3 (by rw [e3]; exact zpc_at hM2) (zFe_trans q2 (zFe_trans f2 (by rw [e3]; exact zFe_u (by omega))))
          · rw [if_neg (zk_ne (c := 40) (a := 40) rfl c5 (by omega) (by omega))]
            exact k0' c5 M1 q1.2.1 q2
        by_cases c4 : lt a = 77
        · rw [if_pos c4] at h0 h1
          rw [if_pos (by rw [c4]; decide)]
          refine mm 8 (Or.inl ⟨rfl, c4⟩) (fun c5 M' a' b' => ?_) (fun c5 M' a' b' => ?_)
          · rw [if_pos c5] at h1; exact h1 rfl M' a' b'
          · rw [if_neg c5] at h0; exact h0 rfl M' a' b'
        · rw [if_neg c4] at h0 h1 h2
          rw [if_neg (zk_ne (c := 77) (a := 77) rfl c4 (by omega) (by omega))]
          by_cases c6 : lt a = 109
          · rw [if_pos c6] at h0 h1
            rw [if_pos (by rw [c6]; decide)]
            refine mm 9 (Or.inr ⟨rfl, c6⟩) (fun c5 M' a' b' => ?_) (fun c5 M' a' b' => ?_)
            · rw [if_pos c5] at h1; exact h1 rfl M' a' b'
            · rw [if_neg c5] at h0; exact h0 rfl M' a' b'
          · rw [if_neg c6] at h0 h1 h2
            rw [if_neg (zk_ne (c := 109) (a := 109) rfl c6 (by omega) (by omega))]
            refine zx_ix6 (by omega) ?_
            have hv := zvr_le (lt a)
            by_cases c7 : zvr (lt a) = 10 ∨ (zvr (lt a) = 9 ∧ rk = 0)
            · rw [if_pos c7] at h0
              have k3 := h0 rfl M h.2.1 zFe_refl
              by_cases c8 : zvr (lt a) = 10
              · rw [if_pos c8, if_pos (by decide)]; exact k3
              · rw [if_neg c8, if_neg (nI_pos (by omega)), if_pos (by rw [show zvr (lt a) = 9 by omega]; decide), if_pos (hr.mpr (by omega))]; exact k3
            · rw [if_neg c7] at h2
              have al := zlok_lt hl (i := a) (zvr_nz (by omega))
              have fin : wp_X6_readOperand_b143 K 0 (nI (zvr (lt a))) M := by
                unfold wp_X6_readOperand_b143
                refine zx_emit (c := 7 + zvr (lt a)) h (by omega) (by
                  have := (zcst_var (c := 7 + zvr (lt a)) (by omega) (by omega)).2.2
                  rw [show 7 + zvr (lt a) - 7 = zvr (lt a) by omega] at this
                  rw [← this]
                  exact zsubsub _) (fun M1 hM1 f1 => ?_)
                intro M2 e2
                rw [hM1.2.1, nI_1] at e2
                refine h2 rfl _ M2 (by rw [e2]; exact zpc_at hM1) rfl (by simp) (zFe_trans f1 (by rw [e2]; exact zFe_u (by omega)))
              rw [if_neg (fun q => c7 (Or.inl q)), if_neg (nI_pos (by omega))]
              by_cases c9 : zvr (lt a) = 9
              · rw [if_pos (by rw [c9]; decide), if_neg (fun q => c7 (Or.inr ⟨c9, hr.mp q⟩))]; exact fin
              · rw [if_neg (zk_ne (c := 9) (a := 9) rfl c9 (by omega) (by omega))]; exact fin
