/-! the reference reads -/
def zpm (lt : Nat → Nat) (len a : Nat) (st cd : List Nat) (M : gM) : Prop := M.1 9 0 10 = nI len ∧ M.1 9 0 11 = nI a ∧ (∀ i, i < len → M.1 53 0 i = nI (lt i)) ∧ M.1 9 0 17 = nI st.length ∧ zrs zms (M.1 56 0) st ∧ M.1 9 0 15 = nI cd.length ∧ ∀ i c, cd[i]? = some c → M.2 55 0 i = zmst c
def zFm (M0 M : gM) : Prop := (∀ k o i, ¬ ((k = 9 ∧ o = 0 ∧ (i = 11 ∨ i = 15 ∨ i = 17)) ∨ (k = 56 ∧ o = 0)) → M.1 k o i = M0.1 k o i) ∧ ∀ k o, ¬ (k = 55 ∧ o = 0) → M.2 k o = M0.2 k o
theorem zFm_refl {M : gM} : zFm M M := ⟨fun _ _ _ _ => rfl, fun _ _ _ => rfl⟩
theorem zFm_trans {M0 M1 M2 : gM} (h : zFm M0 M1) (h2 : zFm M1 M2) : zFm M0 M2 := ⟨fun k o i q => (h2.1 k o i q).trans (h.1 k o i q), fun k o q => (h2.2 k o q).trans (h.2 k o q)⟩
theorem zFm_u {M : gM} {k o i : Nat} {v : Int32} (h : (k = 9 ∧ o = 0 ∧ (i = 11 ∨ i = 15 ∨ i = 17)) ∨ (k = 56 ∧ o = 0)) : zFm M (g_uI M k o i v) := ⟨fun a b c q => by rw [zuI, if_neg (fun z => q (by rw [z.1, z.2.1, z.2.2]; exact h))], fun _ _ _ => rfl⟩
theorem zFm_l {M : gM} {i : Nat} {v : Int64} : zFm M (g_uL M 55 0 i v) := ⟨fun _ _ _ _ => rfl, fun a b q => by
  show (if a = 55 ∧ b = 0 then _ else M.2 a b) = _
  rw [if_neg q]⟩
def zlI (lt : Nat → Nat) (len a : Nat) : Int32 := if a < len then nI (lt a) else -1
theorem zy_letter {lt : Nat → Nat} {len a : Nat} {M : gM} {K : Int32 → gM → Prop} (h1 : M.1 9 0 10 = nI len) (h3 : ∀ i, i < len → M.1 53 0 i = nI (lt i)) (hl : zlok lt len) (ha : a < 2 ^ 31) (hK : K (zlI lt len a) M) : wp_X9_letter 0 (nI a) M K := by
  have hlen := hl.1
  unfold wp_X9_letter
  unfold zlI at hK
  rw [h1]
  by_cases c : a < len
  · rw [if_neg (nI_ge c (by omega))]
    refine ⟨vp_in_nI (by omega) (by omega), ?_⟩
    rw [nI_clamp (by omega), h3 a c]
    rw [if_pos c] at hK
    exact hK
  · rw [if_pos (nI_le (by omega) (by omega))]
    rw [if_neg c] at hK
    exact hK
theorem zlI_eq {lt : Nat → Nat} {len a n : Nat} {c : Int32} (hl : zlok lt len) (e : c = nI n) (h0 : 0 < n) (hn : n < 2 ^ 31) : zlI lt len a = c ↔ lt a = n := by
  unfold zlI
  rw [e]
  by_cases q : a < len
  · have := hl.2.1 a q
    rw [if_pos q]
    exact nI_eq (by omega) hn
  · rw [if_neg q, hl.2.2 a (by omega)]
    constructor
    · intro z; exact absurd z.symm (zn_neg hn)
    · intro z; omega
theorem zy_isDigit {lt : Nat → Nat} {len a : Nat} {M : gM} {K : Int32 → gM → Prop} (h1 : M.1 9 0 10 = nI len) (h3 : ∀ i, i < len → M.1 53 0 i = nI (lt i)) (hl : zlok lt len) (ha : a < 2 ^ 31) (k1 : 48 ≤ lt a ∧ lt a ≤ 57 → K 1 M) (k0 : ¬ (48 ≤ lt a ∧ lt a ≤ 57) → K 0 M) : wp_X9_isDigit 0 (nI a) M K := by
  unfold wp_X9_isDigit
  refine zy_letter h1 h3 hl ha ?_
  have e48 : (48 : Int64).toInt = 48 := by decide
  have e57 : (57 : Int64).toInt = 57 := by decide
  have ex : (zlI lt len a).toInt = if a < len then (lt a : Int) else -1 := by
    unfold zlI
    by_cases q : a < len
    · have := hl.2.1 a q
      rw [if_pos q, if_pos q]; exact nI_toInt (by omega)
    · rw [if_neg q, if_neg q]; decide
  refine zm_in (fun q => ⟨by decide, k1 ?_⟩) (fun q => ⟨by decide, k0 ?_⟩)
  · rw [e48, e57, ex] at q
    by_cases c : a < len
    · rw [if_pos c] at q; omega
    · rw [if_neg c] at q; omega
  · rw [e48, e57, ex] at q
    by_cases c : a < len
    · rw [if_pos c] at q; omega
    · rw [hl.2.2 a (by omega)]; omega
theorem zpm_at {lt : Nat → Nat} {len a a' : Nat} {st cd : List Nat} {M : gM} (h : zpm lt len a st cd M) : zpm lt len a' st cd (g_uI M 9 0 11 (nI a')) := by
  obtain ⟨h1, h2, h3, h4, h5, h6, h7⟩ := h
  have e : ∀ k o, k ≠ 9 → (g_uI M 9 0 11 (nI a')).1 k o = M.1 k o := fun k o hk => by
    show (if k = 9 ∧ o = 0 then _ else M.1 k o) = _
    rw [if_neg (by omega)]
  refine ⟨?_, ?_, fun i hi => ?_, ?_, ?_, ?_, h7⟩
  · rw [zuI, if_neg (by omega)]; exact h1
  · rw [zuI, if_pos ⟨rfl, rfl, rfl⟩]
  · rw [e 53 0 (by omega)]; exact h3 i hi
  · rw [zuI, if_neg (by omega)]; exact h4
  · rw [e 56 0 (by omega)]; exact h5
  · rw [zuI, if_neg (by omega)]; exact h6
theorem zpm_pop {lt : Nat → Nat} {len a s : Nat} {t cd : List Nat} {M : gM} (h : zpm lt len a (s :: t) cd M) : zpm lt len a t cd (g_uI M 9 0 17 (nI t.length)) := by
  obtain ⟨h1, h2, h3, h4, h5, h6, h7⟩ := h
  have e : ∀ k o, k ≠ 9 → (g_uI M 9 0 17 (nI t.length)).1 k o = M.1 k o := fun k o hk => by
    show (if k = 9 ∧ o = 0 then _ else M.1 k o) = _
    rw [if_neg (by omega)]
  refine ⟨?_, ?_, fun i hi => ?_, ?_, ?_, ?_, h7⟩
  · rw [zuI, if_neg (by omega)]; exact h1
  · rw [zuI, if_neg (by omega)]; exact h2
  · rw [e 53 0 (by omega)]; exact h3 i hi
  · rw [zuI, if_pos ⟨rfl, rfl, rfl⟩]
  · rw [e 56 0 (by omega)]; exact h5.2
  · rw [zuI, if_neg (by omega)]; exact h6
theorem zy_emits {lt : Nat → Nat} {len a : Nat} {st cd : List Nat} {c : Nat} {v : Int64} {M : gM} {K : gM → Prop} (h : zpm lt len a st cd M) (hl : cd.length < 120) (hv : v = zmst c) (hK : ∀ M', zpm lt len a st (cd ++ [c]) M' → zFm M M' → K M') : wp_X9_emits 0 v M K := by
  obtain ⟨h1, h2, h3, h4, h5, h6, h7⟩ := h
  unfold wp_X9_emits
  rw [h6]
  refine ⟨vp_in_nI (by omega) (by omega), ?_⟩
  intro M1 e1 M2 e2
  rw [nI_clamp (by omega), hv] at e1
  have e5 : M1.1 = M.1 := by rw [e1]; rfl
  rw [e5, h6, nI_1] at e2
  refine hK M2 ⟨?_, ?_, fun i hi => ?_, ?_, ?_, ?_, fun i d hd => ?_⟩ ?_
  · rw [e2, zuI, if_neg (by omega), e5]; exact h1
  · rw [e2, zuI, if_neg (by omega), e5]; exact h2
  · rw [e2, zuI, if_neg (by omega), e5]; exact h3 i hi
  · rw [e2, zuI, if_neg (by omega), e5]; exact h4
  · refine zrs_congr h5 (fun k hk => ?_)
    rw [e2, zuI, if_neg (by omega), e5]
  · rw [e2, zuI, if_pos ⟨rfl, rfl, rfl⟩]; simp
  · rw [e2, zuI2, e1, zuL]
    rcases ztx_get hd with q | q
    · rw [if_neg (by omega)]; exact h7 i d q.2
    · rw [if_pos ⟨rfl, rfl, q.1⟩, q.2]
  · rw [e2, e1]
    exact zFm_trans zFm_l (zFm_u (by omega))
/-- a sign goes on top -/
theorem zpm_push {lt : Nat → Nat} {len a s : Nat} {st cd : List Nat} {v : Int32} {M : gM} (h : zpm lt len a st cd M) (hv : v = nI (zms s)) : zpm lt len a (s :: st) cd (g_uI (g_uI M 56 0 st.length v) 9 0 17 (nI (st.length + 1))) := by
  obtain ⟨h1, h2, h3, h4, h5, h6, h7⟩ := h
  refine ⟨?_, ?_, fun i hi => ?_, ?_, ⟨?_, ?_⟩, ?_, h7⟩
  · rw [zuI, if_neg (by omega), zuI, if_neg (by omega)]; exact h1
  · rw [zuI, if_neg (by omega), zuI, if_neg (by omega)]; exact h2
  · rw [zuI, if_neg (by omega), zuI, if_neg (by omega)]; exact h3 i hi
  · rw [zuI, if_pos ⟨rfl, rfl, rfl⟩]; simp
  · rw [zuI, if_neg (by omega), zuI, if_pos ⟨rfl, rfl, rfl⟩]; exact hv
  · refine zrs_congr h5 (fun k hk => ?_)
    rw [zuI, if_neg (by omega), zuI, if_neg (by omega)]
  · rw [zuI, if_neg (by omega), zuI, if_neg (by omega)]; exact h6
theorem zy_top {lt : Nat → Nat} {len a : Nat} {st cd : List Nat} {M : gM} {K : Int32 → gM → Prop} (h : zpm lt len a st cd M) (hl : st.length ≤ 120) (h0 : st = [] → K 0 M) (h1 : ∀ s t, st = s :: t → K (nI (zms s)) M) : wp_X9_top 0 M K := by
  unfold wp_X9_top
  rw [h.2.2.2.1]
  match st, h, h0, h1, hl with
  | [], h, h0, _, _ => exact (if_pos (by decide)).mpr (h0 rfl)
  | s :: t, h, _, h1, hl =>
    rw [if_neg (nI_ne0 (by simp) (by simp at hl ⊢; omega)), zn_s1 (by simp)]
    simp only [List.length_cons, Nat.add_sub_cancel] at hl ⊢
    refine ⟨vp_in_nI (by omega) (by omega), ?_⟩
    rw [nI_clamp (by omega), h.2.2.2.2.1.1]
    exact h1 s t rfl
theorem zy_step {s : Nat} {M : gM} {K : Int64 → gM → Prop} (hs : s < 7) (hK : K (zmst s) M) : wp_X9_stepOf (nI (zms s)) M K := by
  unfold wp_X9_stepOf
  rcases (show s = 0 ∨ s = 1 ∨ s = 2 ∨ s = 3 ∨ s = 4 ∨ s = 5 ∨ s = 6 by omega) with rfl | rfl | rfl | rfl | rfl | rfl | rfl
  · rw [if_pos (by decide)]; exact hK
  · rw [if_neg (by decide), if_pos (by decide)]; exact hK
  · rw [if_neg (by decide), if_neg (by decide), if_pos (by decide)]; exact hK
  · rw [if_neg (by decide), if_neg (by decide), if_neg (by decide), if_pos (by decide)]; exact hK
  · rw [if_neg (by decide), if_neg (by decide), if_neg (by decide), if_neg (by decide), if_pos (by decide)]; exact hK
  · rw [if_neg (by decide), if_neg (by decide), if_neg (by decide), if_neg (by decide), if_neg (by decide), if_pos (by decide)]; exact hK
  · rw [if_neg (by decide), if_neg (by decide), if_neg (by decide), if_neg (by decide), if_neg (by decide), if_neg (by decide)]; exact hK
theorem zy_open {s : Nat} {M : gM} {K : Int32 → gM → Prop} (hs : s ≤ 9) (h1 : 5 ≤ s → K 1 M) (h0 : s < 5 → K 0 M) : wp_X9_isOpen (nI (zms s)) M K := by
  unfold wp_X9_isOpen
  rcases (show s = 0 ∨ s = 1 ∨ s = 2 ∨ s = 3 ∨ s = 4 ∨ s = 5 ∨ s = 6 ∨ s = 7 ∨ s = 8 ∨ s = 9 by omega) with rfl | rfl | rfl | rfl | rfl | rfl | rfl | rfl | rfl | rfl
  iterate 5 (rw [if_neg (by decide), if_neg (by decide), if_neg (by decide), if_neg (by decide), if_neg (by decide)]; exact h0 (by decide))
  · rw [if_neg (by decide), if_neg (by decide), if_neg (by decide), if_pos (by decide)]; exact h1 (by decide)
  · rw [if_neg (by decide), if_neg (by decide), if_neg (by decide), if_neg (by decide), if_pos (by decide)]; exact h1 (by decide)
  · rw [if_pos (by decide)]; exact h1 (by decide)
  · rw [if_neg (by decide), if_pos (by decide)]; exact h1 (by decide)
  · rw [if_neg (by decide), if_neg (by decide), if_pos (by decide)]; exact h1 (by decide)
theorem zy_str {s : Nat} {M : gM} {K : Int32 → gM → Prop} (hs : s < 4) (hK : K (nI (zstr s)) M) : wp_X9_strength (nI (zms s)) M K := by
  unfold wp_X9_strength
  rcases (show s = 0 ∨ s = 1 ∨ s = 2 ∨ s = 3 by omega) with rfl | rfl | rfl | rfl
  · rw [if_pos (by decide)]; exact hK
  · rw [if_neg (by decide), if_pos (by decide)]; exact hK
  · rw [if_neg (by decide), if_neg (by decide)]; exact hK
  · rw [if_neg (by decide), if_neg (by decide)]; exact hK
/-- no minus sign on top or right under an operator -/
def zn4 (st : List Nat) : Prop := znoN st ∧ ∀ t, st ≠ 4 :: t
theorem zn4_tail {s : Nat} {t : List Nat} (h : zn4 (s :: t)) (hs : s < 4) : zn4 t := ⟨znoN_tail h.1, znoN_top h.1 hs⟩
theorem zy_set {lt : Nat → Nat} {len a k : Nat} {K : gM → Prop} (hk : k = 1 ∨ k = 2) : ∀ (st cd : List Nat) (M : gM), zpm lt len a st cd M → cd.length + st.length ≤ 120 → (∀ s ∈ st, s ≤ 9) → zn4 st → (∀ M', zpm lt len a (zset k st cd).1 (zset k st cd).2 M' → zFm M M' → K M') → wp_X9_settles_L0 K (st.length + 1) 0 (nI k) M
  | [], cd, M, h, hl, h9, h4, hK => by
    unfold wp_X9_settles_L0
    rw [h.2.2.2.1]
    exact (if_pos (by decide)).mpr (hK M h zFm_refl)
  | s :: t, cd, M, h, hl, h9, h4, hK => by
    simp only [List.length_cons] at hl
    have hs9 := h9 s List.mem_cons_self
    unfold wp_X9_settles_L0
    rw [h.2.2.2.1, if_neg (zk_nle2 (c := 0) (a := 0) rfl (by simp) (by simp; omega))]
    refine zy_top h (by simp; omega) (fun e => by cases e) (fun s' t' e => ?_)
    injection e with e1 e2
    subst e1; subst e2
    unfold zset at hK
    refine zy_open hs9 (fun c5 => ?_) (fun c5 => ?_)
    · rw [if_neg (by decide)]
      rw [if_neg (fun z => by omega)] at hK
      exact hK M h zFm_refl
    · rw [if_pos rfl]
      have hs4 : s < 4 := by
        have : s ≠ 4 := fun z => h4.2 t (by rw [z])
        omega
      have hz : zstr s ≤ 2 := by unfold zstr; split <;> omega
      refine zy_top h (by simp; omega) (fun e => by cases e) (fun s' t' e => ?_)
      injection e with e1 e2
      subst e1; subst e2
      refine zy_str hs4 ?_
      by_cases c : s < 4 ∧ k ≤ zstr s
      · rw [if_pos c] at hK
        rw [if_neg (nI_nlt c.2 (by omega))]
        intro M1 e1
        rw [h.2.2.2.1, zn_s1 (by simp)] at e1
        simp only [List.length_cons, Nat.add_sub_cancel] at e1
        have h1 := zpm_pop h
        have p1 : M1.1 56 0 t.length = nI (zms s) := by
          rw [e1, zuI, if_neg (by omega)]; exact h.2.2.2.2.1.1
        have f1 : zFm M M1 := by rw [e1]; exact zFm_u (by omega)
        rw [← e1] at h1
        rw [h1.2.2.2.1]
        refine ⟨vp_in_nI (by omega) (by omega), ?_⟩
        rw [nI_clamp (by omega), p1]
        refine zy_step (by omega) ?_
        refine zy_emits (c := s) h1 (by omega) rfl (fun M2 h2 f2 => ?_)
        exact zy_set hk t (cd ++ [s]) M2 h2 (by simp; omega) (fun u hu => h9 u (List.mem_cons_of_mem _ hu)) (zn4_tail h4 hs4) (fun M' a b => hK M' a (zFm_trans (zFm_trans f1 f2) b))
      · rw [if_neg c] at hK
        rw [if_pos (nI_lt (by omega) (by omega))]
        exact hK M h zFm_refl
theorem zy_pop4 {lt : Nat → Nat} {len a : Nat} {K : gM → Prop} : ∀ (st cd : List Nat) (M : gM), zpm lt len a st cd M → cd.length + st.length ≤ 120 → (∀ s ∈ st, s ≤ 9) → (∀ M', zpm lt len a (zpop4 st cd).1 (zpop4 st cd).2 M' → zFm M M' → K M') → wp_X9_isWhole_L0 K (st.length + 1) 0 M
  | [], cd, M, h, hl, h9, hK => by
    unfold wp_X9_isWhole_L0
    refine zy_top h (by simp) (fun _ => ?_) (fun s t e => by cases e)
    rw [if_neg (by decide)]
    exact hK M h zFm_refl
  | s :: t, cd, M, h, hl, h9, hK => by
    simp only [List.length_cons] at hl
    have hs9 := h9 s List.mem_cons_self
    unfold wp_X9_isWhole_L0
    refine zy_top h (by simp; omega) (fun e => by cases e) (fun s' t' e => ?_)
    injection e with e1 e2
    subst e1; subst e2
    unfold zpop4 at hK
    by_cases c : s = 4
    · subst c
      rw [if_pos rfl] at hK
      rw [if_pos (by decide)]
      intro M1 e1
      rw [h.2.2.2.1, zn_s1 (by simp)] at e1
      simp only [List.length_cons, Nat.add_sub_cancel] at e1
      have h1 := zpm_pop h
      have f1 : zFm M M1 := by rw [e1]; exact zFm_u (by omega)
      rw [← e1] at h1
      refine zy_step (s := 4) (by omega) ?_
      refine zy_emits (c := 4) h1 (by omega) rfl (fun M2 h2 f2 => ?_)
      exact zy_pop4 t (cd ++ [4]) M2 h2 (by simp; omega) (fun u hu => h9 u (List.mem_cons_of_mem _ hu)) (fun M' a b => hK M' a (zFm_trans (zFm_trans f1 f2) b))
    · rw [if_neg c] at hK
      rw [if_neg (show ¬ nI (zms s) = 117 by
        rcases (show s = 0 ∨ s = 1 ∨ s = 2 ∨ s = 3 ∨ s = 5 ∨ s = 6 ∨ s = 7 ∨ s = 8 ∨ s = 9 by omega) with rfl | rfl | rfl | rfl | rfl | rfl | rfl | rfl | rfl <;> decide)]
      exact hK M h zFm_refl
/-- the innermost bracket -/
theorem zy_inn {M : gM} {K : Int32 → gM → Prop} : ∀ (st cd : List Nat), zrs zms (M.1 56 0) st → st.length ≤ 120 → (∀ s ∈ st, s ≤ 9) → zn4 st → ((zset 1 st cd).1 = [] → K 0 M) → (∀ b t, (zset 1 st cd).1 = b :: t → K (nI (zms b)) M) → wp_X9_innermost_L7 K (st.length + 1) 0 (nI st.length - 1) M
  | [], cd, h, hl, h9, h4, k0, k1 => by
    unfold wp_X9_innermost_L7
    exact (if_pos (by decide)).mpr (k0 rfl)
  | s :: t, cd, h, hl, h9, h4, k0, k1 => by
    have hs9 := h9 s List.mem_cons_self
    unfold wp_X9_innermost_L7
    rw [zn_s1 (by simp)]
    simp only [List.length_cons, Nat.add_sub_cancel] at hl ⊢
    rw [if_neg (nI_pos (by omega))]
    refine ⟨vp_in_nI (by omega) (by omega), ?_⟩
    rw [nI_clamp (by omega), h.1]
    unfold zset at k0 k1
    refine zy_open hs9 (fun c5 => ?_) (fun c5 => ?_)
    · rw [if_neg (by decide)]
      refine ⟨vp_in_nI (by omega) (by omega), ?_⟩
      rw [h.1]
      rw [if_neg (fun z => by omega)] at k1
      exact k1 s t rfl
    · rw [if_pos rfl]
      have hs4 : s < 4 := by
        have : s ≠ 4 := fun z => h4.2 t (by rw [z])
        omega
      have hz : 1 ≤ zstr s := by unfold zstr; split <;> omega
      rw [if_pos ⟨hs4, hz⟩] at k0 k1
      intro n30 e30
      have e : n30 = nI t.length - 1 := by
        rw [e30, Int32.sub_eq_add_neg, show (Int32.ofInt (-1)) = -1 by decide]
      rw [e]
      exact zy_inn t (cd ++ [s]) h.2 (by omega) (fun u hu => h9 u (List.mem_cons_of_mem _ hu)) (zn4_tail h4 hs4) k0 k1
