/-! a node, the reference -/
theorem zn_stepM {n c : Nat} (hc : 48 ≤ c) : 10 * nI n + nI c - 48 = nI (10 * n + (c - 48)) := by
  have e2 : 10 * nI n = nI (10 * n) := pk_mul 10 n
  have e1 : nI (10 * n + c) - 48 = nI (10 * n + c - 48) := zn_sub (b := 48) (by omega)
  rw [e2, nI_add, e1]
  congr 1
  omega
theorem zy_num4L {lt : Nat → Nat} {len a0 : Nat} {st cd : List Nat} {K : Int32 → gM → Prop} (hl : zlok lt len) : ∀ (f d a n : Nat) (M : gM), d + f = 4 → a = a0 + d → a ≤ len → zpm lt len a st cd M → ((48 ≤ lt (zrd lt f a n).1 ∧ lt (zrd lt f a n).1 ≤ 57) ∨ (zrd lt f a n).1 = a0 → ∀ M', zpm lt len (zrd lt f a n).1 st cd M' → zFm M M' → K (-1) M') → (¬ ((48 ≤ lt (zrd lt f a n).1 ∧ lt (zrd lt f a n).1 ≤ 57) ∨ (zrd lt f a n).1 = a0) → ∀ M', zpm lt len (zrd lt f a n).1 st cd M' → zFm M M' → K (nI (zrd lt f a n).2) M') → wp_X9_readsNumber_L7 K (f + 1) 0 (nI a0) (nI n) M
  | 0, d, a, n, M, e, ea, ha, h, k1, k0 => by
    have hlen := hl.1
    have e1 : (zrd lt 0 a n) = (a, n) := rfl
    rw [e1] at k1 k0
    unfold wp_X9_readsNumber_L7
    rw [h.2.1]
    refine zy_isDigit h.1 h.2.2.1 hl (by omega) (fun c => ?_) (fun c => ?_)
    · rw [if_neg (by decide), h.2.1, zn_sub (by omega), if_pos (by rw [show a - a0 = 4 by omega]; decide)]
      exact k1 (Or.inl c) M h zFm_refl
    · rw [if_pos rfl, h.2.1, if_neg (fun q => by have := (nI_eq (by omega) (by omega)).mp q; omega)]
      exact k0 (fun q => q.elim c (fun z => by have z : a = a0 := z; omega)) M h zFm_refl
  | f + 1, d, a, n, M, e, ea, ha, h, k1, k0 => by
    have hlen := hl.1
    unfold wp_X9_readsNumber_L7
    rw [h.2.1]
    refine zy_isDigit h.1 h.2.2.1 hl (by omega) (fun c => ?_) (fun c => ?_)
    · have al := zlok_lt hl (i := a) (by omega)
      have er : zrd lt (f + 1) a n = zrd lt f (a + 1) (10 * n + (lt a - 48)) := by
        show (if 48 ≤ lt a ∧ lt a ≤ 57 then _ else _) = _
        rw [if_pos c]
      rw [er] at k1 k0
      rw [if_neg (by decide), h.2.1, zn_sub (by omega), if_neg (zk_ne (c := 4) (a := 4) rfl (by omega) (by omega) (by omega))]
      refine ⟨vp_in_nI (by omega) (by omega), ?_⟩
      intro n47 e47 M1 e1
      rw [nI_clamp (by omega), h.2.2.1 a al, zn_stepM c.1] at e47
      rw [nI_1] at e1
      subst e47
      have h1 : zpm lt len (a + 1) st cd M1 := by rw [e1]; exact zpm_at h
      have f1 : zFm M M1 := by rw [e1]; exact zFm_u (by omega)
      exact zy_num4L hl f (d + 1) (a + 1) _ M1 (by omega) (by omega) (by omega) h1 (fun z M' a' b' => k1 z M' a' (zFm_trans f1 b')) (fun z M' a' b' => k0 z M' a' (zFm_trans f1 b'))
    · have er : zrd lt (f + 1) a n = (a, n) := by
        show (if 48 ≤ lt a ∧ lt a ≤ 57 then _ else _) = _
        rw [if_neg c]
      rw [er] at k0 k1
      rw [if_pos rfl, h.2.1]
      by_cases c2 : a = a0
      · rw [if_pos (by rw [c2])]
        exact k1 (Or.inr c2) M h zFm_refl
      · rw [if_neg (fun q => c2 ((nI_eq (by omega) (by omega)).mp q))]
        exact k0 (fun q => q.elim c c2) M h zFm_refl
theorem zy_num4 {lt : Nat → Nat} {len a : Nat} {st cd : List Nat} {M : gM} {K : Int32 → gM → Prop} (hl : zlok lt len) (ha : a ≤ len) (h : zpm lt len a st cd M) (h0 : (ynum lt a).1 = 0 → ∀ M', zpm lt len (ynum lt a).2.1 st cd M' → zFm M M' → K (-1) M') (h1 : (ynum lt a).1 = 1 → ∀ M', zpm lt len (ynum lt a).2.1 st cd M' → zFm M M' → K (nI (ynum lt a).2.2) M') : wp_X9_readsNumber 0 M K := by
  unfold wp_X9_readsNumber
  intro n4 e4
  rw [h.2.1] at e4
  subst e4
  unfold ynum at h0 h1
  refine ⟨4 + 1, zy_num4L hl 4 0 a 0 M (by omega) (by omega) ha h (fun c M' z f => ?_) (fun c M' z f => ?_)⟩
  · rw [if_pos c] at h0
    exact h0 rfl M' z f
  · rw [if_neg c] at h1
    exact h1 rfl M' z f
/-- the parent: looked ahead for -/
theorem zy_parL {lt : Nat → Nat} {len x a0 : Nat} {st cd : List Nat} {M : gM} {K : Int32 → gM → Prop} (hl : zlok lt len) (hx : x < 12) (ha : a0 ≤ len) (h : zpm lt len a0 st cd M) : ∀ (f d a n : Nat), d + f = 2 → a = a0 + d → n < 10 ^ d → (lt (zrd lt f a n).1 = 60 ∧ (zrd lt f a n).1 ≠ a0 ∧ (zrd lt f a n).2 < x → ∀ M', zpm lt len ((zrd lt f a n).1 + 1) st cd M' → zFm M M' → K (nI (zrd lt f a n).2) M') → (¬ (lt (zrd lt f a n).1 = 60 ∧ (zrd lt f a n).1 ≠ a0 ∧ (zrd lt f a n).2 < x) → K (-1) M) → wp_X9_readsParent_L4 K (f + 1) 0 (nI x) (nI n) (nI d) M := by
  have hlen := hl.1
  have tail : ∀ (d a n : Nat), d ≤ 2 → a = a0 + d → n < 10 ^ d → (lt a = 60 ∧ a ≠ a0 ∧ n < x → ∀ M', zpm lt len (a + 1) st cd M' → zFm M M' → K (nI n) M') → (¬ (lt a = 60 ∧ a ≠ a0 ∧ n < x) → K (-1) M) → wp_X9_readsParent_b48 K 0 (nI x) (nI n) (nI d) M := fun d a n hd ea hn k1 k0 => by
    have hnb : n < 100 := by
      rcases (show d = 0 ∨ d = 1 ∨ d = 2 by omega) with rfl | rfl | rfl <;> omega
    unfold wp_X9_readsParent_b48
    by_cases c0 : d = 0
    · rw [c0, if_pos (by decide)]
      exact k0 (by omega)
    rw [if_neg (nI_ne0 (by omega) (by omega)), h.2.1, nI_add, ← ea]
    refine zy_letter h.1 h.2.2.1 hl (by omega) ?_
    by_cases c1 : lt a = 60
    · rw [if_pos (show zlI lt len a = 60 from (zlI_eq (n := 60) hl rfl (by omega) (by omega)).mpr c1)]
      by_cases c2 : n < x
      · rw [if_pos (nI_lt c2 (by omega))]
        intro M1 e1
        rw [h.2.1, nI_1, nI_add] at e1
        have e : a0 + (d + 1) = a + 1 := by omega
        rw [e] at e1
        exact k1 ⟨c1, by omega, c2⟩ M1 (by rw [e1]; exact zpm_at h) (by rw [e1]; exact zFm_u (by omega))
      · rw [if_neg (nI_nlt (by omega) (by omega))]
        exact k0 (fun q => c2 q.2.2)
    · rw [if_neg (show ¬ zlI lt len a = 60 from fun z => c1 ((zlI_eq (n := 60) hl rfl (by omega) (by omega)).mp z))]
      exact k0 (fun q => c1 q.1)
  intro f
  induction f with
  | zero =>
    intro d a n e ea hn k1 k0
    have hd : d = 2 := by omega
    unfold wp_X9_readsParent_L4
    rw [if_pos (by rw [hd]; decide)]
    exact tail d a n (by omega) ea hn k1 k0
  | succ f ih =>
    intro d a n e ea hn k1 k0
    unfold wp_X9_readsParent_L4
    rw [if_neg (zk_nle (c := 2) (a := 2) rfl (by omega) (by omega)), h.2.1, nI_add, ← ea]
    refine zy_isDigit h.1 h.2.2.1 hl (by omega) (fun c => ?_) (fun c => ?_)
    · have al := zlok_lt hl (i := a) (by omega)
      have er : zrd lt (f + 1) a n = zrd lt f (a + 1) (10 * n + (lt a - 48)) := by
        show (if 48 ≤ lt a ∧ lt a ≤ 57 then _ else _) = _
        rw [if_pos c]
      rw [er] at k1 k0
      rw [if_neg (by decide), h.2.1, nI_add, ← ea]
      refine ⟨vp_in_nI (by omega) (by omega), ?_⟩
      intro n41 e41 n42 e42
      rw [nI_clamp (by omega), h.2.2.1 a al, zn_stepM c.1] at e41
      rw [zn_p1] at e42
      subst e41; subst e42
      refine ih (d + 1) (a + 1) _ (by omega) (by omega) ?_ k1 k0
      rw [Nat.pow_succ]; omega
    · have er : zrd lt (f + 1) a n = (a, n) := by
        show (if 48 ≤ lt a ∧ lt a ≤ 57 then _ else _) = _
        rw [if_neg c]
      rw [er] at k0 k1
      rw [if_pos rfl]
      exact tail d a n (by omega) ea hn k1 k0
