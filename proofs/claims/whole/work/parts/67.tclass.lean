/-! a node, the class -/
theorem zpc_u {lt : Nat → Nat} {len a k o i : Nat} {st cd : List Nat} {v : Int32} {M : gM} (h : zpc lt len a st cd M) (hn : ¬ ((k = 6 ∧ o = 0 ∧ (i = 2 ∨ i = 3 ∨ i = 8)) ∨ (k = 41 ∧ o = 0) ∨ (k = 42 ∧ o = 0) ∨ (k = 5 ∧ o = 5 ∧ i = 10) ∨ (k = 40 ∧ o = 5))) : zpc lt len a st cd (g_uI M k o i v) := by
  obtain ⟨h1, h2, h3, h4, h5, h6, h7⟩ := h
  refine ⟨?_, ?_, fun j hj => ?_, ?_, ?_, ?_, fun j c hc => ?_⟩
  · rw [zuI, if_neg (by omega)]; exact h1
  · rw [zuI, if_neg (by omega)]; exact h2
  · rw [zuI, if_neg (by omega)]; exact h3 j hj
  · rw [zuI, if_neg (by omega)]; exact h4
  · refine zrs_congr h5 (fun q hq => ?_)
    rw [zuI, if_neg (by omega)]
  · rw [zuI, if_neg (by omega)]; exact h6
  · rw [zuI, if_neg (by omega)]; exact h7 j c hc
/-- all but some cells as they were -/
def zFy (P : Nat → Nat → Nat → Prop) (M0 M : gM) : Prop := M.2 = M0.2 ∧ ∀ k o i, ¬ P k o i → M.1 k o i = M0.1 k o i
theorem zFy_refl {P : Nat → Nat → Nat → Prop} {M : gM} : zFy P M M := ⟨rfl, fun _ _ _ _ => rfl⟩
theorem zFy_trans {P : Nat → Nat → Nat → Prop} {M0 M1 M2 : gM} (h : zFy P M0 M1) (h2 : zFy P M1 M2) : zFy P M0 M2 := ⟨h2.1.trans h.1, fun k o i q => (h2.2 k o i q).trans (h.2 k o i q)⟩
theorem zFy_u {P : Nat → Nat → Nat → Prop} {M : gM} {k o i : Nat} {v : Int32} (h : P k o i) : zFy P M (g_uI M k o i v) := ⟨rfl, fun a b c q => by rw [zuI, if_neg (fun z => q (by rw [z.1, z.2.1, z.2.2]; exact h))]⟩
theorem zFy_w {P Q : Nat → Nat → Nat → Prop} {M0 M : gM} (h : zFy P M0 M) (hq : ∀ k o i, P k o i → Q k o i) : zFy Q M0 M := ⟨h.1, fun k o i q => h.2 k o i (fun z => q (hq k o i z))⟩
def yPe (k o i : Nat) : Prop := (k = 6 ∧ o = 0 ∧ (i = 3 ∨ i = 8)) ∨ (k = 42 ∧ o = 0) ∨ (k = 5 ∧ o = 5 ∧ i = 10) ∨ (k = 40 ∧ o = 5)
theorem zFe_y {M0 M : gM} {P : Nat → Nat → Nat → Prop} (h : zFe M0 M) (hp : ∀ k o i, yPe k o i → P k o i) : zFy P M0 M := ⟨h.1, fun k o i q => h.2 k o i (fun z => q (hp k o i z))⟩
def yPp (x k o i : Nat) : Prop := yPe k o i ∨ (k = 6 ∧ o = 0 ∧ (i = 5 ∨ i = 6)) ∨ ((k = 38 ∨ k = 39) ∧ o = 5 ∧ i = x)
theorem zx_prog {lt : Nat → Nat} {len a x : Nat} {st cd : List Nat} {M : gM} {K : Int32 → gM → Prop} (hl : zlok lt len) (hx : x < 12) (h : zpc lt len a st cd M) (ha : a ≤ len) (hc : cd.length ≤ a) (h0 : (yprog lt a cd).1 = 0 → ∀ M', M'.1 6 0 5 = nI a → M'.1 6 0 6 = nI (yprog lt a cd).2.1 → zFy (yPp x) M M' → K 0 M') (h1 : (yprog lt a cd).1 = 1 → ∀ M', zpc lt len (yprog lt a cd).2.1 [] (yprog lt a cd).2.2.2 M' → M'.1 38 5 x = nI (yprog lt a cd).2.2.1 → M'.1 39 5 x = nI (yprog lt a cd).2.2.2.length → M'.1 6 0 6 = M.1 6 0 6 → zFy (yPp x) M M' → K 1 M') : wp_X6_readProgram 0 (nI x) M K := by
  have hlen := hl.1
  have hpe : ∀ k o i, yPe k o i → yPp x k o i := fun _ _ _ z => Or.inl z
  unfold wp_X6_readProgram
  intro M1 e1
  rw [h.2.1] at e1
  have z1 : zpc lt len a st cd M1 := by rw [e1]; exact zpc_u h (by omega)
  have f1 : zFy (yPp x) M M1 := by rw [e1]; exact zFy_u (Or.inr (Or.inl ⟨rfl, rfl, Or.inl rfl⟩))
  have v1 : M1.1 6 0 5 = nI a := by rw [e1, zuI, if_pos ⟨rfl, rfl, rfl⟩]
  have ne5 : ¬ yPe 6 0 5 := by unfold yPe; omega
  have ne6 : ¬ yPe 6 0 6 := by unfold yPe; omega
  have t1 : M1.1 6 0 6 = M.1 6 0 6 := by rw [e1, zuI, if_neg (by omega)]
  unfold yprog at h0 h1
  obtain ⟨k1, k2, k3⟩ := zexp_new (rk := 0) hl ha hc
  refine zx_exp (rk := 0) hl ⟨fun _ => rfl, fun _ => rfl⟩ z1 ha hc (fun t M2 e2 f2 => ?_) (fun t M2 z2 f2 => ?_)
  · rw [if_pos rfl]
    intro M3 e3
    unfold yprog2 at h0
    rw [if_pos t] at h0
    refine h0 rfl M3 ?_ ?_ ?_
    · rw [e3, zuI, if_neg (by omega), f2.2 6 0 5 ne5]; exact v1
    · rw [e3, zuI, if_pos ⟨rfl, rfl, rfl⟩]; exact e2
    · refine zFy_trans f1 (zFy_trans (zFe_y f2 hpe) ?_)
      rw [e3]; exact zFy_u (Or.inr (Or.inl ⟨rfl, rfl, Or.inr rfl⟩))
  · rcases k3 with k3 | ⟨k3, k4, k5, k6, k7⟩
    · omega
    generalize zexp lt 0 122 1 a [] cd = r at k1 k2 k3 k4 k5 h0 h1 z2
    unfold yprog2 at h0 h1
    rw [if_neg (show ¬ r.1 = 0 by omega)] at h0 h1
    rw [if_neg (by decide)]
    refine ⟨vp_in_nI hx (by omega), ?_⟩
    intro M3 e3
    rw [z2.2.2.2.2.2.1, nI_clamp (by omega)] at e3
    have z3 : zpc lt len r.2.1 [] r.2.2 M3 := by rw [e3]; exact zpc_u z2 (by omega)
    have f3 : zFy (yPp x) M M3 := zFy_trans f1 (zFy_trans (zFe_y f2 hpe) (by rw [e3]; exact zFy_u (Or.inr (Or.inr ⟨Or.inl rfl, rfl, rfl⟩))))
    have v3 : M3.1 6 0 5 = nI a := by rw [e3, zuI, if_neg (by omega), f2.2 6 0 5 ne5]; exact v1
    have t3 : M3.1 6 0 6 = M.1 6 0 6 := by rw [e3, zuI, if_neg (by omega), f2.2 6 0 6 ne6]; exact t1
    have w3 : M3.1 38 5 x = nI r.2.2.length := by rw [e3, zuI, if_pos ⟨rfl, rfl, rfl⟩]
    have fin : ∀ (a' : Nat) (cd' : List Nat) (M4 : gM), (∀ M', zpc lt len a' [] cd' M' → M'.1 38 5 x = nI r.2.2.length → M'.1 39 5 x = nI cd'.length → M'.1 6 0 6 = M.1 6 0 6 → zFy (yPp x) M M' → K 1 M') → zpc lt len a' [] cd' M4 → M4.1 38 5 x = nI r.2.2.length → M4.1 6 0 6 = M.1 6 0 6 → zFy (yPp x) M M4 → wp_X6_readProgram_b79 K 0 (nI x) M4 := fun a' cd' M4 kk z4 w4 t4 f4 => by
      unfold wp_X6_readProgram_b79
      refine ⟨vp_in_nI hx (by omega), ?_⟩
      intro M5 e5
      rw [z4.2.2.2.2.2.1, nI_clamp (by omega)] at e5
      refine kk M5 (by rw [e5]; exact zpc_u z4 (by omega)) ?_ ?_ (by rw [e5, zuI, if_neg (by omega)]; exact t4) (zFy_trans f4 (by rw [e5]; exact zFy_u (Or.inr (Or.inr ⟨Or.inr rfl, rfl, rfl⟩))))
      · rw [e5, zuI, if_neg (by omega)]; exact w4
      · rw [e5, zuI, if_pos ⟨rfl, rfl, rfl⟩]
    refine zx_sign z3 hl k1 ?_
    have hb := zlt_b (i := r.2.1) hl
    by_cases c : lt r.2.1 = 58
    · rw [if_pos c] at h0 h1
      rw [if_pos (show nI (lt r.2.1) = 58 by rw [c]; decide)]
      have al := zlok_lt hl (i := r.2.1) (by omega)
      intro M4 e4
      rw [z3.2.1, nI_1] at e4
      have z4 : zpc lt len (r.2.1 + 1) [] r.2.2 M4 := by rw [e4]; exact zpc_at z3
      have f4 : zFy (yPp x) M M4 := zFy_trans f3 (by rw [e4]; exact zFy_u (Or.inl (Or.inl ⟨rfl, rfl, Or.inl rfl⟩)))
      have v4 : M4.1 6 0 5 = nI a := by rw [e4, zuI, if_neg (by omega)]; exact v3
      have w4 : M4.1 38 5 x = nI r.2.2.length := by rw [e4, zuI, if_neg (by omega)]; exact w3
      have t4 : M4.1 6 0 6 = M.1 6 0 6 := by rw [e4, zuI, if_neg (by omega)]; exact t3
      refine zx_exp (rk := 1) hl ⟨fun q => absurd q (by decide), fun q => absurd q (by decide)⟩ z4 al (by omega) (fun t M5 e5 f5 => ?_) (fun t M5 z5 f5 => ?_)
      · rw [if_pos rfl]
        intro M6 e6
        refine h0 t M6 ?_ ?_ ?_
        · rw [e6, zuI, if_neg (by omega), f5.2 6 0 5 ne5]; exact v4
        · rw [e6, zuI, if_pos ⟨rfl, rfl, rfl⟩]; exact e5
        · refine zFy_trans f4 (zFy_trans (zFe_y f5 hpe) ?_)
          rw [e6]; exact zFy_u (Or.inr (Or.inl ⟨rfl, rfl, Or.inr rfl⟩))
      · rw [if_neg (by decide)]
        exact fin _ _ M5 (h1 t) z5 (by rw [f5.2 38 5 x (by omega)]; exact w4) (by rw [f5.2 6 0 6 ne6]; exact t4) (zFy_trans f4 (zFe_y f5 hpe))
    · rw [if_neg c] at h1
      rw [if_neg (zk_ne (c := 58) (a := 58) rfl c (by omega) (by omega))]
      exact fin _ _ M3 (h1 rfl) z3 w3 t3 f3
