theorem zpm_u {lt : Nat → Nat} {len a k o i : Nat} {st cd : List Nat} {v : Int32} {M : gM} (h : zpm lt len a st cd M) (hn : ¬ ((k = 9 ∧ o = 0 ∧ (i = 10 ∨ i = 11 ∨ i = 15 ∨ i = 17)) ∨ (k = 53 ∧ o = 0) ∨ (k = 56 ∧ o = 0))) : zpm lt len a st cd (g_uI M k o i v) := by
  obtain ⟨h1, h2, h3, h4, h5, h6, h7⟩ := h
  refine ⟨?_, ?_, fun j hj => ?_, ?_, ?_, ?_, h7⟩
  · rw [zuI, if_neg (by omega)]; exact h1
  · rw [zuI, if_neg (by omega)]; exact h2
  · rw [zuI, if_neg (by omega)]; exact h3 j hj
  · rw [zuI, if_neg (by omega)]; exact h4
  · refine zrs_congr h5 (fun q hq => ?_)
    rw [zuI, if_neg (by omega)]
  · rw [zuI, if_neg (by omega)]; exact h6
def zFz (P : Nat → Nat → Nat → Prop) (M0 M : gM) : Prop := (∀ k o i, ¬ P k o i → M.1 k o i = M0.1 k o i) ∧ ∀ k o, ¬ (k = 55 ∧ o = 0) → M.2 k o = M0.2 k o
theorem zFz_refl {P : Nat → Nat → Nat → Prop} {M : gM} : zFz P M M := ⟨fun _ _ _ _ => rfl, fun _ _ _ => rfl⟩
theorem zFz_trans {P : Nat → Nat → Nat → Prop} {M0 M1 M2 : gM} (h : zFz P M0 M1) (h2 : zFz P M1 M2) : zFz P M0 M2 := ⟨fun k o i q => (h2.1 k o i q).trans (h.1 k o i q), fun k o q => (h2.2 k o q).trans (h.2 k o q)⟩
theorem zFz_u {P : Nat → Nat → Nat → Prop} {M : gM} {k o i : Nat} {v : Int32} (h : P k o i) : zFz P M (g_uI M k o i v) := ⟨fun a b c q => by rw [zuI, if_neg (fun z => q (by rw [z.1, z.2.1, z.2.2]; exact h))], fun _ _ _ => rfl⟩
theorem zFz_w {P Q : Nat → Nat → Nat → Prop} {M0 M : gM} (h : zFz P M0 M) (hq : ∀ k o i, P k o i → Q k o i) : zFz Q M0 M := ⟨fun k o i q => h.1 k o i (fun z => q (hq k o i z)), h.2⟩
def yQe (k o i : Nat) : Prop := (k = 9 ∧ o = 0 ∧ (i = 11 ∨ i = 15 ∨ i = 17)) ∨ (k = 56 ∧ o = 0)
theorem zFm_z {M0 M : gM} {P : Nat → Nat → Nat → Prop} (h : zFm M0 M) (hp : ∀ k o i, yQe k o i → P k o i) : zFz P M0 M := ⟨fun k o i q => h.1 k o i (fun z => q (hp k o i z)), h.2⟩
theorem zix54 (x k : Nat) : 12 * nI x + nI k = nI (12 * x + k) := by
  rw [show (12 : Int32) * nI x = nI (12 * x) from pk_mul 12 x, nI_add]
def yQp (x k o i : Nat) : Prop := yQe k o i ∨ (k = 54 ∧ o = 0 ∧ 12 * x + 7 ≤ i ∧ i ≤ 12 * x + 10)
theorem zy_prog {lt : Nat → Nat} {len a x : Nat} {st cd : List Nat} {M : gM} {K : Int32 → gM → Prop} (hl : zlok lt len) (hx : x < 12) (h : zpm lt len a st cd M) (ha : a ≤ len) (hc : cd.length ≤ a) (h0 : (yprog lt a cd).1 = 0 → ∀ M', M'.1 9 0 11 = nI (yprog lt a cd).2.1 → zFz (yQp x) M M' → K 0 M') (h1 : (yprog lt a cd).1 = 1 → ∀ M', zpm lt len (yprog lt a cd).2.1 [] (yprog lt a cd).2.2.2 M' → M'.1 54 0 (12 * x + 7) = nI cd.length → M'.1 54 0 (12 * x + 8) = nI ((yprog lt a cd).2.2.1 - cd.length) → M'.1 54 0 (12 * x + 9) = nI (yprog lt a cd).2.2.1 → M'.1 54 0 (12 * x + 10) = nI ((yprog lt a cd).2.2.2.length - (yprog lt a cd).2.2.1) → zFz (yQp x) M M' → K 1 M') : wp_X9_readsProgram 0 (nI x) M K := by
  have hlen := hl.1
  have hpe : ∀ k o i, yQe k o i → yQp x k o i := fun _ _ _ z => Or.inl z
  have i7 : 12 * nI x + 7 = nI (12 * x + 7) := zix54 x 7
  have i8 : 12 * nI x + 8 = nI (12 * x + 8) := zix54 x 8
  have i9 : 12 * nI x + 9 = nI (12 * x + 9) := zix54 x 9
  have i10 : 12 * nI x + 10 = nI (12 * x + 10) := zix54 x 10
  have up : ∀ {i : Nat} {v : Int32} {M0 M1 : gM}, 12 * x + 7 ≤ i ∧ i ≤ 12 * x + 10 → M1 = g_uI M0 54 0 i v → zFz (yQp x) M0 M1 := fun {i v M0 M1} q e => by
    rw [e]; exact zFz_u (Or.inr ⟨rfl, rfl, q⟩)
  unfold wp_X9_readsProgram
  rw [i7, i8, i9]
  refine ⟨vp_in_nI (by omega) (by omega), ?_⟩
  intro M1 e1
  rw [h.2.2.2.2.2.1, nI_clamp (by omega)] at e1
  have z1 : zpm lt len a st cd M1 := by rw [e1]; exact zpm_u h (by omega)
  have f1 : zFz (yQp x) M M1 := up (by omega) e1
  have w7 : M1.1 54 0 (12 * x + 7) = nI cd.length := by rw [e1, zuI, if_pos ⟨rfl, rfl, rfl⟩]
  unfold yprog at h0 h1
  obtain ⟨k1, k2, k3⟩ := zexp_new (rk := 0) hl ha hc
  refine zy_exp (rk := 0) hl ⟨fun _ => rfl, fun _ => rfl⟩ z1 ha hc (fun t M2 e2 f2 => ?_) (fun t M2 z2 f2 => ?_)
  · rw [if_pos rfl]
    unfold yprog2 at h0
    rw [if_pos t] at h0
    exact h0 rfl M2 e2 (zFz_trans f1 (zFm_z f2 hpe))
  · rcases k3 with k3 | ⟨k3, k4, k5, k6, k7⟩
    · omega
    have hpl := k4.length_le
    generalize zexp lt 0 122 1 a [] cd = r at k1 k2 k3 k5 h0 h1 z2 hpl
    unfold yprog2 at h0 h1
    rw [if_neg (show ¬ r.1 = 0 by omega)] at h0 h1
    rw [if_neg (by decide)]
    have w7' : M2.1 54 0 (12 * x + 7) = nI cd.length := by rw [f2.1 54 0 (12 * x + 7) (by omega)]; exact w7
    refine ⟨vp_in_nI (by omega) (by omega), vp_in_nI (by omega) (by omega), ?_⟩
    intro M3 e3
    rw [z2.2.2.2.2.2.1, nI_clamp (by omega), nI_clamp (by omega), w7', zn_sub hpl] at e3
    refine ⟨vp_in_nI (by omega) (by omega), ?_⟩
    have z3 : zpm lt len r.2.1 [] r.2.2 M3 := by rw [e3]; exact zpm_u z2 (by omega)
    intro M4 e4
    rw [z3.2.2.2.2.2.1, nI_clamp (by omega)] at e4
    have z4 : zpm lt len r.2.1 [] r.2.2 M4 := by rw [e4]; exact zpm_u z3 (by omega)
    have f4 : zFz (yQp x) M M4 := zFz_trans f1 (zFz_trans (zFm_z f2 hpe) (zFz_trans (up (by omega) e3) (up (by omega) e4)))
    have a7 : M4.1 54 0 (12 * x + 7) = nI cd.length := by rw [e4, zuI, if_neg (by omega), e3, zuI, if_neg (by omega)]; exact w7'
    have a8 : M4.1 54 0 (12 * x + 8) = nI (r.2.2.length - cd.length) := by rw [e4, zuI, if_neg (by omega), e3, zuI, if_pos ⟨rfl, rfl, rfl⟩]
    have a9 : M4.1 54 0 (12 * x + 9) = nI r.2.2.length := by rw [e4, zuI, if_pos ⟨rfl, rfl, rfl⟩]
    have fin : ∀ (a' : Nat) (cd' : List Nat) (M5 : gM), r.2.2.length ≤ cd'.length → (∀ M', zpm lt len a' [] cd' M' → M'.1 54 0 (12 * x + 7) = nI cd.length → M'.1 54 0 (12 * x + 8) = nI (r.2.2.length - cd.length) → M'.1 54 0 (12 * x + 9) = nI r.2.2.length → M'.1 54 0 (12 * x + 10) = nI (cd'.length - r.2.2.length) → zFz (yQp x) M M' → K 1 M') → zpm lt len a' [] cd' M5 → M5.1 54 0 (12 * x + 7) = nI cd.length → M5.1 54 0 (12 * x + 8) = nI (r.2.2.length - cd.length) → M5.1 54 0 (12 * x + 9) = nI r.2.2.length → zFz (yQp x) M M5 → wp_X9_readsProgram_b104 K 0 (nI x) M5 := fun a' cd' M5 hle kk z5 b7 b8 b9 f5 => by
      unfold wp_X9_readsProgram_b104
      rw [i9, i10]
      refine ⟨vp_in_nI (by omega) (by omega), vp_in_nI (by omega) (by omega), ?_⟩
      intro M6 e6
      rw [z5.2.2.2.2.2.1, nI_clamp (by omega), nI_clamp (by omega), b9, zn_sub hle] at e6
      refine kk M6 (by rw [e6]; exact zpm_u z5 (by omega)) ?_ ?_ ?_ ?_ (zFz_trans f5 (up (by omega) e6))
      · rw [e6, zuI, if_neg (by omega)]; exact b7
      · rw [e6, zuI, if_neg (by omega)]; exact b8
      · rw [e6, zuI, if_neg (by omega)]; exact b9
      · rw [e6, zuI, if_pos ⟨rfl, rfl, rfl⟩]
    rw [z4.2.1]
    refine zy_letter z4.1 z4.2.2.1 hl (by omega) ?_
    by_cases c : lt r.2.1 = 58
    · rw [if_pos c] at h0 h1
      rw [if_pos (show zlI lt len r.2.1 = 58 from (zlI_eq (n := 58) hl rfl (by omega) (by omega)).mpr c)]
      have al := zlok_lt hl (i := r.2.1) (by omega)
      intro M5 e5
      rw [z4.2.1, nI_1] at e5
      have z5 : zpm lt len (r.2.1 + 1) [] r.2.2 M5 := by rw [e5]; exact zpm_at z4
      have f5 : zFz (yQp x) M M5 := zFz_trans f4 (by rw [e5]; exact zFz_u (Or.inl (Or.inl ⟨rfl, rfl, Or.inl rfl⟩)))
      have s5 : ∀ j, M5.1 54 0 j = M4.1 54 0 j := fun j => by rw [e5, zuI, if_neg (by omega)]
      have j3 := (zexp_new (rk := 1) (a := r.2.1 + 1) (cd := r.2.2) hl al (by omega)).2.2
      refine zy_exp (rk := 1) hl ⟨fun q => absurd q (by decide), fun q => absurd q (by decide)⟩ z5 al (by omega) (fun t M6 e6 f6 => ?_) (fun t M6 z6 f6 => ?_)
      · rw [if_pos rfl]
        exact h0 t M6 e6 (zFz_trans f5 (zFm_z f6 hpe))
      · rw [if_neg (by decide)]
        have s6 : ∀ j, M6.1 54 0 j = M4.1 54 0 j := fun j => (f6.1 54 0 j (by omega)).trans (s5 j)
        rcases j3 with j3 | j3
        · omega
        exact fin _ _ M6 j3.2.1.length_le (h1 t) z6 ((s6 _).trans a7) ((s6 _).trans a8) ((s6 _).trans a9) (zFz_trans f5 (zFm_z f6 hpe))
    · rw [if_neg c] at h1
      rw [if_neg (show ¬ zlI lt len r.2.1 = 58 from fun z => c ((zlI_eq (n := 58) hl rfl (by omega) (by omega)).mp z))]
      exact fin _ _ M4 (Nat.le_refl _) (h1 rfl) z4 a7 a8 a9 f4
