/-! the class: a world copied -/
def zsrc (w w1 a b : Nat) : Nat := if a = 3 ∨ (22 ≤ a ∧ a ≤ 25) then 12 * w1 + (b - 12 * w) else w1
def zCP (w w1 : Nat) (P Q : Nat → Nat → Nat → Prop) (M M' : gM) : Prop := (∀ a b c, P a b c → M'.1 a b c = M.1 a (zsrc w w1 a b) c) ∧ (∀ a b c, ¬ P a b c → M'.1 a b c = M.1 a b c) ∧ (∀ a b c, Q a b c → M'.2 a b c = M.2 a (zsrc w w1 a b) c) ∧ (∀ a b c, ¬ Q a b c → M'.2 a b c = M.2 a b c) ∧ (∀ a b c, P a b c ∨ Q a b c → zin w a b ∧ a ≠ 10 ∧ a ≠ 11)
theorem zCP_refl {w w1 : Nat} {M : gM} : zCP w w1 (fun _ _ _ => False) (fun _ _ _ => False) M M := ⟨fun _ _ _ h => h.elim, fun _ _ _ _ => rfl, fun _ _ _ h => h.elim, fun _ _ _ _ => rfl, fun _ _ _ h => h.elim False.elim False.elim⟩
theorem zCP_iff {w w1 : Nat} {P Q P' Q' : Nat → Nat → Nat → Prop} {M M' : gM} (h : zCP w w1 P Q M M') (hP : ∀ a b c, P a b c ↔ P' a b c) (hQ : ∀ a b c, Q a b c ↔ Q' a b c) : zCP w w1 P' Q' M M' := ⟨fun a b c q => h.1 a b c ((hP a b c).mpr q), fun a b c q => h.2.1 a b c (fun z => q ((hP a b c).mp z)), fun a b c q => h.2.2.1 a b c ((hQ a b c).mpr q), fun a b c q => h.2.2.2.1 a b c (fun z => q ((hQ a b c).mp z)), fun a b c q => h.2.2.2.2 a b c (q.elim (fun z => Or.inl ((hP a b c).mpr z)) (fun z => Or.inr ((hQ a b c).mpr z)))⟩
theorem zCP_s1 {w w1 : Nat} {P Q : Nat → Nat → Nat → Prop} {M M' : gM} (h : zCP w w1 P Q M M') {k o c : Nat} (hn : ¬ zin w k o) : M'.1 k o c = M.1 k o c := h.2.1 k o c (fun q => hn (h.2.2.2.2 k o c (Or.inl q)).1)
theorem zCP_s2 {w w1 : Nat} {P Q : Nat → Nat → Nat → Prop} {M M' : gM} (h : zCP w w1 P Q M M') {k o c : Nat} (hn : ¬ zin w k o) : M'.2 k o c = M.2 k o c := h.2.2.2.1 k o c (fun q => hn (h.2.2.2.2 k o c (Or.inr q)).1)
theorem zCP_cI {w w1 : Nat} {P Q : Nat → Nat → Nat → Prop} {M M' : gM} (h : zCP w w1 P Q M M') {k o o1 n : Nat} (ho : zsrc w w1 k o = o1) (hi : zin w k o ∧ k ≠ 10 ∧ k ≠ 11) (hn : ¬ zin w k o1) : zCP w w1 (fun a b c => P a b c ∨ (a = k ∧ b = o ∧ c < n)) Q M (g_cI M' k o1 k o 0 0 n) := by
  refine ⟨fun a b c q => ?_, fun a b c q => ?_, h.2.2.1, h.2.2.2.1, fun a b c q => ?_⟩
  · rw [zcI]
    by_cases e : a = k ∧ b = o ∧ c < n
    · rw [if_pos ⟨e.1, e.2.1, by omega, by omega⟩, e.1, e.2.1, ho, show 0 + (c - 0) = c by omega]
      exact zCP_s1 h hn
    · rw [if_neg (fun z => e ⟨z.1, z.2.1, by omega⟩)]
      exact h.1 a b c (q.elim id (fun z => absurd z e))
  · rw [zcI, if_neg (fun z => q (Or.inr ⟨z.1, z.2.1, by omega⟩))]
    exact h.2.1 a b c (fun z => q (Or.inl z))
  · rcases q with (q | q) | q
    · exact h.2.2.2.2 a b c (Or.inl q)
    · rw [q.1, q.2.1]; exact hi
    · exact h.2.2.2.2 a b c (Or.inr q)
theorem zCP_cL {w w1 : Nat} {P Q : Nat → Nat → Nat → Prop} {M M' : gM} (h : zCP w w1 P Q M M') {k o o1 n : Nat} (ho : zsrc w w1 k o = o1) (hi : zin w k o ∧ k ≠ 10 ∧ k ≠ 11) (hn : ¬ zin w k o1) : zCP w w1 P (fun a b c => Q a b c ∨ (a = k ∧ b = o ∧ c < n)) M (g_cL M' k o1 k o 0 0 n) := by
  refine ⟨h.1, h.2.1, fun a b c q => ?_, fun a b c q => ?_, fun a b c q => ?_⟩
  · rw [zcL]
    by_cases e : a = k ∧ b = o ∧ c < n
    · rw [if_pos ⟨e.1, e.2.1, by omega, by omega⟩, e.1, e.2.1, ho, show 0 + (c - 0) = c by omega]
      exact zCP_s2 h hn
    · rw [if_neg (fun z => e ⟨z.1, z.2.1, by omega⟩)]
      exact h.2.2.1 a b c (q.elim id (fun z => absurd z e))
  · rw [zcL, if_neg (fun z => q (Or.inr ⟨z.1, z.2.1, by omega⟩))]
    exact h.2.2.2.1 a b c (fun z => q (Or.inl z))
  · rcases q with q | q | q
    · exact h.2.2.2.2 a b c (Or.inl q)
    · exact h.2.2.2.2 a b c (Or.inr q)
    · rw [q.1, q.2.1]; exact hi
theorem zCP_uI {w w1 : Nat} {P Q : Nat → Nat → Nat → Prop} {M M' : gM} {v : Int32} (h : zCP w w1 P Q M M') {k o o1 i : Nat} (hv : v = M'.1 k o1 i) (ho : zsrc w w1 k o = o1) (hi : zin w k o ∧ k ≠ 10 ∧ k ≠ 11) (hn : ¬ zin w k o1) : zCP w w1 (fun a b c => P a b c ∨ (a = k ∧ b = o ∧ c = i)) Q M (g_uI M' k o i v) := by
  refine ⟨fun a b c q => ?_, fun a b c q => ?_, h.2.2.1, h.2.2.2.1, fun a b c q => ?_⟩
  · rw [zuI]
    by_cases e : a = k ∧ b = o ∧ c = i
    · rw [if_pos e, e.1, e.2.1, e.2.2, ho, hv]
      exact zCP_s1 h hn
    · rw [if_neg e]
      exact h.1 a b c (q.elim id (fun z => absurd z e))
  · rw [zuI, if_neg (fun z => q (Or.inr z))]
    exact h.2.1 a b c (fun z => q (Or.inl z))
  · rcases q with (q | q) | q
    · exact h.2.2.2.2 a b c (Or.inl q)
    · rw [q.1, q.2.1]; exact hi
    · exact h.2.2.2.2 a b c (Or.inr q)
theorem zCP_uL {w w1 : Nat} {P Q : Nat → Nat → Nat → Prop} {M M' : gM} {v : Int64} (h : zCP w w1 P Q M M') {k o o1 i : Nat} (hv : v = M'.2 k o1 i) (ho : zsrc w w1 k o = o1) (hi : zin w k o ∧ k ≠ 10 ∧ k ≠ 11) (hn : ¬ zin w k o1) : zCP w w1 P (fun a b c => Q a b c ∨ (a = k ∧ b = o ∧ c = i)) M (g_uL M' k o i v) := by
  refine ⟨h.1, h.2.1, fun a b c q => ?_, fun a b c q => ?_, fun a b c q => ?_⟩
  · rw [zuL]
    by_cases e : a = k ∧ b = o ∧ c = i
    · rw [if_pos e, e.1, e.2.1, e.2.2, ho, hv]
      exact zCP_s2 h hn
    · rw [if_neg e]
      exact h.2.2.1 a b c (q.elim id (fun z => absurd z e))
  · rw [zuL, if_neg (fun z => q (Or.inr z))]
    exact h.2.2.2.1 a b c (fun z => q (Or.inl z))
  · rcases q with q | q | q
    · exact h.2.2.2.2 a b c (Or.inl q)
    · exact h.2.2.2.2 a b c (Or.inr q)
    · rw [q.1, q.2.1]; exact hi
theorem zcl0 : (0 : Int32).toNatClampNeg = 0 := rfl
theorem zy_5 {w w1 : Nat} {P Q : Nat → Nat → Nat → Prop} {M N0 : gM} {K : gM → Prop} (hw : w ≠ w1) (h0 : zCP w w1 P Q M N0) (hK : ∀ M', zCP w w1 (fun a b c => (((((((((((P a b c ∨ (a = 5 ∧ b = w ∧ c = 0)) ∨ (a = 5 ∧ b = w ∧ c = 10)) ∨ (a = 32 ∧ b = w ∧ c < 12)) ∨ (a = 33 ∧ b = w ∧ c < 12)) ∨ (a = 34 ∧ b = w ∧ c < 12)) ∨ (a = 35 ∧ b = w ∧ c < 12)) ∨ (a = 36 ∧ b = w ∧ c < 12)) ∨ (a = 37 ∧ b = w ∧ c < 12)) ∨ (a = 38 ∧ b = w ∧ c < 12)) ∨ (a = 39 ∧ b = w ∧ c < 12)) ∨ (a = 40 ∧ b = w ∧ c < 120))) (fun a b c => Q a b c) M M' → K M') : wp_X5_copyFrom w w1 N0 K := by
  unfold wp_X5_copyFrom
  intro N1 f1
  have h1 := zCP_uI h0 (k := 5) (o := w) (o1 := w1) (i := 0) rfl rfl (by unfold zin; omega) (by unfold zin; omega)
  rw [← f1] at h1
  intro N2 f2
  have h2 := zCP_uI h1 (k := 5) (o := w) (o1 := w1) (i := 10) rfl rfl (by unfold zin; omega) (by unfold zin; omega)
  rw [← f2] at h2
  refine ⟨by decide, by decide, by decide, by decide, by decide, ?_⟩
  intro N3 f3
  have f3 : N3 = g_cI N2 32 w1 32 w 0 0 12 := f3
  have h3 := zCP_cI h2 (k := 32) (o := w) (o1 := w1) (n := 12) rfl (by unfold zin; omega) (by unfold zin; omega)
  rw [← f3] at h3
  refine ⟨by decide, by decide, by decide, by decide, by decide, ?_⟩
  intro N4 f4
  have f4 : N4 = g_cI N3 33 w1 33 w 0 0 12 := f4
  have h4 := zCP_cI h3 (k := 33) (o := w) (o1 := w1) (n := 12) rfl (by unfold zin; omega) (by unfold zin; omega)
  rw [← f4] at h4
  refine ⟨by decide, by decide, by decide, by decide, by decide, ?_⟩
  intro N5 f5
  have f5 : N5 = g_cI N4 34 w1 34 w 0 0 12 := f5
  have h5 := zCP_cI h4 (k := 34) (o := w) (o1 := w1) (n := 12) rfl (by unfold zin; omega) (by unfold zin; omega)
  rw [← f5] at h5
  refine ⟨by decide, by decide, by decide, by decide, by decide, ?_⟩
  intro N6 f6
  have f6 : N6 = g_cI N5 35 w1 35 w 0 0 12 := f6
  have h6 := zCP_cI h5 (k := 35) (o := w) (o1 := w1) (n := 12) rfl (by unfold zin; omega) (by unfold zin; omega)
  rw [← f6] at h6
  refine ⟨by decide, by decide, by decide, by decide, by decide, ?_⟩
  intro N7 f7
  have f7 : N7 = g_cI N6 36 w1 36 w 0 0 12 := f7
  have h7 := zCP_cI h6 (k := 36) (o := w) (o1 := w1) (n := 12) rfl (by unfold zin; omega) (by unfold zin; omega)
  rw [← f7] at h7
  refine ⟨by decide, by decide, by decide, by decide, by decide, ?_⟩
  intro N8 f8
  have f8 : N8 = g_cI N7 37 w1 37 w 0 0 12 := f8
  have h8 := zCP_cI h7 (k := 37) (o := w) (o1 := w1) (n := 12) rfl (by unfold zin; omega) (by unfold zin; omega)
  rw [← f8] at h8
  refine ⟨by decide, by decide, by decide, by decide, by decide, ?_⟩
  intro N9 f9
  have f9 : N9 = g_cI N8 38 w1 38 w 0 0 12 := f9
  have h9 := zCP_cI h8 (k := 38) (o := w) (o1 := w1) (n := 12) rfl (by unfold zin; omega) (by unfold zin; omega)
  rw [← f9] at h9
  refine ⟨by decide, by decide, by decide, by decide, by decide, ?_⟩
  intro N10 f10
  have f10 : N10 = g_cI N9 39 w1 39 w 0 0 12 := f10
  have h10 := zCP_cI h9 (k := 39) (o := w) (o1 := w1) (n := 12) rfl (by unfold zin; omega) (by unfold zin; omega)
  rw [← f10] at h10
  refine ⟨by decide, by decide, by decide, by decide, by decide, ?_⟩
  intro N11 f11
  have f11 : N11 = g_cI N10 40 w1 40 w 0 0 120 := f11
  have h11 := zCP_cI h10 (k := 40) (o := w) (o1 := w1) (n := 120) rfl (by unfold zin; omega) (by unfold zin; omega)
  rw [← f11] at h11
  exact hK N11 h11
theorem zy_1 {w w1 : Nat} {P Q : Nat → Nat → Nat → Prop} {M N0 : gM} {K : gM → Prop} (hw : w ≠ w1) (h0 : zCP w w1 P Q M N0) (hK : ∀ M', zCP w w1 (fun a b c => (((((P a b c ∨ (a = 12 ∧ b = w ∧ c < 16)) ∨ (a = 13 ∧ b = w ∧ c < 16)) ∨ (a = 14 ∧ b = w ∧ c < 16)) ∨ (a = 15 ∧ b = w ∧ c < 16)) ∨ (a = 18 ∧ b = w ∧ c < 16))) (fun a b c => ((Q a b c ∨ (a = 16 ∧ b = w ∧ c < 16)) ∨ (a = 17 ∧ b = w ∧ c < 16))) M M' → K M') : wp_X1_copyFrom w w1 N0 K := by
  unfold wp_X1_copyFrom
  refine ⟨by decide, by decide, by decide, by decide, by decide, ?_⟩
  intro N1 f1
  have f1 : N1 = g_cI N0 12 w1 12 w 0 0 16 := f1
  have h1 := zCP_cI h0 (k := 12) (o := w) (o1 := w1) (n := 16) rfl (by unfold zin; omega) (by unfold zin; omega)
  rw [← f1] at h1
  refine ⟨by decide, by decide, by decide, by decide, by decide, ?_⟩
  intro N2 f2
  have f2 : N2 = g_cI N1 13 w1 13 w 0 0 16 := f2
  have h2 := zCP_cI h1 (k := 13) (o := w) (o1 := w1) (n := 16) rfl (by unfold zin; omega) (by unfold zin; omega)
  rw [← f2] at h2
  refine ⟨by decide, by decide, by decide, by decide, by decide, ?_⟩
  intro N3 f3
  have f3 : N3 = g_cI N2 14 w1 14 w 0 0 16 := f3
  have h3 := zCP_cI h2 (k := 14) (o := w) (o1 := w1) (n := 16) rfl (by unfold zin; omega) (by unfold zin; omega)
  rw [← f3] at h3
  refine ⟨by decide, by decide, by decide, by decide, by decide, ?_⟩
  intro N4 f4
  have f4 : N4 = g_cI N3 15 w1 15 w 0 0 16 := f4
  have h4 := zCP_cI h3 (k := 15) (o := w) (o1 := w1) (n := 16) rfl (by unfold zin; omega) (by unfold zin; omega)
  rw [← f4] at h4
  refine ⟨by decide, by decide, by decide, by decide, by decide, ?_⟩
  intro N5 f5
  have f5 : N5 = g_cL N4 16 w1 16 w 0 0 16 := f5
  have h5 := zCP_cL h4 (k := 16) (o := w) (o1 := w1) (n := 16) rfl (by unfold zin; omega) (by unfold zin; omega)
  rw [← f5] at h5
  refine ⟨by decide, by decide, by decide, by decide, by decide, ?_⟩
  intro N6 f6
  have f6 : N6 = g_cL N5 17 w1 17 w 0 0 16 := f6
  have h6 := zCP_cL h5 (k := 17) (o := w) (o1 := w1) (n := 16) rfl (by unfold zin; omega) (by unfold zin; omega)
  rw [← f6] at h6
  refine ⟨by decide, by decide, by decide, by decide, by decide, ?_⟩
  intro N7 f7
  have f7 : N7 = g_cI N6 18 w1 18 w 0 0 16 := f7
  have h7 := zCP_cI h6 (k := 18) (o := w) (o1 := w1) (n := 16) rfl (by unfold zin; omega) (by unfold zin; omega)
  rw [← f7] at h7
  exact hK N7 h7
theorem zy_2 {w w1 : Nat} {P Q : Nat → Nat → Nat → Prop} {M N0 : gM} {K : gM → Prop} (hw : w ≠ w1) (h0 : zCP w w1 P Q M N0) (hK : ∀ M', zCP w w1 (fun a b c => (((P a b c ∨ (a = 2 ∧ b = w ∧ c = 0)) ∨ (a = 19 ∧ b = w ∧ c < 64)) ∨ (a = 20 ∧ b = w ∧ c < 64))) (fun a b c => (Q a b c ∨ (a = 21 ∧ b = w ∧ c < 64))) M M' → K M') : wp_X2_copyFrom w w1 N0 K := by
  unfold wp_X2_copyFrom
  intro N1 f1
  have h1 := zCP_uI h0 (k := 2) (o := w) (o1 := w1) (i := 0) rfl rfl (by unfold zin; omega) (by unfold zin; omega)
  rw [← f1] at h1
  refine ⟨by decide, by decide, by decide, by decide, by decide, ?_⟩
  intro N2 f2
  have f2 : N2 = g_cI N1 19 w1 19 w 0 0 64 := f2
  have h2 := zCP_cI h1 (k := 19) (o := w) (o1 := w1) (n := 64) rfl (by unfold zin; omega) (by unfold zin; omega)
  rw [← f2] at h2
  refine ⟨by decide, by decide, by decide, by decide, by decide, ?_⟩
  intro N3 f3
  have f3 : N3 = g_cI N2 20 w1 20 w 0 0 64 := f3
  have h3 := zCP_cI h2 (k := 20) (o := w) (o1 := w1) (n := 64) rfl (by unfold zin; omega) (by unfold zin; omega)
  rw [← f3] at h3
  refine ⟨by decide, by decide, by decide, by decide, by decide, ?_⟩
  intro N4 f4
  have f4 : N4 = g_cL N3 21 w1 21 w 0 0 64 := f4
  have h4 := zCP_cL h3 (k := 21) (o := w) (o1 := w1) (n := 64) rfl (by unfold zin; omega) (by unfold zin; omega)
  rw [← f4] at h4
  exact hK N4 h4
theorem zy_3 {w w1 x : Nat} {P Q : Nat → Nat → Nat → Prop} {M N0 : gM} {K : gM → Prop} (hw : w ≠ w1) (hx : x < 12) (h0 : zCP w w1 P Q M N0) (hK : ∀ M', zCP w w1 (fun a b c => ((((P a b c ∨ (a = 3 ∧ b = 12 * w + x ∧ c = 0)) ∨ (a = 3 ∧ b = 12 * w + x ∧ c = 4)) ∨ (a = 23 ∧ b = 12 * w + x ∧ c < 64)) ∨ (a = 25 ∧ b = 12 * w + x ∧ c < 64))) (fun a b c => ((((Q a b c ∨ (a = 3 ∧ b = 12 * w + x ∧ c = 1)) ∨ (a = 3 ∧ b = 12 * w + x ∧ c = 2)) ∨ (a = 22 ∧ b = 12 * w + x ∧ c < 16)) ∨ (a = 24 ∧ b = 12 * w + x ∧ c < 64))) M M' → K M') : wp_X3_copyFrom (12 * w + x) (12 * w1 + x) N0 K := by
  have hsn : ∀ k, (k = 3 ∨ (22 ≤ k ∧ k ≤ 25)) → zsrc w w1 k (12 * w + x) = 12 * w1 + x := fun k hk => by
    unfold zsrc
    rw [if_pos hk]; omega
  unfold wp_X3_copyFrom
  intro N1 f1
  have h1 := zCP_uI h0 (k := 3) (o := 12 * w + x) (o1 := 12 * w1 + x) (i := 0) rfl (hsn 3 (by omega)) (by unfold zin; omega) (by unfold zin; omega)
  rw [← f1] at h1
  intro N2 f2
  have h2 := zCP_uL h1 (k := 3) (o := 12 * w + x) (o1 := 12 * w1 + x) (i := 1) rfl (hsn 3 (by omega)) (by unfold zin; omega) (by unfold zin; omega)
  rw [← f2] at h2
  intro N3 f3
  have h3 := zCP_uL h2 (k := 3) (o := 12 * w + x) (o1 := 12 * w1 + x) (i := 2) rfl (hsn 3 (by omega)) (by unfold zin; omega) (by unfold zin; omega)
  rw [← f3] at h3
  intro N4 f4
  have h4 := zCP_uI h3 (k := 3) (o := 12 * w + x) (o1 := 12 * w1 + x) (i := 4) rfl (hsn 3 (by omega)) (by unfold zin; omega) (by unfold zin; omega)
  rw [← f4] at h4
  refine ⟨by decide, by decide, by decide, by decide, by decide, ?_⟩
  intro N5 f5
  have f5 : N5 = g_cL N4 22 (12 * w1 + x) 22 (12 * w + x) 0 0 16 := f5
  have h5 := zCP_cL h4 (k := 22) (o := 12 * w + x) (o1 := 12 * w1 + x) (n := 16) (hsn 22 (by omega)) (by unfold zin; omega) (by unfold zin; omega)
  rw [← f5] at h5
  refine ⟨by decide, by decide, by decide, by decide, by decide, ?_⟩
  intro N6 f6
  have f6 : N6 = g_cI N5 23 (12 * w1 + x) 23 (12 * w + x) 0 0 64 := f6
  have h6 := zCP_cI h5 (k := 23) (o := 12 * w + x) (o1 := 12 * w1 + x) (n := 64) (hsn 23 (by omega)) (by unfold zin; omega) (by unfold zin; omega)
  rw [← f6] at h6
  refine ⟨by decide, by decide, by decide, by decide, by decide, ?_⟩
  intro N7 f7
  have f7 : N7 = g_cL N6 24 (12 * w1 + x) 24 (12 * w + x) 0 0 64 := f7
  have h7 := zCP_cL h6 (k := 24) (o := 12 * w + x) (o1 := 12 * w1 + x) (n := 64) (hsn 24 (by omega)) (by unfold zin; omega) (by unfold zin; omega)
  rw [← f7] at h7
  refine ⟨by decide, by decide, by decide, by decide, by decide, ?_⟩
  intro N8 f8
  have f8 : N8 = g_cI N7 25 (12 * w1 + x) 25 (12 * w + x) 0 0 64 := f8
  have h8 := zCP_cI h7 (k := 25) (o := 12 * w + x) (o1 := 12 * w1 + x) (n := 64) (hsn 25 (by omega)) (by unfold zin; omega) (by unfold zin; omega)
  rw [← f8] at h8
  exact hK N8 h8
theorem zy_4 {w w1 ar : Nat} {P Q : Nat → Nat → Nat → Prop} {M N0 : gM} {K : gM → Prop} (hw : w ≠ w1) (ha : ar ≤ 500) (hs : N0.1 4 w1 0 = nI ar) (h0 : zCP w w1 P Q M N0) (hK : ∀ M', zCP w w1 (fun a b c => ((((P a b c ∨ (a = 4 ∧ b = w ∧ c = 0)) ∨ (a = 26 ∧ b = w ∧ c < ar)) ∨ (a = 27 ∧ b = w ∧ c < ar)) ∨ (a = 28 ∧ b = w ∧ c < ar))) (fun a b c => (((Q a b c ∨ (a = 29 ∧ b = w ∧ c < ar)) ∨ (a = 30 ∧ b = w ∧ c < ar)) ∨ (a = 31 ∧ b = w ∧ c < ar))) M M' → K M') : wp_X4_copyFrom w w1 N0 K := by
  unfold wp_X4_copyFrom
  intro n14 e14
  have e1 : (if (500 : Int32) < nI ar then 500 else nI ar) = nI ar := if_neg (by
    have : (500 : Int32) = nI 500 := rfl
    rw [this]; exact nI_nlt (by omega) (by omega))
  rw [hs, e1] at e14
  have e2 : n14 = nI ar := by
    rw [e14]
    by_cases c : ar = 0
    · subst c; rfl
    · rw [if_pos]
      have : (0 : Int32) = nI 0 := rfl
      rw [this]; exact nI_lt (by omega) (by omega)
  subst e2
  intro N1 f1
  have h1 := zCP_uI h0 (k := 4) (o := w) (o1 := w1) (i := 0) (v := nI ar) hs.symm rfl (by unfold zin; omega) (by unfold zin; omega)
  rw [← f1] at h1
  rw [nI_clamp (by omega), zcl0]
  refine ⟨by decide, by decide, nI_pos (by omega), by omega, by omega, ?_⟩
  intro N2 f2
  have h2 := zCP_cI h1 (k := 26) (o := w) (o1 := w1) (n := ar) rfl (by unfold zin; omega) (by unfold zin; omega)
  rw [← f2] at h2
  refine ⟨by decide, by decide, nI_pos (by omega), by omega, by omega, ?_⟩
  intro N3 f3
  have h3 := zCP_cI h2 (k := 27) (o := w) (o1 := w1) (n := ar) rfl (by unfold zin; omega) (by unfold zin; omega)
  rw [← f3] at h3
  refine ⟨by decide, by decide, nI_pos (by omega), by omega, by omega, ?_⟩
  intro N4 f4
  have h4 := zCP_cI h3 (k := 28) (o := w) (o1 := w1) (n := ar) rfl (by unfold zin; omega) (by unfold zin; omega)
  rw [← f4] at h4
  refine ⟨by decide, by decide, nI_pos (by omega), by omega, by omega, ?_⟩
  intro N5 f5
  have h5 := zCP_cL h4 (k := 29) (o := w) (o1 := w1) (n := ar) rfl (by unfold zin; omega) (by unfold zin; omega)
  rw [← f5] at h5
  refine ⟨by decide, by decide, nI_pos (by omega), by omega, by omega, ?_⟩
  intro N6 f6
  have h6 := zCP_cL h5 (k := 30) (o := w) (o1 := w1) (n := ar) rfl (by unfold zin; omega) (by unfold zin; omega)
  rw [← f6] at h6
  refine ⟨by decide, by decide, nI_pos (by omega), by omega, by omega, ?_⟩
  intro N7 f7
  have h7 := zCP_cL h6 (k := 31) (o := w) (o1 := w1) (n := ar) rfl (by unfold zin; omega) (by unfold zin; omega)
  rw [← f7] at h7
  exact hK N7 h7
def zPn (w x a b c : Nat) : Prop := 12 * w ≤ b ∧ b < 12 * w + x ∧ ((a = 3 ∧ (c = 0 ∨ c = 4)) ∨ ((a = 23 ∨ a = 25) ∧ c < 64))
def zQn (w x a b c : Nat) : Prop := 12 * w ≤ b ∧ b < 12 * w + x ∧ ((a = 3 ∧ (c = 1 ∨ c = 2)) ∨ (a = 22 ∧ c < 16) ∨ (a = 24 ∧ c < 64))
theorem zy_loop {w w1 : Nat} {P Q : Nat → Nat → Nat → Prop} {M : gM} {K : gM → Prop} (hw : w ≠ w1) (hK : ∀ M', zCP w w1 (fun a b c => P a b c ∨ zPn w 12 a b c) (fun a b c => Q a b c ∨ zQn w 12 a b c) M M' → K M') : ∀ (n x : Nat) (N : gM), x + n = 12 → zCP w w1 (fun a b c => P a b c ∨ zPn w x a b c) (fun a b c => Q a b c ∨ zQn w x a b c) M N → wp_X7_copyFrom_L62 K (n + 1) w w1 (nI x) N
  | 0, x, N, e, h => by
    unfold wp_X7_copyFrom_L62
    rw [if_pos (zk_le2 (c := 12) (a := 12) rfl (by omega) (by omega))]
    have : x = 12 := by omega
    subst this
    exact hK N h
  | n + 1, x, N, e, h => by
    unfold wp_X7_copyFrom_L62
    rw [if_neg (zk_nle (c := 12) (a := 12) rfl (by omega) (by omega))]
    refine ⟨vp_in_nI (by omega) (by omega), vp_in_nI (by omega) (by omega), ?_⟩
    rw [nI_clamp (by omega)]
    refine zy_3 hw (by omega) h (fun N1 h1 => ?_)
    intro n86 e86
    rw [zn_p1] at e86
    subst e86
    refine zy_loop hw hK n (x + 1) N1 (by omega) (zCP_iff h1 (fun a b c => ?_) (fun a b c => ?_))
    · unfold zPn
      by_cases q : P a b c
      · simp [q]
      · simp only [q, false_or]; omega
    · unfold zQn
      by_cases q : Q a b c
      · simp [q]
      · simp only [q, false_or]; omega
theorem zC_of {w w1 nn ar : Nat} {P Q : Nat → Nat → Nat → Prop} {M M' : gM} {S : zW} (hn : nn ≤ 12) (h : zC w1 nn ar M S) (hl : ∀ x, x < nn → (zQ S x).length ≤ 64) (hd : (zD S).length ≤ 64) (hcl : zN S 23 0 ≤ 120) (hp : zCP w w1 P Q M M') (hP : ∀ a b c, (b = w ∧ ((a = 7 ∧ c = 1) ∨ (a = 5 ∧ c = 0) ∨ (32 ≤ a ∧ a ≤ 39 ∧ c < 12) ∨ (a = 40 ∧ c < 120) ∨ (a = 4 ∧ c = 0) ∨ (26 ≤ a ∧ a ≤ 28 ∧ c < ar) ∨ (12 ≤ a ∧ a ≤ 15 ∧ c < 16) ∨ (a = 18 ∧ c < 16) ∨ (a = 2 ∧ c = 0) ∨ (19 ≤ a ∧ a ≤ 20 ∧ c < 64))) ∨ zPn w 12 a b c → P a b c) (hQ : ∀ a b c, (b = w ∧ ((a = 7 ∧ c = 0) ∨ (16 ≤ a ∧ a ≤ 17 ∧ c < 16) ∨ (29 ≤ a ∧ a ≤ 31 ∧ c < ar) ∨ (a = 21 ∧ c < 64))) ∨ zQn w 12 a b c → Q a b c) : zC w nn ar M' S := by
  obtain ⟨hN, hL, hX, hQu, hD⟩ := h
  have nw : ∀ k c, ¬ (k = 3 ∨ (22 ≤ k ∧ k ≤ 25)) → P k w c → M'.1 k w c = M.1 k w1 c := fun k c hk hc => by
    rw [hp.1 k w c hc]
    unfold zsrc
    rw [if_neg hk]
  have nwL : ∀ k c, ¬ (k = 3 ∨ (22 ≤ k ∧ k ≤ 25)) → Q k w c → M'.2 k w c = M.2 k w1 c := fun k c hk hc => by
    rw [hp.2.2.1 k w c hc]
    unfold zsrc
    rw [if_neg hk]
  have nd : ∀ k x c, (k = 3 ∨ (22 ≤ k ∧ k ≤ 25)) → P k (12 * w + x) c → M'.1 k (12 * w + x) c = M.1 k (12 * w1 + x) c := fun k x c hk hc => by
    rw [hp.1 k _ c hc]
    unfold zsrc
    rw [if_pos hk, show 12 * w + x - 12 * w = x by omega]
  have ndL : ∀ k x c, (k = 3 ∨ (22 ≤ k ∧ k ≤ 25)) → Q k (12 * w + x) c → M'.2 k (12 * w + x) c = M.2 k (12 * w1 + x) c := fun k x c hk hc => by
    rw [hp.2.2.1 k _ c hc]
    unfold zsrc
    rw [if_pos hk, show 12 * w + x - 12 * w = x by omega]
  refine ⟨fun i j ok => ?_, fun i j ok => ?_, ⟨?_, fun k hk => ?_⟩, fun x hx => ⟨?_, fun k e he => ⟨?_, ?_, ?_⟩⟩, ?_, fun k e he => ⟨?_, ?_, ?_⟩⟩
  · have h0 := hN i j ok
    unfold zokC at ok
    have hi : i < 20 := by omega
    rw [← h0]
    rcases (show i = 0 ∨ i = 1 ∨ i = 2 ∨ i = 3 ∨ i = 4 ∨ i = 5 ∨ i = 6 ∨ i = 7 ∨ i = 8 ∨ i = 9 ∨ i = 10 ∨ i = 11 ∨ i = 12 ∨ i = 13 ∨ i = 14 ∨ i = 15 ∨ i = 16 ∨ i = 17 ∨ i = 18 ∨ i = 19 by omega) with rfl | rfl | rfl | rfl | rfl | rfl | rfl | rfl | rfl | rfl | rfl | rfl | rfl | rfl | rfl | rfl | rfl | rfl | rfl | rfl
    · exact nw 5 j (by omega) (hP _ _ _ (by omega))
    · exact nw 4 j (by omega) (hP _ _ _ (by omega))
    · exact nw 7 1 (by omega) (hP _ _ _ (by omega))
    · exact nw 12 j (by omega) (hP _ _ _ (by omega))
    · exact nw 13 j (by omega) (hP _ _ _ (by omega))
    · exact nw 14 j (by omega) (hP _ _ _ (by omega))
    · exact nw 15 j (by omega) (hP _ _ _ (by omega))
    · exact nw 18 j (by omega) (hP _ _ _ (by omega))
    · exact nw 34 j (by omega) (hP _ _ _ (by omega))
    · exact nw 35 j (by omega) (hP _ _ _ (by omega))
    · exact nw 36 j (by omega) (hP _ _ _ (by omega))
    · exact nw 37 j (by omega) (hP _ _ _ (by omega))
    · exact nw 38 j (by omega) (hP _ _ _ (by omega))
    · exact nw 39 j (by omega) (hP _ _ _ (by omega))
    · exact nd 3 j 0 (by omega) (hP _ _ _ (by unfold zPn; omega))
    · exact nw 26 j (by omega) (hP _ _ _ (by omega))
    · exact nw 27 j (by omega) (hP _ _ _ (by omega))
    · exact nw 28 j (by omega) (hP _ _ _ (by omega))
    · exact nw 32 j (by omega) (hP _ _ _ (by omega))
    · exact nw 33 j (by omega) (hP _ _ _ (by omega))
  · have h0 := hL i j ok
    unfold zokL at ok
    rw [← h0]
    rcases (show i = 0 ∨ i = 1 ∨ i = 2 ∨ i = 3 ∨ i = 4 ∨ i = 5 ∨ i = 6 ∨ i = 7 ∨ i = 8 by omega) with rfl | rfl | rfl | rfl | rfl | rfl | rfl | rfl | rfl
    · exact nwL 7 j (by omega) (hQ _ _ _ (by omega))
    · exact nwL 16 j (by omega) (hQ _ _ _ (by omega))
    · exact nwL 17 j (by omega) (hQ _ _ _ (by omega))
    · exact ndL 3 j 2 (by omega) (hQ _ _ _ (by unfold zQn; omega))
    · exact ndL 3 j 1 (by omega) (hQ _ _ _ (by unfold zQn; omega))
    · exact ndL 22 (j / 16) (j % 16) (by omega) (hQ _ _ _ (by unfold zQn; omega))
    · exact nwL 29 j (by omega) (hQ _ _ _ (by omega))
    · exact nwL 30 j (by omega) (hQ _ _ _ (by omega))
    · exact nwL 31 j (by omega) (hQ _ _ _ (by omega))
  · rw [nw 32 0 (by omega) (hP _ _ _ (by omega))]; exact hX.1
  · rw [nw 40 k (by omega) (hP _ _ _ (by omega))]; exact hX.2 k hk
  · rw [nd 3 x 4 (by omega) (hP _ _ _ (by unfold zPn; omega))]; exact (hQu x hx).1
  · have := (List.getElem?_eq_some_iff.mp he).1
    have := hl x hx
    rw [nd 23 x k (by omega) (hP _ _ _ (by unfold zPn; omega))]; exact ((hQu x hx).2 k e he).1
  · have := (List.getElem?_eq_some_iff.mp he).1
    have := hl x hx
    rw [ndL 24 x k (by omega) (hQ _ _ _ (by unfold zQn; omega))]; exact ((hQu x hx).2 k e he).2.1
  · have := (List.getElem?_eq_some_iff.mp he).1
    have := hl x hx
    rw [nd 25 x k (by omega) (hP _ _ _ (by unfold zPn; omega))]; exact ((hQu x hx).2 k e he).2.2
  · rw [nw 2 0 (by omega) (hP _ _ _ (by omega))]; exact hD.1
  · have := (List.getElem?_eq_some_iff.mp he).1
    rw [nwL 21 k (by omega) (hQ _ _ _ (by omega))]; exact (hD.2 k e he).1
  · have := (List.getElem?_eq_some_iff.mp he).1
    rw [nw 19 k (by omega) (hP _ _ _ (by omega))]; exact (hD.2 k e he).2.1
  · have := (List.getElem?_eq_some_iff.mp he).1
    rw [nw 20 k (by omega) (hP _ _ _ (by omega))]; exact (hD.2 k e he).2.2

