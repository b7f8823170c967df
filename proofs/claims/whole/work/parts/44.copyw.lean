/-! the class: a world copied, whole -/
theorem zy_run {w w1 : Nat} {P Q : Nat → Nat → Nat → Prop} {M N : gM} {K : gM → Prop} (hw : w ≠ w1) (h : zCP w w1 P Q M N) (hK : ∀ M', zCP w w1 (fun a b c => P a b c ∨ zPn w 12 a b c) (fun a b c => Q a b c ∨ zQn w 12 a b c) M M' → K M') : ∃ f : Nat, wp_X7_copyFrom_L62 K f w w1 0 N := by
  refine ⟨13, zy_loop (P := P) (Q := Q) hw hK 12 0 N (by omega) (zCP_iff h (fun a b c => ?_) (fun a b c => ?_))⟩
  · unfold zPn
    exact ⟨Or.inl, fun q => q.elim id (fun z => by omega)⟩
  · unfold zQn
    exact ⟨Or.inl, fun q => q.elim id (fun z => by omega)⟩
def zP5 (w a b c : Nat) : Prop := b = w ∧ ((a = 5 ∧ (c = 0 ∨ c = 10)) ∨ (32 ≤ a ∧ a ≤ 39 ∧ c < 12) ∨ (a = 40 ∧ c < 120))
def zP4 (w ar a b c : Nat) : Prop := b = w ∧ ((a = 4 ∧ c = 0) ∨ (26 ≤ a ∧ a ≤ 28 ∧ c < ar))
def zQ4 (w ar a b c : Nat) : Prop := b = w ∧ 29 ≤ a ∧ a ≤ 31 ∧ c < ar
def zP1 (w a b c : Nat) : Prop := b = w ∧ c < 16 ∧ ((12 ≤ a ∧ a ≤ 15) ∨ a = 18)
def zQ1 (w a b c : Nat) : Prop := b = w ∧ c < 16 ∧ 16 ≤ a ∧ a ≤ 17
def zP2 (w a b c : Nat) : Prop := b = w ∧ ((a = 2 ∧ c = 0) ∨ (19 ≤ a ∧ a ≤ 20 ∧ c < 64))
def zQ2 (w a b c : Nat) : Prop := b = w ∧ a = 21 ∧ c < 64
theorem zz_5 {w w1 : Nat} {P Q : Nat → Nat → Nat → Prop} {M N0 : gM} {K : gM → Prop} (hw : w ≠ w1) (h0 : zCP w w1 P Q M N0) (hK : ∀ M', zCP w w1 (fun a b c => P a b c ∨ zP5 w a b c) Q M M' → K M') : wp_X5_copyFrom w w1 N0 K := by
  refine zy_5 hw h0 (fun M' h => hK M' (zCP_iff h (fun a b c => ?_) (fun a b c => Iff.rfl)))
  by_cases q : P a b c
  · simp [q]
  · by_cases hb : b = w
    · subst hb
      unfold zP5
      simp only [q, false_or, true_and]
      constructor
      · intro z; omega
      · rintro (⟨rfl, z | z⟩ | ⟨z1, z2, z3⟩ | ⟨rfl, z⟩)
        · simp [z]
        · simp [z]
        · rcases (show a = 32 ∨ a = 33 ∨ a = 34 ∨ a = 35 ∨ a = 36 ∨ a = 37 ∨ a = 38 ∨ a = 39 by omega) with rfl | rfl | rfl | rfl | rfl | rfl | rfl | rfl <;> simp [z3]
        · simp [z]
    · unfold zP5
      simp [q, hb]
theorem zz_4 {w w1 ar : Nat} {P Q : Nat → Nat → Nat → Prop} {M N0 : gM} {K : gM → Prop} (hw : w ≠ w1) (ha : ar ≤ 500) (hs : N0.1 4 w1 0 = nI ar) (h0 : zCP w w1 P Q M N0) (hK : ∀ M', zCP w w1 (fun a b c => P a b c ∨ zP4 w ar a b c) (fun a b c => Q a b c ∨ zQ4 w ar a b c) M M' → K M') : wp_X4_copyFrom w w1 N0 K := by
  refine zy_4 hw ha hs h0 (fun M' h => hK M' (zCP_iff h (fun a b c => ?_) (fun a b c => ?_)))
  · by_cases q : P a b c
    · simp [q]
    · unfold zP4
      simp only [q, false_or]
      omega
  · by_cases q : Q a b c
    · simp [q]
    · unfold zQ4
      simp only [q, false_or]
      omega
theorem zz_1 {w w1 : Nat} {P Q : Nat → Nat → Nat → Prop} {M N0 : gM} {K : gM → Prop} (hw : w ≠ w1) (h0 : zCP w w1 P Q M N0) (hK : ∀ M', zCP w w1 (fun a b c => P a b c ∨ zP1 w a b c) (fun a b c => Q a b c ∨ zQ1 w a b c) M M' → K M') : wp_X1_copyFrom w w1 N0 K := by
  refine zy_1 hw h0 (fun M' h => hK M' (zCP_iff h (fun a b c => ?_) (fun a b c => ?_)))
  · by_cases q : P a b c
    · simp [q]
    · unfold zP1
      simp only [q, false_or]
      omega
  · by_cases q : Q a b c
    · simp [q]
    · unfold zQ1
      simp only [q, false_or]
      omega
theorem zz_2 {w w1 : Nat} {P Q : Nat → Nat → Nat → Prop} {M N0 : gM} {K : gM → Prop} (hw : w ≠ w1) (h0 : zCP w w1 P Q M N0) (hK : ∀ M', zCP w w1 (fun a b c => P a b c ∨ zP2 w a b c) (fun a b c => Q a b c ∨ zQ2 w a b c) M M' → K M') : wp_X2_copyFrom w w1 N0 K := by
  refine zy_2 hw h0 (fun M' h => hK M' (zCP_iff h (fun a b c => ?_) (fun a b c => ?_)))
  · by_cases q : P a b c
    · simp [q]
    · unfold zP2
      simp only [q, false_or]
      omega
  · by_cases q : Q a b c
    · simp [q]
    · unfold zQ2
      simp only [q, false_or]
      omega
theorem zc_copy {w w1 nn ar : Nat} {M : gM} {S : zW} {K : gM → Prop} (hw : w ≠ w1) (h : zC w1 nn ar M S) (hi : zInv S 0 0) (hn : zN S 0 0 = nn) (ha : zN S 1 0 = ar) (hK : ∀ M', zF w M M' → M'.2 10 = M.2 10 → zC w nn ar M' S → K M') : wp_X7_copyFrom w w1 M K := by
  have hn2 : nn ≤ 12 := by rw [← hn]; exact hi.1.1.2
  have ha2 : ar ≤ 500 := by rw [← ha]; exact hi.2.2.1.1
  have hd := zheld_le hi
  have hcl : zN S 23 0 ≤ 120 := by
    have := hi.1.1
    exact (hi.1.2.2.2.2 0 (by omega)).1.2.2.2.1
  have nz : ∀ k, k ≠ 10 → k ≠ 11 → ¬ (k = 3 ∨ (22 ≤ k ∧ k ≤ 25)) → ¬ zin w k w1 := fun k a b c => by unfold zin; omega
  unfold wp_X7_copyFrom
  intro N1 f1
  have h1 := zCP_uL (zCP_refl (w := w) (w1 := w1) (M := M)) (k := 7) (o := w) (o1 := w1) (i := 0) rfl rfl (by unfold zin; omega) (nz 7 (by omega) (by omega) (by omega))
  rw [← f1] at h1
  intro N2 f2
  have h2 := zCP_uI h1 (k := 7) (o := w) (o1 := w1) (i := 1) rfl rfl (by unfold zin; omega) (nz 7 (by omega) (by omega) (by omega))
  rw [← f2] at h2
  refine zz_5 hw h2 (fun N3 h3 => ?_)
  have s3 : N3.1 4 w1 0 = nI ar := by rw [zCP_s1 h3 (nz 4 (by omega) (by omega) (by omega)), zc_arrived h, ha]
  refine zz_4 (ar := ar) hw ha2 s3 h3 (fun N4 h4 => ?_)
  refine zz_1 hw h4 (fun N5 h5 => ?_)
  refine zz_2 hw h5 (fun N6 h6 => ?_)
  refine zy_run hw h6 (fun M' h7 => ?_)
  refine hK M' (fun k o q => ⟨funext (fun c => zCP_s1 h7 q), funext (fun c => zCP_s2 h7 q)⟩) ?_ (zC_of hn2 h (fun x hx => by have := zlen64 hi (x := x) (by omega); omega) (by omega) hcl h7 (fun a b c q => ?_) (fun a b c q => ?_))
  · funext b c
    exact h7.2.2.2.1 10 b c (fun q => (h7.2.2.2.2 10 b c (Or.inr q)).2.1 rfl)
  · rcases q with ⟨hb, q⟩ | q
    · left
      rcases q with q | q | q | q | q | q | q | q | q | q
      · exact Or.inl (Or.inl (Or.inl (Or.inl (Or.inr ⟨q.1, hb, q.2⟩))))
      · exact Or.inl (Or.inl (Or.inl (Or.inr ⟨hb, Or.inl ⟨q.1, Or.inl q.2⟩⟩)))
      · exact Or.inl (Or.inl (Or.inl (Or.inr ⟨hb, Or.inr (Or.inl q)⟩)))
      · exact Or.inl (Or.inl (Or.inl (Or.inr ⟨hb, Or.inr (Or.inr q)⟩)))
      · exact Or.inl (Or.inl (Or.inr ⟨hb, Or.inl q⟩))
      · exact Or.inl (Or.inl (Or.inr ⟨hb, Or.inr q⟩))
      · exact Or.inl (Or.inr ⟨hb, q.2.2, Or.inl ⟨q.1, q.2.1⟩⟩)
      · exact Or.inl (Or.inr ⟨hb, q.2, Or.inr q.1⟩)
      · exact Or.inr ⟨hb, Or.inl q⟩
      · exact Or.inr ⟨hb, Or.inr q⟩
    · exact Or.inr q
  · rcases q with ⟨hb, q⟩ | q
    · left
      rcases q with q | q | q | q
      · exact Or.inl (Or.inl (Or.inl (Or.inr ⟨q.1, hb, q.2⟩)))
      · exact Or.inl (Or.inr ⟨hb, q.2.2, q.1, q.2.1⟩)
      · exact Or.inl (Or.inl (Or.inr ⟨hb, q.1, q.2.1, q.2.2⟩))
      · exact Or.inr ⟨hb, q.1, q.2⟩
    · exact Or.inr q
