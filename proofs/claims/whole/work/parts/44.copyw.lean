/-! the class: a world copied, whole -/
theorem zy_run {w w1 : Nat} {P Q : Nat → Nat → Nat → Prop} {M N : gM} {K : gM → Prop} (hw : w ≠ w1) (h : zCP w w1 P Q M N) (hK : ∀ M', zCP w w1 (fun a b c => P a b c ∨ zPn w 12 a b c) (fun a b c => Q a b c ∨ zQn w 12 a b c) M M' → K M') : ∃ f : Nat, wp_X7_copyFrom_L62 K f w w1 0 N := by
  refine ⟨13, zy_loop (P := P) (Q := Q) hw hK 12 0 N (by omega) (zCP_iff h (fun a b c => ?_) (fun a b c => ?_))⟩
  · unfold zPn
    exact ⟨Or.inl, fun q => q.elim id (fun z => by omega)⟩
  · unfold zQn
    exact ⟨Or.inl, fun q => q.elim id (fun z => by omega)⟩
theorem zc_copy {w w1 nn ar : Nat} {M : gM} {S : zW} {K : gM → Prop} (hw : w ≠ w1) (h : zC w1 nn ar M S) (hi : zInv S 0 0) (hn : zN S 0 0 = nn) (ha : zN S 1 0 = ar) (hK : ∀ M', zF w M M' → M'.2 10 = M.2 10 → zC w nn ar M' S → K M') : wp_X7_copyFrom w w1 M K := by
  have hn2 : nn ≤ 12 := by rw [← hn]; exact hi.1.1.2
  have ha2 : ar ≤ 500 := by rw [← ha]; exact hi.2.2.1.1
  have hd := zheld_le hi
  have hcl : zN S 23 0 ≤ 120 := by
    have := hi.1.1
    exact (hi.1.2.2.2.2 0 (by omega)).1.2.2.2.1
  unfold wp_X7_copyFrom
  intro N1 f1
  have h1 := zCP_uL (zCP_refl (w := w) (w1 := w1) (M := M)) (k := 7) (o := w) (o1 := w1) (i := 0) rfl rfl (by unfold zin; omega) (by unfold zin; omega)
  rw [← f1] at h1
  intro N2 f2
  have h2 := zCP_uI h1 (k := 7) (o := w) (o1 := w1) (i := 1) rfl rfl (by unfold zin; omega) (by unfold zin; omega)
  rw [← f2] at h2
  refine zy_5 hw h2 (fun N3 h3 => ?_)
  refine zy_4 (ar := ar) hw ha2 ?_ h3 (fun N4 h4 => ?_)
  · rw [zCP_s1 h3 (by unfold zin; omega), zc_arrived h, ha]
  refine zy_1 hw h4 (fun N5 h5 => ?_)
  refine zy_2 hw h5 (fun N6 h6 => ?_)
  refine zy_run hw h6 (fun M' h7 => ?_)
  refine hK M' (fun k o q => ⟨funext (fun c => zCP_s1 h7 q), funext (fun c => zCP_s2 h7 q)⟩) ?_ (zC_of hn2 h (fun x hx => by have := zlen64 hi (x := x) (by omega); omega) (by omega) hcl h7 (fun a b c q => ?_) (fun a b c q => ?_))
  · funext b c
    exact h7.2.2.2.1 10 b c (fun q => (h7.2.2.2.2 10 b c (Or.inr q)).2.1 rfl)
  · rcases q with q | q
    · left
      simp only [false_or]
      omega
    · exact Or.inr q
  · rcases q with q | q
    · left
      simp only [false_or]
      omega
    · exact Or.inr q
