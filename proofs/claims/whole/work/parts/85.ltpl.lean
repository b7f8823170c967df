/-! loadTemplate -/
theorem zsC_p {M M' : gM} (f : zFp M M') : zsC M M' := fun k o q => ⟨funext fun i => f.1 k o i (by unfold yQB; omega), f.2 k o (by omega) (by omega) (by omega)⟩
theorem zTm_p {M M' : gM} {S S' : zW} {ks : List zW} {tx : List Nat} {er : Nat → Int32} (h : zTm M S ks tx er) (f : zFp M M') (hz : zM (zN S' 0 0) (zN S' 1 0) (M'.2 47 0) S') : zTm M' S' ks tx er := by
  obtain ⟨h1, h2, h3, h4, h5, h6, h7⟩ := h
  refine ⟨hz, fun i T hT => ?_, ?_, ?_, fun i a ha => ?_, fun i hi => ?_, ?_⟩
  · rw [f.2 49 0 (by omega) (by omega) (by omega)]; exact h2 i T hT
  · rw [f.1 9 0 3 (by unfold yQB; omega)]; exact h3
  · rw [f.1 9 0 7 (by unfold yQB; omega)]; exact h4
  · rw [f.1 51 0 i (by unfold yQB; omega)]; exact h5 i a ha
  · rw [f.1 52 0 i (by unfold yQB; omega)]; exact h6 i hi
  · have : M'.1 50 0 = M.1 50 0 := funext fun i => f.1 50 0 i (by unfold yQB; omega)
    rw [this]; exact h7
theorem ynt_OK {x : Nat} (hx : x < 6) {wt : Nat → Nat} {lk : Nat} (c : Nat) (hw : ∀ f, f < 16 → 1 ≤ wt f ∧ wt f ≤ 100) (hk : 1 ≤ lk ∧ lk ≤ 9999) : zOK (ynt wt lk x) c := by
  obtain ⟨t1, t2, t3, t4⟩ := ytt_ok hx
  exact ynew_OK c t4 t3 t2 hw hk
theorem zq_loadTemplate {t : gT} {M : gM} {c : Nat} {x : Int32} {V : Prop} {Nx : gM → Prop} (h : zT M c) (hV : V) (hN : ∀ M', zT M' c → Nx M') : wp_L_loadTemplate t 0 x 0 M (fun r M1 => V ∧ wp_X9_loadTemplate 0 x M1 (fun rb M2 => zFin Nx r rb.toInt64 M2)) := by
  have h' := h
  obtain ⟨S, ks, tx, er, h1, h2, h3⟩ := h'
  have f0 : (0 : Int64).toInt = 0 := by decide
  have f5 : (5 : Int64).toInt = 5 := by decide
  have l5 : (5 : Int32).toInt = 5 := by decide
  have l0 : (0 : Int32).toInt = 0 := by decide
  unfold wp_L_loadTemplate wp_X8_loadTemplate wp_X8_loadTemplate_b9
  have neg : ¬ (0 ≤ x.toInt ∧ x.toInt ≤ 5) → (if (0 : Nat) = 0 then V ∧ wp_X9_loadTemplate 0 x M (fun rb M2 => zFin Nx 1 rb.toInt64 M2) else False) := fun cw => by
    rw [if_pos rfl]
    refine ⟨hV, ?_⟩
    unfold wp_X9_loadTemplate
    intro M3 e3
    refine zm_in (fun q => ?_) (fun q => ?_)
    · rw [f0, f5] at q; exact absurd q cw
    · rw [if_pos rfl]
      unfold wp_X9_fails
      intro M4 e4
      rw [e4, e3]
      exact zthr (zT_9 h) hN (by decide)
  by_cases cw : 0 ≤ x.toInt ∧ x.toInt ≤ 5
  · obtain ⟨v, hv, rfl⟩ := zr_of (x := x) (n := 6) ⟨by omega, by omega⟩ (by omega)
    rw [if_neg (nI_pos (by omega)), if_pos (zk_le (c := 5) (a := 5) rfl (by omega) (by omega))]
    have hw : ∀ f, f < 16 → 1 ≤ zN S 3 f ∧ zN S 3 f ≤ 100 := fun f hf => ⟨(h3.1.1.2.1.1 f hf).1, (h3.1.1.2.1.1 f hf).2.1⟩
    refine zx_plant (wt := zN S 3) (lk := zN S 2 0) hv (h1.1.1 2 0 (Or.inl ⟨by omega, rfl⟩)) (fun f hf => h1.1.1 3 f (Or.inr (Or.inl ⟨by omega, by omega, hf⟩))) (fun M1 M2 f1 e45 w2 w20 => ?_)
    rw [w20]
    refine ⟨zvi (by omega) (by omega), ?_⟩
    intro M3 e3
    refine ⟨hV, ?_⟩
    have hok := ynt_OK hv (wt := zN S 3) (lk := zN S 2 0) c hw h3.1.1.2.1.2.2
    have hp' : zTp (ynt (zN S 3) (zN S 2 0) v) ks tx c := ⟨hok, h3.2.1, h3.2.2⟩
    have hc1 : zTc M1 S ks tx er := zTc_A h3 h1 f1 (fun i hi => (e45 i).trans (h1.2.2.2.2.2 i hi))
    have hc2 : zTc M2 (ynt (zN S 3) (zN S 2 0) v) ks tx er := zTc_now h3 hc1 w2
    have hm2 : zTm M2 S ks tx er := zTm_sM h2 (zsM_trans (zsM_A f1) (zsM_F w2.1))
    have hc3 := zTc_X hp' hc2 (zout_X e3)
    have hm3 := zTm_X hm2 (zout_X e3)
    unfold wp_X9_loadTemplate
    intro M4 e4
    have hm4 : zTm M4 S ks tx er := by rw [e4]; exact zTm_u9 hm3
    have hc4 : zTc M4 (ynt (zN S 3) (zN S 2 0) v) ks tx er := zTc_sC hp' hc3 (by rw [e4]; exact zsC_u9)
    refine zm_in (fun _ => ?_) (fun q => ?_)
    · rw [if_neg (by decide)]
      have v1 : M4.2 47 0 1 = lN (zN S 2 0) := hm4.1.1 2 0 (Or.inl ⟨by omega, rfl⟩)
      have v3 : ∀ f, f < 16 → M4.2 47 0 (10 + 7 * f) = lN (zN S 3 f) := fun f hf => hm4.1.1 3 f (Or.inr (Or.inl ⟨by omega, by omega, hf⟩))
      refine zm_plant hv hm4.2.2.2.2.2.2 v1 v3 (fun M5 f5 z5 => ?_)
      refine zfin_0 ?_ ?_ (hN M5 ⟨_, ks, tx, er, zTc_sC hp' hc4 (zsC_p f5), zTm_p hm4 f5 z5, hp'⟩)
      · rw [f5.1 9 0 4 (by unfold yQB; omega), e4, zuI, if_pos ⟨rfl, rfl, rfl⟩]
      · rw [f5.2 59 0 (by omega) (by omega) (by omega), e4, zuI2, e3, zcl0, zuL, if_pos ⟨rfl, rfl, rfl⟩]
    · rw [f0, f5, nI_toInt (by omega)] at q; omega
  · by_cases c1 : x < 0
    · rw [if_pos c1]; exact neg cw
    · rw [if_neg c1, if_neg (fun q => cw ?_)]
      · exact neg cw
      · rw [Int32.lt_iff_toInt_lt, l0] at c1
        rw [Int32.le_iff_toInt_le, l5] at q
        omega
