/-! the start -/
theorem kMM_c {M : gM} {k o : Nat} (h : k ≤ 8 ∨ (10 ≤ k ∧ k ≤ 46)) : (k_MM M).1 k o = M.1 k o ∧ (k_MM M).2 k o = M.2 k o := by
  rcases (show k = 0 ∨ k = 1 ∨ k = 2 ∨ k = 3 ∨ k = 4 ∨ k = 5 ∨ k = 6 ∨ k = 7 ∨ k = 8 ∨ k = 10 ∨ k = 11 ∨ k = 12 ∨ k = 13 ∨ k = 14 ∨ k = 15 ∨ k = 16 ∨ k = 17 ∨ k = 18 ∨ k = 19 ∨ k = 20 ∨ k = 21 ∨ k = 22 ∨ k = 23 ∨ k = 24 ∨ k = 25 ∨ k = 26 ∨ k = 27 ∨ k = 28 ∨ k = 29 ∨ k = 30 ∨ k = 31 ∨ k = 32 ∨ k = 33 ∨ k = 34 ∨ k = 35 ∨ k = 36 ∨ k = 37 ∨ k = 38 ∨ k = 39 ∨ k = 40 ∨ k = 41 ∨ k = 42 ∨ k = 43 ∨ k = 44 ∨ k = 45 ∨ k = 46 by omega) with rfl | rfl | rfl | rfl | rfl | rfl | rfl | rfl | rfl | rfl | rfl | rfl | rfl | rfl | rfl | rfl | rfl | rfl | rfl | rfl | rfl | rfl | rfl | rfl | rfl | rfl | rfl | rfl | rfl | rfl | rfl | rfl | rfl | rfl | rfl | rfl | rfl | rfl | rfl | rfl | rfl | rfl | rfl | rfl | rfl | rfl <;> exact ⟨rfl, rfl⟩
theorem kMO_c {M : gM} {k o : Nat} (h : k ≠ 59) : (k_MO M).1 k o = M.1 k o ∧ (k_MO M).2 k o = M.2 k o := by
  refine ⟨rfl, ?_⟩
  unfold k_MO
  dsimp only
  split
  · omega
  · rfl
theorem kM0_12 : ∀ f, f < 16 → k_M0.1 12 0 f = nI 1 := by decide +kernel
theorem kM0_45 : ∀ i, i < 3 → k_M0.1 45 0 i = -1 := by decide +kernel
theorem zst_lk (x1 : Int32) : ∃ lk : Nat, (1 ≤ lk ∧ lk ≤ 9999) ∧ (∀ (M : gM) (K : gM → Prop), wp_X8_init_b140 K 0 0 (nI lk) M → wp_X8_initR 0 x1 M K) ∧ ∀ (M : gM) (K : gM → Prop), wp_X9_init_b687 K 0 0 1 (lN lk) M → wp_X9_initR 0 x1 M K := by
  by_cases c1 : 1 ≤ x1
  · by_cases c2 : x1 ≤ 9999
    · have l1 : (1 : Int32).toInt = 1 := by decide
      have l9 : (9999 : Int32).toInt = 9999 := by decide
      have d1 := c1
      have d2 := c2
      rw [Int32.le_iff_toInt_le, l1] at d1
      rw [Int32.le_iff_toInt_le, l9] at d2
      obtain ⟨v, hv, rfl⟩ := zr_of (x := x1) (n := 10000) ⟨by omega, by omega⟩ (by omega)
      rw [nI_toInt (by omega)] at d1
      refine ⟨v, by omega, fun M K h => ?_, fun M K h => ?_⟩
      · unfold wp_X8_initR
        rw [if_pos c1, if_pos c2]; exact h
      · unfold wp_X9_initR
        rw [if_pos c1, if_pos c2, nI_l (by omega)]; exact h
    · refine ⟨9999, by omega, fun M K h => ?_, fun M K h => ?_⟩
      · unfold wp_X8_initR
        rw [if_pos c1, if_neg c2]; exact h
      · unfold wp_X9_initR
        rw [if_pos c1, if_neg c2]; exact h
  · refine ⟨1, by omega, fun M K h => ?_, fun M K h => ?_⟩
    · unfold wp_X8_initR
      rw [if_neg c1]; exact h
    · unfold wp_X9_initR
      rw [if_neg c1]; exact h
/-- only the reference's row and its errors have changed -/
def zFs (M0 M : gM) : Prop := (∀ k o, ¬ (k = 52 ∧ o = 0) → M.1 k o = M0.1 k o) ∧ ∀ k o, ¬ (k = 47 ∧ o = 0) → M.2 k o = M0.2 k o
theorem zst_L719 {M0 : gM} {K : gM → Prop} (hK : ∀ M', zFs M0 M' → M'.2 47 0 = M0.2 47 0 → (∀ i, i < 3 → M'.1 52 0 i = -1) → wp_X9_takesTemplate 0 0 M' (fun M739 => wp_X9_reads 0 M739 (fun r743 M743 => wp_X9_loads 0 M743 (fun M748 => K M748)))) : ∀ (n j : Nat) (M : gM), j + n = 3 → zFs M0 M → M.2 47 0 = M0.2 47 0 → (∀ i, i < j → M.1 52 0 i = -1) → wp_X9_init_L719 K (n + 1) 0 (nI j) M
  | 0, j, M, e, f, h7, h => by
    unfold wp_X9_init_L719
    rw [if_pos (zk_le2 (c := 3) (a := 3) rfl (by omega) (by omega))]
    have : j = 3 := by omega
    subst this
    exact hK M f h7 h
  | n + 1, j, M, e, f, h7, h => by
    unfold wp_X9_init_L719
    rw [if_neg (zk_nle (c := 3) (a := 3) rfl (by omega) (by omega))]
    refine ⟨vp_in_nI (by omega) (by omega), ?_⟩
    intro M1 e1 n731 e731
    rw [zn_p1] at e731
    subst e731
    rw [nI_clamp (by omega)] at e1
    refine zst_L719 hK n (j + 1) M1 (by omega) ⟨fun k o q => ?_, fun k o q => ?_⟩ (by rw [e1]; exact h7) (fun i hi => ?_)
    · rw [e1]
      show (if k = 52 ∧ o = 0 then _ else M.1 k o) = _
      rw [if_neg q]; exact f.1 k o q
    · rw [e1]; exact f.2 k o q
    · rw [e1, zuI]
      by_cases c : i = j
      · rw [if_pos ⟨rfl, rfl, c⟩]
      · rw [if_neg (fun q => c q.2.2)]; exact h i (by omega)
theorem zst_L690 {M0 : gM} {K : gM → Prop} (hK : ∀ M', zFs M0 M' → M'.2 47 0 1 = M0.2 47 0 1 → (∀ f, f < 16 → M'.2 47 0 (10 + 7 * f) = 1) → ∃ f719 : Nat, wp_X9_init_L719 K f719 0 0 M') : ∀ (n j : Nat) (M : gM), j + n = 16 → zFs M0 M → M.2 47 0 1 = M0.2 47 0 1 → (∀ f, f < j → M.2 47 0 (10 + 7 * f) = 1) → wp_X9_init_L690 K (n + 1) 0 (nI j) M
  | 0, j, M, e, f, h7, h => by
    unfold wp_X9_init_L690
    rw [if_pos (zk_le2 (c := 16) (a := 16) rfl (by omega) (by omega))]
    have : j = 16 := by omega
    subst this
    exact hK M f h7 h
  | n + 1, j, M, e, f, h7, h => by
    unfold wp_X9_init_L690
    rw [if_neg (zk_nle (c := 16) (a := 16) rfl (by omega) (by omega)), zmu, zad2, zad]
    refine ⟨vp_in_nI (by omega) (by omega), ?_⟩
    intro M1 e1 n711 e711
    rw [zn_p1] at e711
    subst e711
    rw [nI_clamp (by omega), Nat.add_zero] at e1
    refine zst_L690 hK n (j + 1) M1 (by omega) ⟨fun k o q => by rw [e1]; exact f.1 k o q, fun k o q => ?_⟩ (by rw [e1, z47, if_neg (by omega)]; exact h7) (fun i hi => ?_)
    · rw [e1]
      show (if k = 47 ∧ o = 0 then _ else M.2 k o) = _
      rw [if_neg q]; exact f.2 k o q
    · rw [e1, z47]
      by_cases c : i = j
      · rw [if_pos (by omega)]
      · rw [if_neg (by omega)]; exact h i (by omega)
theorem zstart {x1 : Int32} {Q : gM → Prop} (hQ : ∀ M, zT M 0 → Q M) : wp_X8_initR 0 x1 k_M0 (fun M1 => wp_X9_initR 0 x1 (k_MM M1) (fun M2 => Q (k_MO M2))) := by
  obtain ⟨lk, hlk, a8, a9⟩ := zst_lk x1
  have c1 : (1 : Int32).toNatClampNeg = 1 := by decide
  refine a8 _ _ ?_
  unfold wp_X8_init_b140
  intro MA eA
  have sA : ∀ k o i, k ≠ 7 → MA.1 k o i = k_M0.1 k o i := fun k o i q => by rw [eA, zuI, if_neg (by omega)]
  show wp_X8_plant 0 (nI 0) MA _
  refine zx_plant (x := 0) (by omega) (wt := fun _ => 1) (lk := lk) (by rw [eA, zuI, if_pos ⟨rfl, rfl, rfl⟩]) (fun f hf => by rw [sA 12 0 f (by omega)]; exact kM0_12 f hf) (fun MB MC fB eB wC wC0 => ?_)
  refine a9 _ _ ?_
  unfold wp_X9_init_b687
  refine ⟨zvi (by omega) (by omega), ?_⟩
  intro MD eD
  rw [c1] at eD
  refine ⟨17, zst_L690 (M0 := MD) (fun ME fE e1 eF => ?_) 16 0 MD (by omega) ⟨fun _ _ _ => rfl, fun _ _ _ => rfl⟩ rfl (fun f hf => by omega)⟩
  refine ⟨4, zst_L719 (M0 := ME) (fun MF fF f7 f52 => ?_) 3 0 ME (by omega) ⟨fun _ _ _ => rfl, fun _ _ _ => rfl⟩ rfl (fun f hf => by omega)⟩
  show wp_X9_takesTemplate 0 (nI 0) MF (fun M25 => wp_X9_reads 0 M25 (fun r29 M29 => wp_X9_loads 0 M29 (fun M34 => (fun (_ : Int32) (M : gM) => Q (k_MO M)) r29 M34)))
  have s1 : ∀ k o, ¬ (k = 52 ∧ o = 0) → MF.1 k o = (k_MM MC).1 k o := fun k o q => by
    rw [fF.1 k o q, fE.1 k o q, eD]; rfl
  have s2 : ∀ k o, ¬ (k = 47 ∧ o = 0) → MF.2 k o = (k_MM MC).2 k o := fun k o q => by
    rw [fF.2 k o q, fE.2 k o q, eD]
    show (if k = 47 ∧ o = 0 then _ else (k_MM MC).2 k o) = _
    rw [if_neg q]
  have r1 : MF.2 47 0 1 = lN lk := by rw [f7, e1, eD, z47, if_pos rfl]
  refine zm_plant (x := 0) (by omega) (wt := fun _ => 1) (lk := lk) (by rw [s1 50 0 (by omega)]; rfl) r1 (fun f hf => by rw [f7, eF f hf]; rfl) (fun MG fG zG => ?_)
  have hok := ynt_OK (x := 0) (by omega) (wt := fun _ => 1) (lk := lk) 0 (fun f _ => by omega) hlk
  have g : ∀ k o, k ≤ 8 ∨ (10 ≤ k ∧ k ≤ 46) → (k_MO MG).1 k o = MC.1 k o ∧ (k_MO MG).2 k o = MC.2 k o := fun k o q => by
    rw [(kMO_c (by omega)).1, (kMO_c (by omega)).2]
    have z := zsC_p fG k o (by omega)
    rw [z.1, z.2, s1 k o (by omega), s2 k o (by omega)]
    exact kMM_c q
  have m1 : ∀ k o i, ¬ yQB k o i → ¬ (k = 52 ∧ o = 0) → (k_MO MG).1 k o i = (k_MM MC).1 k o i := fun k o i q q2 => by
    show MG.1 k o i = _
    rw [fG.1 k o i q, s1 k o q2]
  have b0 : ∀ k i, k = 8 ∨ k = 45 → (k_MO MG).1 k 0 i = k_M0.1 k 0 i := fun k i q => by
    rw [(g k 0 (by omega)).1, (wC.1 k 0 (by unfold zin; omega)).1]
    rcases q with rfl | rfl
    · rw [fB.2 8 0 i (by unfold yPA; omega)]; exact sA 8 0 i (by omega)
    · rw [eB i]; exact sA 45 0 i (by omega)
  refine hQ _ ⟨ynt (fun _ => 1) lk 0, [], [], fun _ => -1, ⟨?_, fun i T hT => by simp at hT, ?_, ?_, fun i a ha => by simp at ha, fun i hi => ?_⟩, ⟨?_, fun i T hT => by simp at hT, ?_, ?_, fun i a ha => by simp at ha, fun i hi => ?_, ?_⟩, hok, fun i T hT => by simp at hT, by simp, by simp, by simp⟩
  · exact zC_cong (ytt_ok (x := 0) (by omega)).2.2.1.2 wC.2 (fun k o q1 q2 q => g k o (by unfold zin at q; omega))
  · rw [b0 8 7 (by omega)]; rfl
  · rw [b0 8 1 (by omega)]; rfl
  · rw [b0 45 i (by omega)]; exact kM0_45 i hi
  · show zM _ _ ((k_MO MG).2 47 0) _
    rw [(kMO_c (M := MG) (k := 47) (o := 0) (by omega)).2]; exact zG
  · rw [m1 9 0 3 (by unfold yQB; omega) (by omega)]; rfl
  · rw [m1 9 0 7 (by unfold yQB; omega) (by omega)]; rfl
  · show MG.1 52 0 i = -1
    rw [fG.1 52 0 i (by unfold yQB; omega)]; exact f52 i hi
  · have : (k_MO MG).1 50 0 = (k_MM MC).1 50 0 := funext fun i => m1 50 0 i (by unfold yQB; omega) (by omega)
    rw [this]; rfl
