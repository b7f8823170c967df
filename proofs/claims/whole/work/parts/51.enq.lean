/-! a packet arrives -/
def zar0 (S : zW) (f l pr : Nat) (dl : Int64) : zW := zsN (zsL (zsL (zsL (zsN (zsN (zsN S 15 (zN S 1 0) f) 16 (zN S 1 0) l) 17 (zN S 1 0) pr) 6 (zN S 1 0) (zL S 0 0)) 7 (zN S 1 0) dl) 8 (zN S 1 0) (-1)) 22 (zN S 1 0) 1
def zarr (S : zW) (f l pr : Nat) (dl : Int64) : zW := zsN (zsN (zar0 S f l pr dl) 1 0 (zN S 1 0 + 1)) 21 0 (zN S 21 0 + 1)
theorem zC_ext {w nn ar : Nat} {M : gM} {S : zW} (h : zC w nn ar M S) (a1 : M.1 26 w ar = nI (zN S 15 ar)) (a2 : M.1 27 w ar = nI (zN S 16 ar)) (a3 : M.1 28 w ar = nI (zN S 17 ar)) (a4 : M.2 29 w ar = zL S 6 ar) (a5 : M.2 30 w ar = zL S 7 ar) (a6 : M.2 31 w ar = zL S 8 ar) : zC w nn (ar + 1) M S := by
  obtain ⟨hN, hL, hX, hQ, hD⟩ := h
  refine ⟨fun i j ok => ?_, fun i j ok => ?_, hX, hQ, hD⟩
  · by_cases c : 15 ≤ i ∧ i ≤ 17 ∧ j = ar
    · obtain ⟨c1, c2, rfl⟩ := c
      rcases (show i = 15 ∨ i = 16 ∨ i = 17 by omega) with rfl | rfl | rfl
      · exact a1
      · exact a2
      · exact a3
    · exact hN i j (by unfold zokC at ok ⊢; omega)
  · by_cases c : 6 ≤ i ∧ i ≤ 8 ∧ j = ar
    · obtain ⟨c1, c2, rfl⟩ := c
      rcases (show i = 6 ∨ i = 7 ∨ i = 8 by omega) with rfl | rfl | rfl
      · exact a4
      · exact a5
      · exact a6
    · exact hL i j (by unfold zokL at ok ⊢; omega)
theorem zM_ext {nn ar : Nat} {v : Nat → Int64} {S : zW} (h : zM nn ar v S) (a1 : v (640 + 7 * ar + 0) = lN (zN S 15 ar)) (a2 : v (640 + 7 * ar + 1) = lN (zN S 16 ar)) (a3 : v (640 + 7 * ar + 2) = lN (zN S 17 ar)) (a4 : v (640 + 7 * ar + 3) = zL S 6 ar) (a5 : v (640 + 7 * ar + 4) = zL S 7 ar) (a6 : v (640 + 7 * ar + 5) = zL S 8 ar) (a7 : v (640 + 7 * ar + 6) = lN (zN S 22 ar)) : zM nn (ar + 1) v S := by
  obtain ⟨hN, hL, hX, hQ, hD⟩ := h
  refine ⟨fun i j ok => ?_, fun i j ok => ?_, hX, hQ, hD⟩
  · by_cases c : ((15 ≤ i ∧ i ≤ 17) ∨ i = 22) ∧ j = ar
    · obtain ⟨c1, rfl⟩ := c
      rcases (show i = 15 ∨ i = 16 ∨ i = 17 ∨ i = 22 by omega) with rfl | rfl | rfl | rfl
      · exact a1
      · exact a2
      · exact a3
      · exact a7
    · exact hN i j (by unfold zokM at ok ⊢; omega)
  · by_cases c : 6 ≤ i ∧ i ≤ 8 ∧ j = ar
    · obtain ⟨c1, c2, rfl⟩ := c
      rcases (show i = 6 ∨ i = 7 ∨ i = 8 by omega) with rfl | rfl | rfl
      · exact a4
      · exact a5
      · exact a6
    · exact hL i j (by unfold zokL at ok ⊢; omega)
theorem zar_N {S : zW} {f l pr : Nat} {dl : Int64} {i j : Nat} (h : i ≠ 1 ∧ i ≠ 15 ∧ i ≠ 16 ∧ i ≠ 17 ∧ i ≠ 21 ∧ i ≠ 22) : zN (zarr S f l pr dl) i j = zN S i j := by
  unfold zarr zar0
  simp only [zN_sN, zN_sL]
  rw [if_neg (by omega), if_neg (by omega), if_neg (by omega), if_neg (by omega), if_neg (by omega), if_neg (by omega)]
theorem zar_p {S : zW} {f l pr : Nat} {dl : Int64} {i j : Nat} (h : i = 15 ∨ i = 16 ∨ i = 17 ∨ i = 22) (hj : j ≠ zN S 1 0) : zN (zarr S f l pr dl) i j = zN S i j := by
  unfold zarr zar0
  simp only [zN_sN, zN_sL]
  rw [if_neg (by omega), if_neg (by omega), if_neg (by omega), if_neg (by omega), if_neg (by omega), if_neg (by omega)]
theorem zar_new {S : zW} {f l pr : Nat} {dl : Int64} : zN (zarr S f l pr dl) 1 0 = zN S 1 0 + 1 ∧ zN (zarr S f l pr dl) 21 0 = zN S 21 0 + 1 ∧ zN (zarr S f l pr dl) 15 (zN S 1 0) = f ∧ zN (zarr S f l pr dl) 16 (zN S 1 0) = l ∧ zN (zarr S f l pr dl) 17 (zN S 1 0) = pr ∧ zN (zarr S f l pr dl) 22 (zN S 1 0) = 1 := by
  unfold zarr zar0
  simp [zN_sN, zN_sL]
theorem zar_L {S : zW} {f l pr : Nat} {dl : Int64} {i j : Nat} (h : ¬ (i = 6 ∨ i = 7 ∨ i = 8) ∨ j ≠ zN S 1 0) : zL (zarr S f l pr dl) i j = zL S i j := by
  unfold zarr zar0
  simp only [zL_sN, zL_sL]
  rw [if_neg (by omega), if_neg (by omega), if_neg (by omega)]
theorem zar_L8 {S : zW} {f l pr : Nat} {dl : Int64} : zL (zarr S f l pr dl) 8 (zN S 1 0) = -1 ∧ zL (zarr S f l pr dl) 7 (zN S 1 0) = dl ∧ zL (zarr S f l pr dl) 6 (zN S 1 0) = zL S 0 0 := by
  unfold zarr zar0
  simp [zL_sN, zL_sL]
theorem zar_Q {S : zW} {f l pr : Nat} {dl : Int64} : zQ (zarr S f l pr dl) = zQ S ∧ zR (zarr S f l pr dl) = zR S ∧ zD (zarr S f l pr dl) = zD S := ⟨rfl, rfl, rfl⟩
theorem zar_inv {S : zW} {f l pr : Nat} {dl : Int64} (h : zInv S 0 0) (ha : zN S 1 0 < 500) (hw : zN S 21 0 < 64) (hf : f < 16) (hl : 1 ≤ l ∧ l ≤ 1500) (hpr : pr ≤ 9) : zInv (zarr S f l pr dl) 0 1 := by
  obtain ⟨hP, hF, hK, hQ, hC, hH, hW⟩ := h
  obtain ⟨w1, w2, w3, w4, w5, w6⟩ := zar_new (S := S) (f := f) (l := l) (pr := pr) (dl := dl)
  have e : ∀ i j, i ≠ 1 ∧ i ≠ 15 ∧ i ≠ 16 ∧ i ≠ 17 ∧ i ≠ 21 ∧ i ≠ 22 → zN (zarr S f l pr dl) i j = zN S i j := fun i j q => zar_N q
  have e24 : zN (zarr S f l pr dl) 24 = zN S 24 := funext (fun j => e 24 j (by omega))
  have n0 := e 0 0 (by omega)
  refine ⟨?_, ?_, ?_, ?_, ?_, ?_, ?_⟩
  · obtain ⟨p1, p2, p3, p4, p5⟩ := hP
    refine ⟨by rw [n0]; exact p1, fun x a b => ?_, fun x a => ?_, by rw [e 9 0 (by omega)]; exact p4, fun x a => ?_⟩
    · rw [n0] at b
      rw [e 18 x (by omega)]; exact p2 x a b
    · rw [n0] at a
      rw [e 19 x (by omega), p3 x a]
      unfold zcnt
      rw [n0]
      exact zsum_congr (fun y _ => by rw [e 18 y (by omega)])
    · rw [n0] at a
      rw [e 8 x (by omega), e 9 x (by omega), e 10 x (by omega)]
      refine ⟨?_, (p5 x a).2⟩
      unfold zprog
      rw [e 11 x (by omega), e 12 x (by omega), e 13 x (by omega), e 23 0 (by omega), e24]
      exact (p5 x a).1
  · obtain ⟨p1, p2, p3⟩ := hF
    refine ⟨fun g hg => ?_, fun y hy => ?_, by rw [e 2 0 (by omega)]; exact p3⟩
    · rw [e 3 g (by omega), e 4 g (by omega), n0, e 19 _ (by omega)]; exact p1 g hg
    · rw [n0] at hy
      rw [e 14 y (by omega)]; exact p2 y hy
  · obtain ⟨p1, p2⟩ := hK
    refine ⟨by rw [w1]; omega, fun p hp => ?_⟩
    rw [w1] at hp
    by_cases c : p = zN S 1 0
    · rw [c, w3, w4, w5]; omega
    · rw [zar_p (by omega) c, zar_p (by omega) c, zar_p (by omega) c]
      exact p2 p (by omega)
  · intro x hx
    rw [n0] at hx
    obtain ⟨q1, q2, q3, q4⟩ := hQ x hx
    refine ⟨q1, q2, by rw [e 8 x (by omega)]; exact q3, fun b hb => ?_⟩
    obtain ⟨a1, a2, a3, a4⟩ := q4 b hb
    refine ⟨by rw [w1]; omega, by rw [e 20 0 (by omega)]; exact a2, ?_, ?_⟩
    · rw [a3]
      unfold ztie zkey
      rw [e 8 x (by omega), zar_p (by omega) (by omega), e 19 x (by omega), zar_p (by omega) (by omega)]
    · rw [e 19 x (by omega), n0, e 18 _ (by omega)]; exact a4
  · intro y a b
    rw [n0] at b
    have := hC y a b
    unfold zci zch at this ⊢
    rw [e 18 y (by omega)]; exact this
  · intro b hb
    rw [n0, w1]
    have := hH b hb
    omega
  · unfold zwait at hW ⊢
    rw [w2, n0]
    have : zsum (zlf (zarr S f l pr dl)) (zN S 0 0) = zsum (zlf S) (zN S 0 0) := zsum_congr (fun b _ => by
      unfold zlf
      rw [e 19 b (by omega)]; rfl)
    rw [this]
    omega
/-- the world after an arrival -/
def zenq (S : zW) (f l pr : Nat) (dl : Int64) : zW := zclimb 12 (zarr S f l pr dl) (zN S 4 f) (zN S 1 0) (zN S 1 0) (zL S 0 0)
theorem zar_may {S : zW} {f l pr : Nat} {dl : Int64} (h : zInv S 0 0) (hf : f < 16) : zmay (zarr S f l pr dl) 0 1 (zN S 4 f) (zN S 1 0) (zN S 1 0) := by
  obtain ⟨w1, w2, w3, w4, w5, w6⟩ := zar_new (S := S) (f := f) (l := l) (pr := pr) (dl := dl)
  have := h.2.1.1 f hf
  refine ⟨by rw [zar_N (by omega)]; exact this.2.2.1, by rw [w1]; omega, Or.inl ⟨by rw [zar_N (by omega)]; exact this.2.2.2, rfl, rfl, rfl⟩⟩
theorem zenq_ok {S : zW} {c f l pr : Nat} {dl : Int64} (h : zOK S c) (hc : c < 9000) (ha : zN S 1 0 < 500) (hw : zN S 21 0 < 64) (hf : f < 16) (hl : 1 ≤ l ∧ l ≤ 1500) (hpr : pr ≤ 9) : zOK (zenq S f l pr dl) (c + 1) ∧ zN (zenq S f l pr dl) 0 0 = zN S 0 0 ∧ zN (zenq S f l pr dl) 1 0 = zN S 1 0 + 1 := by
  obtain ⟨hi, hB, hD⟩ := h
  have h1 := zar_inv (dl := dl) hi ha hw hf hl hpr
  have hm := zar_may (l := l) (pr := pr) (dl := dl) hi hf
  obtain ⟨w1, w2, w3, w4, w5, w6⟩ := zar_new (S := S) (f := f) (l := l) (pr := pr) (dl := dl)
  have hlf := hi.2.1.1 f hf
  have hn := hi.1.1.2
  obtain ⟨i1, i2, i3⟩ := zclimb_inv 12 _ 0 1 (zN S 4 f) (zN S 1 0) (zN S 1 0) (zL S 0 0) h1 hm (by omega)
  have hBt : zBt (zarr S f l pr dl) (c * 2 ^ 35) := ⟨by rw [zar_L (by omega)]; exact hB.1.1, fun x hx => by
    rw [zar_N (by omega)] at hx
    rw [zar_L (by omega)]; exact hB.1.2.1 x hx, hB.1.2.2⟩
  obtain ⟨b1, b2, b3⟩ := zclimb_Bt 12 _ 0 1 (zN S 4 f) (zN S 1 0) (zN S 1 0) (zL S 0 0) (c * 2 ^ 35) h1 hm (by omega) hBt (by omega) hB.1.1
  have h20 := hB.2.1
  rw [zar_N (by omega)] at b2
  unfold zenq
  refine ⟨⟨i1, ⟨zBt_mono b1 (by omega), by omega, fun g hg => ?_, fun e he => ?_⟩, fun p hp => ?_⟩, ?_, ?_⟩
  · rw [i2 5 g (by omega) (by omega), i2 6 g (by omega) (by omega), i2 7 g (by omega) (by omega), zar_N (by omega), zar_N (by omega), zar_N (by omega)]
    have := hB.2.2.1 g hg
    omega
  · rw [zclimb_L 12 _ _ _ _ _ (by omega) (by omega), zar_L (by omega)]
    rcases b3 e he with q | q
    · exact hB.2.2.2 e q
    · exact q
  · rw [i2 1 0 (by omega) (by omega), w1] at hp
    rw [i2 22 p (by omega) (by omega), zclimb_L 12 _ _ _ _ _ (by omega) (by omega)]
    by_cases q : p = zN S 1 0
    · subst q
      refine Or.inl ⟨w6, zar_L8.1, zinq_climbnew hm.1 ?_⟩
      rcases hm.2.2 with z | z
      · exact z.1
      · exact absurd z.2.1 (by decide)
    · rw [zar_p (by omega) q, zar_L (Or.inr q)]
      rcases hD p (by omega) with z | z
      · refine Or.inl ⟨z.1, z.2.1, zinq_climb 12 _ _ _ _ _ _ ?_⟩
        obtain ⟨y, a1, a2, a3⟩ := z.2.2
        exact ⟨y, by rw [zar_N (by omega)]; exact a1, by rw [zar_N (by omega)]; exact a2, a3⟩
      · exact Or.inr z
  · rw [i2 0 0 (by omega) (by omega), zar_N (by omega)]
  · rw [i2 1 0 (by omega) (by omega), w1]
theorem zx_leafFor {nn ar f : Nat} {M : gM} {S : zW} {K : Int32 → gM → Prop} (h : zC 0 nn ar M S) (hn : zN S 0 0 = nn) (hn2 : nn ≤ 12) (hf : f < 16) (hl : zN S 4 f < nn) (hK : K (nI (zN S 4 f)) M) : wp_X7_leafFor 0 (nI f) M K := by
  unfold wp_X7_leafFor
  rw [if_neg (nI_pos (by omega)), if_neg (zk_nle (c := 16) (a := 16) rfl hf (by omega))]
  refine ⟨vp_in_nI (by omega) (by omega), ?_⟩
  rw [nI_clamp (by omega), zc_leaf h hf]
  unfold wp_X7_leafFor_b23
  refine zx_hasNode h hn hn2 (by omega) ?_
  rw [if_pos hl, if_neg (by decide)]
  exact hK
theorem zc_arrive {M : gM} {S : zW} {f l pr : Nat} {sl : Int32} {K : Int32 → gM → Prop} (h : zC 0 (zN S 0 0) (zN S 1 0) M S) (hi : zInv S 0 0) (ha : zN S 1 0 < 500) (hw : zN S 21 0 < 64) (hf : f < 16) (hl : 1 ≤ l ∧ l ≤ 1500) (hpr : pr ≤ 9) (hK : ∀ M', zCW M 0 (zN S 0 0) (zN S 1 0 + 1) (zenq S f l pr (zL S 0 0 + sl.toInt64)) M' → K (nI (zN S 1 0)) M') : wp_X7_arrive 0 (nI f) (nI l) (nI pr) sl M K := by
  have hn := hi.1.1
  obtain ⟨w1, w2, w3, w4, w5, w6⟩ := zar_new (S := S) (f := f) (l := l) (pr := pr) (dl := zL S 0 0 + sl.toInt64)
  have hlf := hi.2.1.1 f hf
  unfold wp_X7_arrive wp_X4_add
  intro n4 e4
  rw [zc_arrived h] at e4
  subst e4
  have v : vp_in (nI (zN S 1 0)) 500 := vp_in_nI (by omega) (by omega)
  rw [if_neg (nI_pos (by omega)), if_pos (zk_lt (c := 500) (a := 500) rfl ha (by omega)), zc_time h]
  refine ⟨v, ?_⟩
  intro M1 e1
  refine ⟨v, ?_⟩
  intro M2 e2
  refine ⟨v, ?_⟩
  intro M3 e3
  refine ⟨v, ?_⟩
  intro M4 e4
  refine ⟨v, ?_⟩
  intro M5 e5
  refine ⟨v, ?_⟩
  intro M6 e6 M7 e7
  rw [nI_clamp (by omega)] at e1 e2 e3 e4 e5 e6
  have h0 : zCW M 0 (zN S 0 0) (zN S 1 0) S M := ⟨zF_refl, h⟩
  have h1 := zCW_uN (i := 15) (j := zN S 1 0) (v := f) (by omega) (by omega) (by omega) (by omega) (by omega) h0
  have h2 := zCW_uN (i := 16) (j := zN S 1 0) (v := l) (by omega) (by omega) (by omega) (by omega) (by omega) h1
  have h3 := zCW_uN (i := 17) (j := zN S 1 0) (v := pr) (by omega) (by omega) (by omega) (by omega) (by omega) h2
  have h4 := zCW_uL (i := 6) (j := zN S 1 0) (v := zL S 0 0) (by omega) (by omega) (by omega) h3
  have h5 := zCW_uL (i := 7) (j := zN S 1 0) (v := zL S 0 0 + sl.toInt64) (by omega) (by omega) (by omega) h4
  have h6 := zCW_uL (i := 8) (j := zN S 1 0) (v := -1) (by omega) (by omega) (by omega) h5
  have e6' : M6 = g_uL (g_uL (g_uL (g_uI (g_uI (g_uI M 26 0 (zN S 1 0) (nI f)) 27 0 (zN S 1 0) (nI l)) 28 0 (zN S 1 0) (nI pr)) 29 0 (zN S 1 0) (zL S 0 0)) 30 0 (zN S 1 0) (zL S 0 0 + sl.toInt64)) 31 0 (zN S 1 0) (-1) := by rw [e6, e5, e4, e3, e2, e1]
  have h6' : zCW M 0 (zN S 0 0) (zN S 1 0) (zar0 S f l pr (zL S 0 0 + sl.toInt64)) M6 := by
    rw [e6']
    exact ⟨h6.1, zC_gh (Or.inr (Or.inr rfl)) h6.2⟩
  have n1 : zN (zar0 S f l pr (zL S 0 0 + sl.toInt64)) 1 0 = zN S 1 0 := by
    unfold zar0
    simp [zN_sN, zN_sL]
  rw [zc_arrived h6'.2, n1, nI_1] at e7
  have h7 : zCW M 0 (zN S 0 0) (zN S 1 0 + 1) (zarr S f l pr (zL S 0 0 + sl.toInt64)) M7 := by
    have q := zCW_uN (i := 1) (j := 0) (v := zN S 1 0 + 1) (by omega) (by omega) (by omega) (by omega) (by omega) h6'
    have q2 : zC 0 (zN S 0 0) (zN S 1 0) M7 (zarr S f l pr (zL S 0 0 + sl.toInt64)) := by
      rw [e7]
      exact zC_gh (Or.inr (Or.inl rfl)) q.2
    refine ⟨by rw [e7]; exact q.1, zC_ext q2 ?_ ?_ ?_ ?_ ?_ ?_⟩
    · rw [w3, e7, zuI, if_neg (by omega), e6']; simp [zuI, zuL1]
    · rw [w4, e7, zuI, if_neg (by omega), e6']; simp [zuI, zuL1]
    · rw [w5, e7, zuI, if_neg (by omega), e6']; simp [zuI, zuL1]
    · rw [zar_L8.2.2, e7, zuI2, e6']; simp [zuL]
    · rw [zar_L8.2.1, e7, zuI2, e6']; simp [zuL]
    · rw [zar_L8.1, e7, zuI2, e6']; simp [zuL]
  refine zx_leafFor h7.2 (zar_N (by omega)) (by omega) hf (by rw [zar_N (by omega)]; exact hlf.2.2.1) ?_
  rw [zar_N (by omega), zc_time h7.2, zar_L (by omega)]
  exact zc_climb h7 (zar_inv hi ha hw hf hl hpr) (zar_may hi hf) (zar_N (by omega)) w1 (by omega) hK
