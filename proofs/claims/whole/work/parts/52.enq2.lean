/-! enqueue, rankIf -/
def zpl (x y z : Int32) : Prop := (1 ≤ x.toInt ∧ x.toInt ≤ 1500) ∧ (0 ≤ y.toInt ∧ y.toInt ≤ 9) ∧ (0 ≤ z.toInt ∧ z.toInt ≤ 1000000)
theorem zx_vals {x y z : Int32} {M : gM} {K : gM → Prop} {KX : Nat → gM → Prop} (h1 : zpl x y z → K M) (h0 : ¬ zpl x y z → KX 0 M) : wp_X8_needPacketValues x y z M K KX := by
  have l1 : (1 : Int32).toInt = 1 := by decide
  have l0 : (0 : Int32).toInt = 0 := by decide
  have l9 : (9 : Int32).toInt = 9 := by decide
  have l15 : (1500 : Int32).toInt = 1500 := by decide
  have l6 : (1000000 : Int32).toInt = 1000000 := by decide
  unfold wp_X8_needPacketValues wp_X8_needPacketValues_b12 wp_X8_needPacketValues_b33 wp_X8_needPacketValues_b55
  simp only [Int32.lt_iff_toInt_lt, Int32.le_iff_toInt_le, l1, l0, l9, l15, l6]
  unfold zpl at h1 h0
  by_cases c1 : x.toInt < 1
  · rw [if_pos c1]; exact h0 (by omega)
  · rw [if_neg c1]
    by_cases c2 : x.toInt ≤ 1500
    · rw [if_pos c2]
      by_cases c3 : y.toInt < 0
      · rw [if_pos c3]; exact h0 (by omega)
      · rw [if_neg c3]
        by_cases c4 : y.toInt ≤ 9
        · rw [if_pos c4]
          by_cases c5 : z.toInt < 0
          · rw [if_pos c5]; exact h0 (by omega)
          · rw [if_neg c5]
            by_cases c6 : z.toInt ≤ 1000000
            · rw [if_pos c6]; exact h1 (by omega)
            · rw [if_neg c6]; exact h0 (by omega)
        · rw [if_neg c4]; exact h0 (by omega)
    · rw [if_neg c2]; exact h0 (by omega)
theorem zm_vals {x y z : Int32} {M : gM} {K : Int32 → gM → Prop} (h1 : zpl x y z → K 1 M) (h0 : ¬ zpl x y z → K 0 M) : wp_X9_isPacketLike x y z M K := by
  have l1 : (1 : Int64).toInt = 1 := by decide
  have l0 : (0 : Int64).toInt = 0 := by decide
  have l9 : (9 : Int64).toInt = 9 := by decide
  have l15 : (1500 : Int64).toInt = 1500 := by decide
  have l6 : (1000000 : Int64).toInt = 1000000 := by decide
  unfold wp_X9_isPacketLike
  unfold zpl at h1 h0
  refine zm_in (fun c1 => ?_) (fun c1 => ?_)
  · rw [l1, l15] at c1
    rw [if_neg (by decide)]
    refine zm_in (fun c2 => ?_) (fun c2 => ?_)
    · rw [l0, l9] at c2
      rw [if_neg (by decide)]
      refine zm_in (fun c3 => ?_) (fun c3 => ?_)
      · rw [l0, l6] at c3
        rw [if_neg (by decide)]
        exact h1 ⟨c1, c2, c3⟩
      · rw [l0, l6] at c3
        rw [if_pos rfl]
        exact h0 (fun q => c3 q.2.2)
    · rw [l0, l9] at c2
      rw [if_pos rfl]
      exact h0 (fun q => c2 q.2.1)
  · rw [l1, l15] at c1
    rw [if_pos rfl]
    exact h0 (fun q => c1 q.1)
theorem zpl_of {x y z : Int32} (h : zpl x y z) : ∃ l pr, x = nI l ∧ y = nI pr ∧ 1 ≤ l ∧ l ≤ 1500 ∧ pr ≤ 9 := by
  obtain ⟨l, hl, rfl⟩ := zr_of (x := x) (n := 1501) ⟨by have := h.1; omega, by have := h.1; omega⟩ (by omega)
  obtain ⟨pr, hp, rfl⟩ := zr_of (x := y) (n := 10) ⟨by have := h.2.1; omega, by have := h.2.1; omega⟩ (by omega)
  have := h.1
  rw [nI_toInt (by omega)] at this
  exact ⟨l, pr, rfl, rfl, by omega, by omega, by omega⟩
theorem zm_arrive {M0 M : gM} {S : zW} {f l pr : Nat} {sl : Int32} {K : Int32 → gM → Prop} (h : zMW M0 (zN S 0 0) (zN S 1 0) S M) (hi : zInv S 0 0) (ha : zN S 1 0 < 500) (hw : zN S 21 0 < 64) (hf : f < 16) (hl : 1 ≤ l ∧ l ≤ 1500) (hpr : pr ≤ 9) (h9 : M.1 9 0 4 = M.1 9 0 4) (hpl : zpl (nI l) (nI pr) sl) (hK : ∀ M', zMW M0 (zN S 0 0) (zN S 1 0 + 1) (zenq S f l pr (zL S 0 0 + sl.toInt64)) M' → K (nI (zN S 1 0)) M') : ∀ n74 : Int32, n74 = (M.2 47 0 (3 : Int32).toNatClampNeg).toInt32 → wp_X9_packet n74 M (fun r82 M82 => vp_in (r82 + 0) 7600 ∧ ∀ M89 : gM, M89 = g_uL M82 47 0 (r82 + 0).toNatClampNeg (nI f).toInt64 → wp_X9_packet n74 M89 (fun r96 M96 => vp_in (r96 + 1) 7600 ∧ ∀ M103 : gM, M103 = g_uL M96 47 0 (r96 + 1).toNatClampNeg (nI l).toInt64 → wp_X9_packet n74 M103 (fun r110 M110 => vp_in (r110 + 2) 7600 ∧ ∀ M117 : gM, M117 = g_uL M110 47 0 (r110 + 2).toNatClampNeg (nI pr).toInt64 → wp_X9_packet n74 M117 (fun r124 M124 => vp_in 0 7600 ∧ vp_in (r124 + 3) 7600 ∧ ∀ M135 : gM, M135 = g_uL M124 47 0 (r124 + 3).toNatClampNeg (M124.2 47 0 (0 : Int32).toNatClampNeg) → wp_X9_packet n74 M135 (fun r142 M142 => vp_in 0 7600 ∧ vp_in (r142 + 4) 7600 ∧ ∀ M157 : gM, M157 = g_uL M142 47 0 (r142 + 4).toNatClampNeg ((M142.2 47 0 (0 : Int32).toNatClampNeg) + sl.toInt64) → wp_X9_packet n74 M157 (fun r164 M164 => vp_in (r164 + 5) 7600 ∧ ∀ M172 : gM, M172 = g_uL M164 47 0 (r164 + 5).toNatClampNeg (-1) → wp_X9_packet n74 M172 (fun r179 M179 => vp_in (r179 + 6) 7600 ∧ ∀ M186 : gM, M186 = g_uL M179 47 0 (r179 + 6).toNatClampNeg 1 → vp_in 3 7600 ∧ vp_in 3 7600 ∧ ∀ M196 : gM, M196 = g_uL M186 47 0 (3 : Int32).toNatClampNeg ((M186.2 47 0 (3 : Int32).toNatClampNeg) + 1) → vp_in 7 7600 ∧ vp_in 7 7600 ∧ ∀ M207 : gM, M207 = g_uL M196 47 0 (7 : Int32).toNatClampNeg ((M196.2 47 0 (7 : Int32).toNatClampNeg) + 1) → wp_X9_flow (nI f) M207 (fun r213 M213 => vp_in (r213 + 1) 7600 ∧ ∀ n220 : Int32, n220 = (M213.2 47 0 (r213 + 1).toNatClampNeg).toInt32 → wp_X9_flow (nI f) M213 (fun r233 M233 => vp_in (r233 + 0) 7600 ∧ vp_in 0 7600 ∧ wp_X9_enters 0 n220 n74 (nI f) (M233.2 47 0 (r233 + 0).toNatClampNeg) n74 (M233.2 47 0 (0 : Int32).toNatClampNeg) M233 (fun M247 => vp_in 0 7600 ∧ wp_X9_climbs 0 n220 n74 (M247.2 47 0 (0 : Int32).toNatClampNeg) M247 (fun M261 => K n74 M261)))))))))))  := by
  have hn := hi.1.1
  obtain ⟨w1, w2, w3, w4, w5, w6⟩ := zar_new (S := S) (f := f) (l := l) (pr := pr) (dl := zL S 0 0 + sl.toInt64)
  have hlf := hi.2.1.1 f hf
  intro n74 e74
  rw [zcl (by omega), zm_arrived h.2, lN_i] at e74
  subst e74
  rw [zm_pk, zad]
  refine ⟨vp_in_nI (by omega) (by omega), ?_⟩
  intro M1 e1
  rw [zm_pk, zad]
  refine ⟨vp_in_nI (by omega) (by omega), ?_⟩
  intro M2 e2
  rw [zm_pk, zad]
  refine ⟨vp_in_nI (by omega) (by omega), ?_⟩
  intro M3 e3
  rw [nI_clamp (by omega), nI_l (by omega)] at e1 e2 e3
  have h1 := zMW_uN (i := 15) (j := zN S 1 0) (x := f) hn.2 (by omega) (by unfold zokM; omega) (by omega) h
  have h2 := zMW_uN (i := 16) (j := zN S 1 0) (x := l) hn.2 (by omega) (by unfold zokM; omega) (by omega) h1
  have h3 := zMW_uN (i := 17) (j := zN S 1 0) (x := pr) hn.2 (by omega) (by unfold zokM; omega) (by omega) h2
  have e3' : M3 = g_uL (g_uL (g_uL M 47 0 (640 + 7 * zN S 1 0 + 0) (lN f)) 47 0 (640 + 7 * zN S 1 0 + 1) (lN l)) 47 0 (640 + 7 * zN S 1 0 + 2) (lN pr) := by rw [e3, e2, e1]
  have h3' : zMW M0 (zN S 0 0) (zN S 1 0) (zsN (zsN (zsN S 15 (zN S 1 0) f) 16 (zN S 1 0) l) 17 (zN S 1 0) pr) M3 := by rw [e3']; exact h3
  rw [zm_pk, zad]
  refine ⟨zvi (by omega) (by omega), vp_in_nI (by omega) (by omega), ?_⟩
  intro M4 e4
  rw [nI_clamp (by omega), zcl (by omega), zm_time h3'.2] at e4
  have h4 := zMW_uL (i := 6) (j := zN S 1 0) (x := zL S 0 0) hn.2 (by omega) (by unfold zokL; omega) h3'
  have h4' : zMW M0 (zN S 0 0) (zN S 1 0) (zsL (zsN (zsN (zsN S 15 (zN S 1 0) f) 16 (zN S 1 0) l) 17 (zN S 1 0) pr) 6 (zN S 1 0) (zL S 0 0)) M4 := by rw [e4]; exact h4
  rw [zm_pk, zad]
  refine ⟨zvi (by omega) (by omega), vp_in_nI (by omega) (by omega), ?_⟩
  intro M5 e5
  rw [nI_clamp (by omega), zcl (by omega), zm_time h4'.2, zL_sL, if_neg (by omega)] at e5
  have h5 := zMW_uL (i := 7) (j := zN S 1 0) (x := zL S 0 0 + sl.toInt64) hn.2 (by omega) (by unfold zokL; omega) h4'
  have h5' : zMW M0 (zN S 0 0) (zN S 1 0) (zsL (zsL (zsN (zsN (zsN S 15 (zN S 1 0) f) 16 (zN S 1 0) l) 17 (zN S 1 0) pr) 6 (zN S 1 0) (zL S 0 0)) 7 (zN S 1 0) (zL S 0 0 + sl.toInt64)) M5 := by rw [e5]; exact h5
  rw [zm_pk, zad]
  refine ⟨vp_in_nI (by omega) (by omega), ?_⟩
  intro M6 e6
  rw [nI_clamp (by omega)] at e6
  have h6 := zMW_uL (i := 8) (j := zN S 1 0) (x := -1) hn.2 (by omega) (by unfold zokL; omega) h5'
  rw [zm_pk, zad]
  refine ⟨vp_in_nI (by omega) (by omega), ?_⟩
  intro M7 e7
  rw [nI_clamp (by omega)] at e7
  have h7 : zMW M0 (zN S 0 0) (zN S 1 0) (zar0 S f l pr (zL S 0 0 + sl.toInt64)) M7 := by
    rw [e7, e6]
    exact zMW_uN (i := 22) (j := zN S 1 0) (x := 1) hn.2 (by omega) (by unfold zokM; omega) (by omega) h6
  have n1 : zN (zar0 S f l pr (zL S 0 0 + sl.toInt64)) 1 0 = zN S 1 0 := by
    unfold zar0
    simp [zN_sN, zN_sL]
  have n21 : zN (zar0 S f l pr (zL S 0 0 + sl.toInt64)) 21 0 = zN S 21 0 := by
    unfold zar0
    simp [zN_sN, zN_sL]
  refine ⟨zvi (by omega) (by omega), zvi (by omega) (by omega), ?_⟩
  intro M8 e8
  rw [zcl (by omega), zm_arrived h7.2, n1, lN_1] at e8
  have h8 : zMW M0 (zN S 0 0) (zN S 1 0) (zsN (zar0 S f l pr (zL S 0 0 + sl.toInt64)) 1 0 (zN S 1 0 + 1)) M8 := by
    rw [e8]
    exact zMW_uN (i := 1) (j := 0) hn.2 (by omega) (by unfold zokM; omega) (by omega) h7
  refine ⟨zvi (by omega) (by omega), zvi (by omega) (by omega), ?_⟩
  intro M9 e9
  rw [zcl (by omega), zm_waiting h8.2, zN_sN, if_neg (by omega), n21, lN_1] at e9
  have h9' : zMW M0 (zN S 0 0) (zN S 1 0) (zarr S f l pr (zL S 0 0 + sl.toInt64)) M9 := by
    rw [e9]
    exact zMW_uN (i := 21) (j := 0) hn.2 (by omega) (by unfold zokM; omega) (by omega) h8
  have rd : ∀ a, 640 + 7 * zN S 1 0 ≤ a → a ≤ 640 + 7 * zN S 1 0 + 6 → M9.2 47 0 a = M7.2 47 0 a := fun a q1 q2 => by
    rw [e9, zuL, if_neg (by omega), e8, zuL, if_neg (by omega)]
  have h10 : zMW M0 (zN S 0 0) (zN S 1 0 + 1) (zarr S f l pr (zL S 0 0 + sl.toInt64)) M9 := by
    refine ⟨h9'.1, zM_ext h9'.2 ?_ ?_ ?_ ?_ ?_ ?_ ?_⟩
    · rw [w3, rd _ (by omega) (by omega), e7, zuL, if_neg (by omega), e6, zuL, if_neg (by omega), e5, zuL, if_neg (by omega), e4, zuL, if_neg (by omega), e3', zuL, if_neg (by omega), zuL, if_neg (by omega), zuL, if_pos ⟨rfl, rfl, rfl⟩]
    · rw [w4, rd _ (by omega) (by omega), e7, zuL, if_neg (by omega), e6, zuL, if_neg (by omega), e5, zuL, if_neg (by omega), e4, zuL, if_neg (by omega), e3', zuL, if_neg (by omega), zuL, if_pos ⟨rfl, rfl, rfl⟩]
    · rw [w5, rd _ (by omega) (by omega), e7, zuL, if_neg (by omega), e6, zuL, if_neg (by omega), e5, zuL, if_neg (by omega), e4, zuL, if_neg (by omega), e3', zuL, if_pos ⟨rfl, rfl, rfl⟩]
    · rw [zar_L8.2.2, rd _ (by omega) (by omega), e7, zuL, if_neg (by omega), e6, zuL, if_neg (by omega), e5, zuL, if_neg (by omega), e4, zuL, if_pos ⟨rfl, rfl, rfl⟩]; rfl
    · rw [zar_L8.2.1, rd _ (by omega) (by omega), e7, zuL, if_neg (by omega), e6, zuL, if_neg (by omega), e5, zuL, if_pos ⟨rfl, rfl, rfl⟩]; rfl
    · rw [zar_L8.1, rd _ (by omega) (by omega), e7, zuL, if_neg (by omega), e6, zuL, if_pos ⟨rfl, rfl, rfl⟩]
    · rw [w6, rd _ (by omega) (by omega), e7, zuL, if_pos ⟨rfl, rfl, rfl⟩]; rfl
  have hia := zar_inv (dl := zL S 0 0 + sl.toInt64) hi ha hw hf hl hpr
  have hm := zar_may (l := l) (pr := pr) (dl := zL S 0 0 + sl.toInt64) hi hf
  have hE := zmay_En hia hm
  rw [zar_N (by omega)] at hE
  have ek : zkey (zarr S f l pr (zL S 0 0 + sl.toInt64)) (zN S 4 f) (zN S 1 0) (zN S 1 0) = f := by
    unfold zkey
    rw [zar_N (by omega), if_pos hlf.2.2.2, w3]
  have hqs : ∀ y, y < zN S 0 0 → (zR (zarr S f l pr (zL S 0 0 + sl.toInt64)) y).length ≤ 64 := fun y hy => by
    rw [zInv_lenR hia (by rw [zar_N (by omega)]; exact hy)]
    have := zlen64 hia (x := y) (by rw [zar_N (by omega)]; exact hy)
    omega
  rw [zm_fl, zad]
  refine ⟨vp_in_nI (by omega) (by omega), ?_⟩
  intro n220 e220
  rw [nI_clamp (by omega), zm_leaf h10.2 hf, lN_i, zar_N (by omega)] at e220
  subst e220
  rw [zm_fl, zad]
  refine ⟨vp_in_nI (by omega) (by omega), zvi (by omega) (by omega), ?_⟩
  rw [nI_clamp (by omega), zcl (by omega), zm_fweight h10.2 hf, zm_time h10.2, zar_L (by omega)]
  have go := zm_enter (K := fun M247 => vp_in 0 7600 ∧ wp_X9_climbs 0 (nI (zN S 4 f)) (nI (zN S 1 0)) (M247.2 47 0 (0 : Int32).toNatClampNeg) M247 (fun M261 => K (nI (zN S 1 0)) M261)) (t := zL S 0 0) (wt := lN (zN (zarr S f l pr (zL S 0 0 + sl.toInt64)) 3 f)) h10 hn.2 (by omega) (by omega) hE (by omega) (by
    have z19 : zN (zarr S f l pr (zL S 0 0 + sl.toInt64)) 19 (zN S 4 f) = 0 := by rw [zar_N (by omega)]; exact hlf.2.2.2
    rw [ek]; unfold zwt; rw [if_pos z19]) (zInv_lenR hia hm.1) hqs (fun M11 h11 => ?_)
  · rw [ek] at go
    exact go
  · refine ⟨zvi (by omega) (by omega), ?_⟩
    rw [zcl (by omega), zm_time h11.2, zen_L (by omega), zar_L (by omega)]
    refine ⟨13, zm_climbL 11 _ M11 (zN S 4 f) (zN S 1 0) (zL S 0 0) 0 h11 (zenter_inv hia hm) ?_ ?_ ?_ ?_ (by omega) (by omega) ?_⟩
    · rw [zen_N (by omega)]; exact hm.1
    · rw [zen_N (by omega)]; exact hm.2.1
    · rw [zen_N (by omega), zar_N (by omega)]
    · rw [zen_N (by omega)]; exact w1
    · rw [← zclimb_succ]; exact hK
theorem zq_enqueue {t : gT} {M : gM} {c : Nat} {x1 x2 x3 x4 : Int32} {V : gM → Prop → Prop} {Nx : gM → Prop} (hc : c < 9000) (h : zT M c) (hV : ∀ (M : gM) (p : Prop), p → V M p) (hN : ∀ M', zT M' (c + 2) → Nx M') : wp_L_enqueue t 0 x1 x2 x3 x4 0 M (fun r M1 => V M1 (wp_X9_enqueue 0 x1 x2 x3 x4 M1 (fun rb M2 => zFin Nx r rb.toInt64 M2))) := by
  have h' := h
  obtain ⟨S, ks, tx, er, h1, h2, h3⟩ := h'
  have hi := h3.1.1
  have hn := zOK_n h3.1
  have hN9 : ∀ M', zT M' c → Nx M' := fun M' q => hN M' (zT_mono q (by omega))
  have hwt := (zheld_le hi).2
  have e9 : ∀ k : Int32, k ≠ 0 → wp_X9_fails 0 k (g_uI M 9 0 4 0) (fun r M14 => zFin Nx k r.toInt64 M14) := fun k hk => by
    unfold wp_X9_fails
    intro M4 e4
    rw [e4]
    exact zthr (zT_9 h) hN9 hk
  have full : ¬ (zN S 21 0 < 64 ∧ zN S 1 0 < 500) → zr x1 16 → zpl x2 x3 x4 → wp_X9_enqueue 0 x1 x2 x3 x4 M (fun rb M2 => zFin Nx 3 rb.toInt64 M2) := fun q cc cp => by
    unfold wp_X9_enqueue
    intro M2 e2
    subst e2
    refine zm_isFlow (fun _ => ?_) (fun q => absurd cc q)
    rw [if_neg (by decide)]
    refine zm_vals (fun _ => ?_) (fun q => absurd cp q)
    rw [if_neg (by decide)]
    refine ⟨zvi (by omega) (by omega), ?_⟩
    rw [zcl (by omega), zuI2, zm_waiting h2.1]
    by_cases q1 : zN S 21 0 = 64
    · rw [if_pos (zj_eq (c := 64) (a := 64) rfl q1)]
      exact e9 3 (by decide)
    · rw [if_neg (zj_ne (c := 64) (a := 64) rfl q1 (by omega) (by omega))]
      refine ⟨zvi (by omega) (by omega), ?_⟩
      rw [zcl (by omega), zm_arrived h2.1, if_pos (zj_eq (c := 500) (a := 500) rfl (by omega))]
      exact e9 3 (by decide)
  unfold wp_L_enqueue wp_X8_enqueue
  refine zx_needFlow (fun cc => ?_) (fun cc => ?_)
  · refine zx_vals (fun cp => ?_) (fun cp => ?_)
    · refine zx_wait h1.1 hi rfl ?_
      by_cases c64 : zN S 21 0 < 64
      · rw [if_pos (zk_lt (c := 64) (a := 64) rfl c64 (by omega)), zc_arrived h1.1]
        by_cases c500 : zN S 1 0 < 500
        · rw [if_pos (zk_lt (c := 500) (a := 500) rfl c500 (by omega))]
          obtain ⟨f, hf, rfl⟩ := zr_of cc (by omega)
          obtain ⟨l, pr, rfl, rfl, l1, l2, p1⟩ := zpl_of cp
          refine zc_arrive h1.1 hi c500 c64 hf ⟨l1, l2⟩ p1 (fun M1 hM1 => ?_)
          refine ⟨zvi (by omega) (by omega), ?_⟩
          intro M2 e2
          refine hV _ _ ?_
          have st := zop_start (v := 0) h2 hM1.1 (zout_X e2)
          unfold wp_X9_enqueue
          intro M3 e3
          subst e3
          refine zm_isFlow (fun _ => ?_) (fun q => absurd cc q)
          rw [if_neg (by decide)]
          refine zm_vals (fun _ => ?_) (fun q => absurd cp q)
          rw [if_neg (by decide)]
          refine ⟨zvi (by omega) (by omega), ?_⟩
          rw [show (7 : Int32).toNatClampNeg = 7 from rfl, zm_waiting st.2, if_neg (zj_ne (c := 64) (a := 64) rfl (by omega) (by omega) (by omega))]
          refine ⟨zvi (by omega) (by omega), ?_⟩
          rw [if_neg (by rw [zcl (by omega), zm_arrived st.2]; exact zj_ne (c := 500) (a := 500) rfl (by omega) (by omega) (by omega))]
          refine ⟨zvi (by omega) (by omega), ?_⟩
          refine zm_arrive st hi c500 c64 hf ⟨l1, l2⟩ p1 rfl cp (fun M4 hM4 => ?_)
          obtain ⟨o1, o2, o3⟩ := zenq_ok (dl := zL S 0 0 + x4.toInt64) h3.1 hc c500 c64 hf ⟨l1, l2⟩ p1
          have fin := zop (v := 0) h1 h2 h3 (zOK_mono o1 (show c + 1 ≤ c + 2 by omega)) (by omega) (by rw [o2, o3]; exact hM1) (zout_X e2) (by rw [o2, o3]; exact hM4)
          refine zfin_0 fin.2.1 ?_ (hN _ fin.1)
          rw [fin.2.2, e2, zcl0, zuL, if_pos ⟨rfl, rfl, rfl⟩]
        · rw [if_neg (zk_nlt (c := 500) (a := 500) rfl (by omega) (by omega))]
          show (if (1 : Nat) = 2 then _ else _)
          rw [if_neg (by decide), if_neg (by decide), if_pos rfl]
          exact hV _ _ (full (by omega) cc cp)
      · rw [if_neg (zk_nlt (c := 64) (a := 64) rfl (by omega) (by omega))]
        show (if (1 : Nat) = 2 then _ else _)
        rw [if_neg (by decide), if_neg (by decide), if_pos rfl]
        exact hV _ _ (full (by omega) cc cp)
    · show (if (0 : Nat) = 2 then _ else _)
      rw [if_neg (by decide), if_pos rfl]
      refine hV _ _ ?_
      unfold wp_X9_enqueue
      intro M2 e2
      subst e2
      refine zm_isFlow (fun _ => ?_) (fun q => absurd cc q)
      rw [if_neg (by decide)]
      refine zm_vals (fun q => absurd q cp) (fun _ => ?_)
      rw [if_pos rfl]
      exact e9 2 (by decide)
  · rw [if_pos rfl]
    refine hV _ _ ?_
    unfold wp_X9_enqueue
    intro M2 e2
    subst e2
    refine zm_isFlow (fun q => absurd q cc) (fun _ => ?_)
    rw [if_pos rfl]
    exact e9 1 (by decide)
theorem zx_rankOf {M : gM} {S : zW} {f l pr : Nat} {sl : Int32} {K : Int64 → gM → Prop} (h : zC 0 (zN S 0 0) (zN S 1 0) M S) (hi : zInv S 0 0) (hf : f < 16) (hl : l ≤ 1500) (hpr : pr ≤ 9) (hK : ∀ M', zCW M 0 (zN S 0 0) (zN S 1 0) S M' → K (zrank S (zN S 4 f) f (lN pr) (lN l) (zL S 0 0 + sl.toInt64) (zL S 0 0)) M') : wp_X7_rankOfArrival 0 (nI f) (nI l) (nI pr) sl M K := by
  have hn := hi.1.1
  have hlf := hi.2.1.1 f hf
  have hcc := zcc_lt hi hlf.2.2.1
  have h64 := zlen64 hi hlf.2.2.1
  obtain ⟨g1, g2, g3, g4, g5, g6, g7⟩ := (hi.1.2.2.2.2 _ hlf.2.2.1).1
  have h0 : zCW M 0 (zN S 0 0) (zN S 1 0) S M := ⟨zF_refl, h⟩
  unfold wp_X7_rankOfArrival
  refine zx_leafFor h rfl hn.2 hf hlf.2.2.1 ?_
  rw [zc_time h, nI_l (by omega), nI_l (by omega)]
  unfold wp_X0_setPacket
  refine ⟨zvi (by omega) (by omega), ?_⟩
  intro M1 e1
  refine ⟨zvi (by omega) (by omega), ?_⟩
  intro M2 e2
  refine ⟨zvi (by omega) (by omega), ?_⟩
  intro M3 e3
  rw [zcl (by omega)] at e1 e2 e3
  have h3 : zCW M 0 (zN S 0 0) (zN S 1 0) S M3 := by
    rw [e3, e2, e1]
    exact zCW_calc (Or.inl rfl) (zCW_calc (Or.inl rfl) (zCW_calc (Or.inl rfl) h0))
  rw [zc_time h3.2]
  refine zx_look h3.2 rfl hn.2 hlf.2.2.1 (by omega) (Or.inl ⟨hlf.2.2.2, hf⟩) (fun g hg => by have := hi.2.1.1 g hg; omega) (fun y hy => by have := hi.2.1.2.1 y hy; omega) (by omega) (fun M4 s4 v4 v4' => ?_)
  rw [if_neg (by decide)]
  have h4 : zCW M 0 (zN S 0 0) (zN S 1 0) S M4 := ⟨fun k o q => by
    have hk : k ≠ 10 := fun z => q (by unfold zin; omega)
    rw [s4.1, s4.2 k o hk]
    exact h3.1 k o q, zC_cong hn.2 h3.2 (fun k o a b q => ⟨by rw [s4.1], s4.2 k o a⟩)⟩
  refine ⟨vp_in_nI (by omega) (by omega), vp_in_nI (by omega) (by omega), ?_⟩
  rw [nI_clamp (by omega), zc_rankFrom h4.2 hlf.2.2.1, zc_stateFrom h4.2 hlf.2.2.1]
  have er : nI (zN S 12 (zN S 4 f)) = nI (zN S 11 (zN S 4 f) + (zN S 12 (zN S 4 f) - zN S 11 (zN S 4 f))) := by congr 1; omega
  rw [er]
  refine zc_value (hv := fun j => M4.2 10 0 j) (code := zN S 24) (by omega) (fun j hj hj2 => h4.2.2.2.1.2 j (by omega)) (fun j hj => rfl) g5 (fun M5 s5 => ?_)
  have hvv : ∀ j, j < 9 → M4.2 10 0 j = zvar S (zN S 4 f) f (lN pr) (lN l) (zL S 0 0 + sl.toInt64) (zL S 0 0) 0 j := fun j hj => by
    by_cases c : 3 ≤ j
    · exact v4 _ _ _ _ j c hj
    · rw [v4' j (by omega), e3, e2, e1]
      rcases (show j = 0 ∨ j = 1 ∨ j = 2 by omega) with rfl | rfl | rfl <;> simp [zuL, zvar]
  have erk : zval (fun j => M4.2 10 0 j) (zN S 24) (zN S 12 (zN S 4 f) - zN S 11 (zN S 4 f)) (zN S 11 (zN S 4 f)) = zrank S (zN S 4 f) f (lN pr) (lN l) (zL S 0 0 + sl.toInt64) (zL S 0 0) := by
    unfold zval zrank zval
    rw [zev_congr hvv _ _ _ (fun j a b => g7 j a (by omega))]
  rw [erk]
  exact hK M5 (zCW_SX h4 s5)
theorem zm_rankOf {M0 M : gM} {S : zW} {f l pr : Nat} {sl : Int32} {K : Int64 → gM → Prop} (h : zMW M0 (zN S 0 0) (zN S 1 0) S M) (hi : zInv S 0 0) (hf : f < 16) (hl : l ≤ 1500) (hpr : pr ≤ 9) (hK : ∀ M', zMW M0 (zN S 0 0) (zN S 1 0) S M' → K (zrank S (zN S 4 f) f (lN pr) (lN l) (zL S 0 0 + sl.toInt64) (zL S 0 0)) M') : wp_X9_flow (nI f) M (fun r41 M41 => vp_in (r41 + 1) 7600 ∧ ∀ n48 : Int32, n48 = (M41.2 47 0 (r41 + 1).toNatClampNeg).toInt32 → vp_in 0 10 ∧ ∀ M57 : gM, M57 = g_uL M41 58 0 (0 : Int32).toNatClampNeg (nI pr).toInt64 → vp_in 1 10 ∧ ∀ M65 : gM, M65 = g_uL M57 58 0 (1 : Int32).toNatClampNeg (nI l).toInt64 → vp_in 0 7600 ∧ vp_in 2 10 ∧ ∀ M81 : gM, M81 = g_uL M65 58 0 (2 : Int32).toNatClampNeg ((M65.2 47 0 (0 : Int32).toNatClampNeg) + sl.toInt64) → wp_X9_flow (nI f) M81 (fun r91 M91 => vp_in (r91 + 0) 7600 ∧ vp_in 0 7600 ∧ wp_X9_prepares 0 n48 (nI f) (M91.2 47 0 (r91 + 0).toNatClampNeg) (M91.2 47 0 (0 : Int32).toNatClampNeg) M91 (fun M103 => wp_X9_node n48 M103 (fun r113 M113 => vp_in (r113 + 7) 7600 ∧ wp_X9_node n48 M113 (fun r126 M126 => vp_in (r126 + 8) 7600 ∧ wp_X9_worked 0 (M113.2 47 0 (r113 + 7).toNatClampNeg) (M126.2 47 0 (r126 + 8).toNatClampNeg) M126 (fun r133 M133 => K r133 M133)))))) := by
  have hn := hi.1.1
  have hlf := hi.2.1.1 f hf
  obtain ⟨g1, g2, g3, g4, g5, g6, g7⟩ := (hi.1.2.2.2.2 _ hlf.2.2.1).1
  rw [zm_fl, zad]
  refine ⟨vp_in_nI (by omega) (by omega), ?_⟩
  intro n48 e48
  rw [nI_clamp (by omega), zm_leaf h.2 hf, lN_i] at e48
  subst e48
  refine ⟨zvi (by omega) (by omega), ?_⟩
  intro M1 e1
  refine ⟨zvi (by omega) (by omega), ?_⟩
  intro M2 e2
  refine ⟨zvi (by omega) (by omega), zvi (by omega) (by omega), ?_⟩
  intro M3 e3
  rw [zcl (by omega), nI_l (by omega)] at e1 e2
  have h2 : zMW M0 (zN S 0 0) (zN S 1 0) S M2 := by
    rw [e2, e1]
    exact zMW_scr (Or.inr rfl) (zMW_scr (Or.inr rfl) h)
  rw [show (0 : Int32).toNatClampNeg = 0 from rfl, show (2 : Int32).toNatClampNeg = 2 from rfl, zm_time h2.2] at e3
  have h3 : zMW M0 (zN S 0 0) (zN S 1 0) S M3 := by rw [e3]; exact zMW_scr (Or.inr rfl) h2
  rw [zm_fl, zad]
  refine ⟨vp_in_nI (by omega) (by omega), zvi (by omega) (by omega), ?_⟩
  rw [nI_clamp (by omega), zcl (by omega), zm_fweight h3.2 hf, zm_time h3.2]
  refine zm_prepares h3 hn.2 hlf.2.2.1 hf (by unfold zwt; rw [if_pos hlf.2.2.2]) (zInv_lenR hi hlf.2.2.1) (fun M4 h4 v4' v4 => ?_)
  rw [zm_nd, zad]
  refine ⟨vp_in_nI (by omega) (by omega), ?_⟩
  rw [zm_nd, zad]
  refine ⟨vp_in_nI (by omega) (by omega), ?_⟩
  rw [nI_clamp (by omega), nI_clamp (by omega), zm_rankAt h4.2 hlf.2.2.1, (h4.2.2.2.1.2.1 _ hlf.2.2.1).1]
  refine zm_value (hv := fun j => M4.2 58 0 j) (code := zN S 24) (by omega) (fun j hj hj2 => h4.2.2.2.1.2.2 j (by omega)) (fun j hj => rfl) g5 (fun M5 s5 => ?_)
  have hvv : ∀ j, j < 9 → M4.2 58 0 j = zvar S (zN S 4 f) f (lN pr) (lN l) (zL S 0 0 + sl.toInt64) (zL S 0 0) 0 j := fun j hj => by
    by_cases c : 3 ≤ j
    · exact v4 _ _ _ _ j c hj
    · rw [v4' j (by omega), e3, e2, e1]
      rcases (show j = 0 ∨ j = 1 ∨ j = 2 by omega) with rfl | rfl | rfl <;> simp [zuL, zvar]
  have erk : zval (fun j => M4.2 58 0 j) (zN S 24) (zN S 12 (zN S 4 f) - zN S 11 (zN S 4 f)) (zN S 11 (zN S 4 f)) = zrank S (zN S 4 f) f (lN pr) (lN l) (zL S 0 0 + sl.toInt64) (zL S 0 0) := by
    unfold zval zrank zval
    rw [zev_congr hvv _ _ _ (fun j a b => g7 j a (by omega))]
  rw [erk]
  exact hK M5 (zMW_SX (Or.inl rfl) h4 s5)
theorem zq_rankIf {t : gT} {M : gM} {c : Nat} {x1 x2 x3 x4 : Int32} {V : gM → Prop → Prop} {Nx : gM → Prop} (h : zT M c) (hV : ∀ (M : gM) (p : Prop), p → V M p) (hN : ∀ M', zT M' c → Nx M') : wp_L_rankIf t 0 x1 x2 x3 x4 0 M (fun r M1 => V M1 (wp_X9_rankIf 0 x1 x2 x3 x4 M1 (fun rb M2 => zFin Nx r rb M2))) := by
  have h' := h
  obtain ⟨S, ks, tx, er, h1, h2, h3⟩ := h'
  have hi := h3.1.1
  unfold wp_L_rankIf wp_X8_rankIf
  refine zx_needFlow (fun cc => ?_) (fun cc => ?_)
  · refine zx_vals (fun cp => ?_) (fun cp => ?_)
    · obtain ⟨f, hf, rfl⟩ := zr_of cc (by omega)
      obtain ⟨l, pr, rfl, rfl, l1, l2, p1⟩ := zpl_of cp
      refine zx_rankOf h1.1 hi hf l2 p1 (fun M1 hM1 => ?_)
      refine ⟨zvi (by omega) (by omega), ?_⟩
      intro M2 e2
      refine hV _ _ ?_
      have st := zop_start (v := 0) h2 hM1.1 (zout_X e2)
      unfold wp_X9_rankIf
      intro M3 e3
      subst e3
      refine zm_isFlow (fun _ => ?_) (fun q => absurd cc q)
      rw [if_neg (by decide)]
      refine zm_vals (fun _ => ?_) (fun q => absurd cp q)
      rw [if_neg (by decide)]
      refine zm_rankOf st hi hf l2 p1 (fun M4 hM4 => ?_)
      have fin := zop (v := 0) h1 h2 h3 h3.1 (Nat.le_refl c) hM1 (zout_X e2) hM4
      refine zfin_0 fin.2.1 ?_ (hN _ fin.1)
      rw [fin.2.2, e2, zcl0, zuL, if_pos ⟨rfl, rfl, rfl⟩]
    · show (if (0 : Nat) = 2 then _ else _)
      rw [if_neg (by decide), if_pos rfl]
      refine hV _ _ ?_
      unfold wp_X9_rankIf
      intro M2 e2
      subst e2
      refine zm_isFlow (fun _ => ?_) (fun q => absurd cc q)
      rw [if_neg (by decide)]
      refine zm_vals (fun q => absurd q cp) (fun _ => ?_)
      rw [if_pos rfl]
      unfold wp_X9_fails
      intro M4 e4
      rw [e4]
      exact zthr (zT_9 h) hN (by decide)
  · rw [if_pos rfl]
    refine hV _ _ ?_
    unfold wp_X9_rankIf
    intro M2 e2
    subst e2
    refine zm_isFlow (fun q => absurd q cc) (fun _ => ?_)
    rw [if_pos rfl]
    unfold wp_X9_fails
    intro M4 e4
    rw [e4]
    exact zthr (zT_9 h) hN (by decide)
