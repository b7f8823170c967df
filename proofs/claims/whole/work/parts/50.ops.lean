/-! calls that change the world at hand -/
theorem zT_mono {M : gM} {c c' : Nat} (h : zT M c) (hc : c ≤ c') : zT M c' := by
  obtain ⟨S, ks, tx, er, h1, h2, h3⟩ := h
  exact ⟨S, ks, tx, er, h1, h2, zTp_mono h3 hc⟩
theorem zsX_refl {M : gM} : zsX M M := fun _ _ _ => ⟨rfl, rfl⟩
theorem zop {M M1 Mx M3 : gM} {c c' : Nat} {S S' : zW} {ks : List zW} {tx : List Nat} {er : Nat → Int32} {v : Int32} (h1 : zTc M S ks tx er) (h2 : zTm M S ks tx er) (h3 : zTp S ks tx c) (hok : zOK S' c') (hcc : c ≤ c') (hC : zCW M 0 (zN S' 0 0) (zN S' 1 0) S' M1) (hX : zsX M1 Mx) (hM : zMW (g_uI Mx 9 0 4 v) (zN S' 0 0) (zN S' 1 0) S' M3) : zT M3 c' ∧ M3.1 9 0 4 = v ∧ M3.2 59 0 = Mx.2 59 0 := by
  have h3' : zTp S' ks tx c' := ⟨hok, fun i T hT => zOK_mono (h3.2.1 i T hT) hcc, h3.2.2⟩
  have hc1 : zTc M1 S' ks tx er := zTc_now h3 h1 hC
  have hm1 : zTm M1 S ks tx er := zTm_sM h2 (zsM_F hC.1)
  have hc2 := zTc_X h3' hc1 hX
  have hm2 := zTm_u9 (v := v) (zTm_X hm1 hX)
  refine ⟨⟨S', ks, tx, er, ?_, zTm_now hm2 hM, h3'⟩, ?_, ?_⟩
  · exact zTc_sC h3' (zTc_sC h3' hc2 (zsC_u9 (i := 4) (v := v))) (zsC_FM hM.1)
  · rw [hM.1.1]; exact zth
  · rw [hM.1.2 59 0 (by omega) (by omega) (by omega)]; rfl
theorem zop_start {M M1 Mx : gM} {S : zW} {ks : List zW} {tx : List Nat} {er : Nat → Int32} {v : Int32} (h2 : zTm M S ks tx er) (hF : zF 0 M M1) (hX : zsX M1 Mx) : zMW (g_uI Mx 9 0 4 v) (zN S 0 0) (zN S 1 0) S (g_uI Mx 9 0 4 v) := by
  refine ⟨zFM_refl, ?_⟩
  have : (g_uI Mx 9 0 4 v).2 47 0 = M.2 47 0 := by
    rw [zuI2, (hX 47 0 (by omega)).2, (hF 47 0 (by unfold zin; omega)).2]
  rw [this]; exact h2.1
theorem zq_dequeue {M : gM} {c : Nat} {Nx : gM → Prop} (hc : c < 9000) (h : zT M c) (hN : ∀ M', zT M' (c + 2) → Nx M') : wp_X8_dequeue 0 M (fun r M1 => wp_X9_dequeue 0 M1 (fun rb M2 => if r = rb then Nx M2 else (0 : Int32) = 1)) := by
  have h' := h
  obtain ⟨S, ks, tx, er, h1, h2, h3⟩ := h'
  have hi := h3.1.1
  have hB := h3.1.2.1
  have h20 := hB.2.1
  have ha := zOK_n h3.1
  unfold wp_X8_dequeue
  refine zc_goes (S := S) ⟨zF_refl, h1.1⟩ hi rfl rfl (fun hq => ?_) (fun hq M1 hM1 => ?_)
  · unfold wp_X7_depart wp_X4_has
    rw [if_pos (by decide)]
    show (if (0 : Int32) = 0 then _ else _)
    rw [if_pos rfl]
    unfold wp_X9_dequeue
    intro M2 e2
    subst e2
    refine zm_goes (zop_start (v := 0) h2 zF_refl zsX_refl) hi rfl rfl (by omega) (fun _ => ?_) (fun q => absurd hq q)
    rw [if_pos (by decide)]
    exact zok32 (hN _ (zT_mono (zT_9 h) (by omega)))
  · obtain ⟨g1, g2, g3, g4, g5⟩ := zgoes_inv hi hq
    have hpk := hi.2.2.1.2 _ g3
    have n0 := g5 0 0 (by omega) (by omega)
    have n1 := g5 1 0 (by omega) (by omega)
    rw [zc_time hM1.2, zgoes_L (by omega)]
    refine zc_depart (S := zgoes S) hM1 n1 ha.2 g3 (by rw [g5 15 _ (by omega) (by omega)]; exact hpk.1) (fun M2 hM2 => ?_)
    unfold wp_X9_dequeue
    intro M3 e3
    subst e3
    refine zm_goes (zop_start (v := 0) h2 hM2.1 zsX_refl) hi rfl rfl (by omega) (fun q => absurd q hq) (fun _ M4 hM4 => ?_)
    rw [if_neg (nI_pos (by omega))]
    refine ⟨zvi (by omega) (by omega), ?_⟩
    rw [zcl (by omega), zm_time hM4.2, zgoes_L (by omega)]
    refine zm_depart (S := zgoes S) hM4 ha.1 ha.2 g3 (by rw [g5 15 _ (by omega) (by omega)]; exact hpk.1) (fun M5 hM5 => ?_)
    have e0 : zN (zdepart (zgoes S) (zgone S) (zL S 0 0)) 0 0 = zN S 0 0 := (zdp_N (by omega)).trans n0
    have e1 : zN (zdepart (zgoes S) (zgone S) (zL S 0 0)) 1 0 = zN S 1 0 := (zdp_N (by omega)).trans n1
    have ok : zOK (zdepart (zgoes S) (zgone S) (zL S 0 0)) (c + 2) := ⟨zdp_inv g1, zBd_mono (zdp_Bd (by rw [g5 16 _ (by omega) (by omega)]; exact hpk.2.2.1) (zgoes_Bd hi hq hB)) (by omega), zDq_go hi hq h3.1.2.2 hB.1.1.1⟩
    have fin := zop (v := 0) h1 h2 h3 ok (by omega) (by rw [e0, e1]; exact hM2) zsX_refl (by rw [e0, e1]; exact hM5)
    exact zok32 (hN _ fin.1)
theorem zq_transmit {M : gM} {c : Nat} {Nx : gM → Prop} (hc : c < 9000) (h : zT M c) (hN : ∀ M', zT M' (c + 2) → Nx M') : wp_X8_transmit 0 M (fun r M1 => wp_X9_transmit 0 M1 (fun rb M2 => if r = rb then Nx M2 else (0 : Int32) = 1)) := by
  have h' := h
  obtain ⟨S, ks, tx, er, h1, h2, h3⟩ := h'
  have hi := h3.1.1
  have hB := h3.1.2.1
  obtain ⟨k1, k2, k3, k4, k5⟩ := zsend_keep hi hB hc h3.1.2.2
  have fin : ∀ (M1 M3 : gM), zCW M 0 (zN S 0 0) (zN S 1 0) (zsend S) M1 → zMW (g_uI M1 9 0 4 0) (zN S 0 0) (zN S 1 0) (zsend S) M3 → zT M3 (c + 2) := fun M1 M3 a b => (zop (v := 0) h1 h2 h3 ⟨k1, k2, k3⟩ (by omega) (by rw [k4, k5]; exact a) zsX_refl (by rw [k4, k5]; exact b)).1
  unfold wp_X8_transmit
  refine zc_send (S := S) ⟨zF_refl, h1.1⟩ hi hB (by omega) rfl rfl (fun hq M1 hM1 => ?_) (fun hq M1 hM1 => ?_)
  · unfold wp_X9_transmit
    intro M2 e2
    subst e2
    refine zm_send (zop_start (v := 0) h2 hM1.1 zsX_refl) hi hB (by omega) rfl rfl (fun _ M3 hM3 => ?_) (fun q => absurd hq q)
    exact zok32 (hN _ (fin M1 M3 hM1 hM3))
  · unfold wp_X9_transmit
    intro M2 e2
    subst e2
    refine zm_send (zop_start (v := 0) h2 hM1.1 zsX_refl) hi hB (by omega) rfl rfl (fun q => absurd q hq) (fun _ M3 hM3 => ?_)
    exact zok32 (hN _ (fin M1 M3 hM1 hM3))
theorem zadv_b {S : zW} {c : Nat} {x : Int32} (hB : zBd S c) (hc : c < 10000) (hx : ¬ x < 0) : ¬ zL S 0 0 + x.toInt64 < zL S 0 0 ∧ (zL S 0 0 + x.toInt64).toInt ≤ c * 2 ^ 35 + 2 ^ 33 := by
  obtain ⟨j, hj, rfl⟩ := nI_of hx
  have t := hB.1.1
  have e : (zL S 0 0 + (nI j).toInt64).toInt = (zL S 0 0).toInt + j := by
    rw [nI_l hj, zl_add (by rw [lN_toInt hj]; omega) (by rw [lN_toInt hj]; omega), lN_toInt hj]
  rw [zl_lt]
  omega
theorem zq_advance {t : gT} {M : gM} {c : Nat} {x : Int32} {V : Prop} {Nx : gM → Prop} (hc : c < 9000) (h : zT M c) (hV : V) (hN : ∀ M', zT M' (c + 2) → Nx M') : wp_L_advance t 0 x 0 M (fun r M1 => V ∧ wp_X9_advance 0 x M1 (fun rb M2 => zFin Nx r rb.toInt64 M2)) := by
  have h' := h
  obtain ⟨S, ks, tx, er, h1, h2, h3⟩ := h'
  have hi := h3.1.1
  have hB := h3.1.2.1
  unfold wp_L_advance wp_X8_advance
  by_cases cx : x < 0
  · have cx' : ¬ 0 ≤ x := fun q => by
      rw [Int32.le_iff_toInt_le] at q
      rw [Int32.lt_iff_toInt_lt] at cx
      omega
    rw [if_neg cx']
    show (if (0 : Nat) = 0 then _ else _)
    rw [if_pos rfl]
    refine ⟨hV, ?_⟩
    unfold wp_X9_advance
    intro M2 e2
    rw [if_neg cx']
    unfold wp_X9_fails
    intro M3 e3
    rw [e3, e2]
    exact zthr (zT_9 h) (fun M' hM' => hN M' (zT_mono hM' (by omega))) (by decide)
  · have cx' : 0 ≤ x := by
      rw [Int32.le_iff_toInt_le]
      rw [Int32.lt_iff_toInt_lt] at cx
      omega
    obtain ⟨u1, u2⟩ := zadv_b hB (by omega) cx
    have hpo := zpot704 hi
    obtain ⟨i1, i2, i3, i4, i5, i6⟩ := zpass_inv 800 S (zL S 0 0 + x.toInt64) 0 hi (by omega)
    have e0 := i2 0 0 (by omega) (by omega)
    have e1 := i2 1 0 (by omega) (by omega)
    rw [if_pos cx', zc_time h1.1]
    refine zc_pass (S := S) ⟨zF_refl, h1.1⟩ hi rfl rfl u1 (fun M1 hM1 => ?_)
    refine ⟨zvi (by omega) (by omega), ?_⟩
    intro M2 e2
    refine ⟨hV, ?_⟩
    unfold wp_X9_advance
    intro M3 e3
    subst e3
    have st := zop_start (v := 0) h2 hM1.1 (zout_X e2)
    rw [if_pos cx']
    refine ⟨zvi (by omega) (by omega), ?_⟩
    rw [zcl (by omega), zm_time st.2]
    refine zm_pass st hi rfl rfl (fun M4 hM4 => ?_)
    have fin := zop (v := 0) h1 h2 h3 ⟨i1, zBd_mono (zpass_Bd hi hB (by omega) u1 u2) (by omega), zDq_pass hi h3.1.2.2⟩ (show c ≤ c + 2 by omega) (by rw [e0, e1]; exact hM1) (zout_X e2) (by rw [e0, e1]; exact hM4)
    refine zfin_0 fin.2.1 ?_ (hN _ fin.1)
    rw [fin.2.2, e2, zcl0, zuL, if_pos ⟨rfl, rfl, rfl⟩]
