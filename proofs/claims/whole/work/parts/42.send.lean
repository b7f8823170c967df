/-! departing and sending: class and reference -/
theorem zsN_self {S : zW} {i j : Nat} : zsN S i j (zN S i j) = S := by
  obtain ⟨a, b⟩ := S
  unfold zsN
  congr 1
  funext x y
  by_cases c : x = i ∧ y = j
  · rw [if_pos c, c.1, c.2]; rfl
  · rw [if_neg c]; rfl
theorem zc_depart {M0 : gM} {w nn ar p : Nat} {t : Int64} {M : gM} {S : zW} {K : gM → Prop} (h : zCW M0 w nn ar S M) (ha : zN S 1 0 = ar) (ha2 : ar ≤ 500) (hp : p < ar) (hf : zN S 15 p < 16) (hK : ∀ M', zCW M0 w nn ar (zdepart S p t) M' → K M') : wp_X7_depart w (nI p) t M K := by
  unfold wp_X7_depart
  refine zx_has h.2 ha ha2 (by omega) ?_
  rw [if_pos hp, if_neg (by decide)]
  have v : vp_in (nI p) 500 := vp_in_nI (by omega) (by omega)
  refine ⟨v, ?_⟩
  intro M1 e1
  rw [nI_clamp (by omega)] at e1
  have h1 : zCW M0 w nn ar (zsL S 8 p t) M1 := by
    rw [e1]
    exact zCW_uL (i := 8) (j := p) (by omega) (by omega) (by omega) h
  refine ⟨v, ?_⟩
  intro n33 e33
  rw [nI_clamp (by omega), zc_arrival h1.2 hp] at e33
  have e33 : n33 = t - zL S 6 p := e33
  refine ⟨v, ?_⟩
  have go : ∀ late : Nat, (if zL S 7 p < t then 1 else 0) = late → wp_X7_depart_b54 K w (nI p) n33 (nI late) M1 := by
    intro late hlate
    unfold wp_X7_depart_b54
    refine ⟨v, v, ?_⟩
    rw [nI_clamp (by omega), zc_flow h1.2 hp, zc_length h1.2 hp]
    show wp_X1_count w (nI (zN S 15 p)) (nI (zN S 16 p)) n33 (nI late) M1 (fun M82 => K M82)
    have vf : vp_in (nI (zN S 15 p)) 16 := vp_in_nI (by omega) (by omega)
    unfold wp_X1_count
    rw [if_neg (nI_pos (by omega)), if_pos (zk_lt (c := 16) (a := 16) rfl hf (by omega))]
    refine ⟨vf, vf, ?_⟩
    intro M2 e2
    rw [nI_clamp (by omega), zc_sent h1.2 hf, nI_1] at e2
    have h2 : zCW M0 w nn ar (zsN (zsL S 8 p t) 5 (zN S 15 p) (zN S 5 (zN S 15 p) + 1)) M2 := by
      rw [e2]
      exact zCW_uN (i := 5) (j := zN S 15 p) (by omega) (by omega) (by omega) (by omega) (by omega) h1
    refine ⟨vf, vf, ?_⟩
    intro M3 e3
    rw [nI_clamp (by omega), zc_bytes h2.2 hf, nI_add] at e3
    have h3 : zCW M0 w nn ar (zsN (zsN (zsL S 8 p t) 5 (zN S 15 p) (zN S 5 (zN S 15 p) + 1)) 6 (zN S 15 p) (zN S 6 (zN S 15 p) + zN S 16 p)) M3 := by
      rw [e3]
      exact zCW_uN (i := 6) (j := zN S 15 p) (by omega) (by omega) (by omega) (by omega) (by omega) h2
    refine ⟨vf, vf, ?_⟩
    intro M4 e4
    rw [nI_clamp (by omega), zc_delay h3.2 hf, e33] at e4
    have h4 : zCW M0 w nn ar (zsL (zsN (zsN (zsL S 8 p t) 5 (zN S 15 p) (zN S 5 (zN S 15 p) + 1)) 6 (zN S 15 p) (zN S 6 (zN S 15 p) + zN S 16 p)) 1 (zN S 15 p) (zL S 1 (zN S 15 p) + (t - zL S 6 p))) M4 := by
      rw [e4]
      exact zCW_uL (i := 1) (j := zN S 15 p) (by omega) (by omega) (by omega) h3
    refine ⟨vf, vf, ?_⟩
    intro M5 e5
    rw [nI_clamp (by omega), zc_most h4.2 hf] at e5
    have em : (if n33 < zL S 2 (zN S 15 p) then zL S 2 (zN S 15 p) else n33) = (if zL S 2 (zN S 15 p) < t - zL S 6 p then t - zL S 6 p else zL S 2 (zN S 15 p)) := by
      rw [e33]
      by_cases q : zL S 2 (zN S 15 p) < t - zL S 6 p
      · rw [if_pos q, if_neg (by rw [zl_lt] at q ⊢; omega)]
      · rw [if_neg q]
        by_cases q2 : t - zL S 6 p < zL S 2 (zN S 15 p)
        · rw [if_pos q2]
        · rw [if_neg q2]; exact zl_anti q2 q
    have h5 : zCW M0 w nn ar (zsL (zsL (zsN (zsN (zsL S 8 p t) 5 (zN S 15 p) (zN S 5 (zN S 15 p) + 1)) 6 (zN S 15 p) (zN S 6 (zN S 15 p) + zN S 16 p)) 1 (zN S 15 p) (zL S 1 (zN S 15 p) + (t - zL S 6 p))) 2 (zN S 15 p) (if zL S 2 (zN S 15 p) < t - zL S 6 p then t - zL S 6 p else zL S 2 (zN S 15 p))) M5 := by
      have e5' : M5 = g_uL M4 17 w (zN S 15 p) (if n33 < zL S 2 (zN S 15 p) then zL S 2 (zN S 15 p) else n33) := e5
      rw [e5', em]
      exact zCW_uL (i := 2) (j := zN S 15 p) (by omega) (by omega) (by omega) h4
    by_cases cl : zL S 7 p < t
    · rw [if_pos cl] at hlate
      rw [← hlate, if_neg (by decide)]
      refine ⟨vf, vf, ?_⟩
      intro M6 e6
      rw [nI_clamp (by omega), zc_missed h5.2 hf, nI_1] at e6
      refine hK M6 ?_
      unfold zdepart
      simp only [cl, if_true]
      rw [e6]
      exact zCW_uN (i := 7) (j := zN S 15 p) (by omega) (by omega) (by omega) (by omega) (by omega) h5
    · rw [if_neg cl] at hlate
      rw [← hlate, if_pos (by decide)]
      refine hK M5 ?_
      unfold zdepart
      simp only [cl, if_false, Nat.add_zero]
      have ez := zsN_self (S := zsL (zsL (zsN (zsN (zsL S 8 p t) 5 (zN S 15 p) (zN S 5 (zN S 15 p) + 1)) 6 (zN S 15 p) (zN S 6 (zN S 15 p) + zN S 16 p)) 1 (zN S 15 p) (zL S 1 (zN S 15 p) + (t - zL S 6 p))) 2 (zN S 15 p) (if zL S 2 (zN S 15 p) < t - zL S 6 p then t - zL S 6 p else zL S 2 (zN S 15 p))) (i := 7) (j := zN S 15 p)
      have e7 : zN (zsL (zsL (zsN (zsN (zsL S 8 p t) 5 (zN S 15 p) (zN S 5 (zN S 15 p) + 1)) 6 (zN S 15 p) (zN S 6 (zN S 15 p) + zN S 16 p)) 1 (zN S 15 p) (zL S 1 (zN S 15 p) + (t - zL S 6 p))) 2 (zN S 15 p) (if zL S 2 (zN S 15 p) < t - zL S 6 p then t - zL S 6 p else zL S 2 (zN S 15 p))) 7 (zN S 15 p) = zN S 7 (zN S 15 p) := by
        simp only [zN_sL, zN_sN]
        rw [if_neg (by omega), if_neg (by omega)]
      rw [e7] at ez
      rw [ez]; exact h5
  rw [nI_clamp (by omega), zc_deadline h1.2 hp]
  by_cases cl : zL S 7 p < t
  · rw [if_neg (fun q => zl_le.mp q (by show zL S 7 p < t; exact cl))]
    exact go 1 (by rw [if_pos cl])
  · rw [if_pos (zl_le.mpr (by show ¬ zL S 7 p < t; exact cl))]
    exact go 0 (by rw [if_neg cl])
theorem zm_depart {M0 : gM} {nn ar p : Nat} {t : Int64} {M : gM} {S : zW} {K : gM → Prop} (h : zMW M0 nn ar S M) (hn2 : nn ≤ 12) (ha2 : ar ≤ 500) (hp : p < ar) (hf : zN S 15 p < 16) (hK : ∀ M', zMW M0 nn ar (zdepart S p t) M' → K M') : wp_X9_departs 0 (nI p) t M K := by
  unfold wp_X9_departs
  rw [zm_pk, zad]
  refine ⟨vp_in_nI (by omega) (by omega), ?_⟩
  rw [nI_clamp (by omega), zm_flow h.2 hp, lN_i, zm_fl, zm_pk, zad]
  refine ⟨vp_in_nI (by omega) (by omega), ?_⟩
  intro n30 e30
  rw [nI_clamp (by omega), zm_arrival h.2 hp] at e30
  rw [zm_pk, zad]
  refine ⟨vp_in_nI (by omega) (by omega), ?_⟩
  intro M1 e1
  rw [nI_clamp (by omega)] at e1
  have h1 : zMW M0 nn ar (zsL S 8 p t) M1 := by
    rw [e1]
    exact zMW_uL (i := 8) (j := p) hn2 ha2 (by unfold zokL; omega) h
  rw [zad]
  refine ⟨vp_in_nI (by omega) (by omega), vp_in_nI (by omega) (by omega), ?_⟩
  intro M2 e2
  rw [nI_clamp (by omega), zm_sent h1.2 hf, lN_1] at e2
  have h2 : zMW M0 nn ar (zsN (zsL S 8 p t) 5 (zN S 15 p) (zN S 5 (zN S 15 p) + 1)) M2 := by
    rw [e2]
    exact zMW_uN (i := 5) (j := zN S 15 p) hn2 ha2 (by unfold zokM; omega) (by omega) h1
  rw [zad]
  refine ⟨vp_in_nI (by omega) (by omega), ?_⟩
  rw [zm_pk, zad]
  refine ⟨vp_in_nI (by omega) (by omega), vp_in_nI (by omega) (by omega), ?_⟩
  intro M3 e3
  rw [nI_clamp (by omega), nI_clamp (by omega), zm_bytes h2.2 hf, zm_length h2.2 hp, lN_add] at e3
  have h3 : zMW M0 nn ar (zsN (zsN (zsL S 8 p t) 5 (zN S 15 p) (zN S 5 (zN S 15 p) + 1)) 6 (zN S 15 p) (zN S 6 (zN S 15 p) + zN S 16 p)) M3 := by
    rw [e3]
    exact zMW_uN (i := 6) (j := zN S 15 p) hn2 ha2 (by unfold zokM; omega) (by omega) h2
  rw [zad]
  refine ⟨vp_in_nI (by omega) (by omega), vp_in_nI (by omega) (by omega), ?_⟩
  intro M4 e4
  rw [nI_clamp (by omega), zm_delay h3.2 hf, e30] at e4
  have h4 : zMW M0 nn ar (zsL (zsN (zsN (zsL S 8 p t) 5 (zN S 15 p) (zN S 5 (zN S 15 p) + 1)) 6 (zN S 15 p) (zN S 6 (zN S 15 p) + zN S 16 p)) 1 (zN S 15 p) (zL S 1 (zN S 15 p) + (t - zL S 6 p))) M4 := by
    rw [e4]
    exact zMW_uL (i := 1) (j := zN S 15 p) hn2 ha2 (by unfold zokL; omega) h3
  rw [zad]
  refine ⟨vp_in_nI (by omega) (by omega), ?_⟩
  rw [nI_clamp (by omega), zm_most h4.2 hf]
  have go : ∀ mo, mo = (if zL S 2 (zN S 15 p) < t - zL S 6 p then t - zL S 6 p else zL S 2 (zN S 15 p)) → wp_X9_departs_b131 K 0 (nI p) t (nI (10 + 7 * zN S 15 p)) 0 (nI (10 + 7 * zN S 15 p + 5)) mo M4 := by
    intro mo emo
    unfold wp_X9_departs_b131
    refine ⟨vp_in_nI (by omega) (by omega), ?_⟩
    intro M5 e5
    rw [nI_clamp (by omega), emo] at e5
    have h5 : zMW M0 nn ar (zsL (zsL (zsN (zsN (zsL S 8 p t) 5 (zN S 15 p) (zN S 5 (zN S 15 p) + 1)) 6 (zN S 15 p) (zN S 6 (zN S 15 p) + zN S 16 p)) 1 (zN S 15 p) (zL S 1 (zN S 15 p) + (t - zL S 6 p))) 2 (zN S 15 p) (if zL S 2 (zN S 15 p) < t - zL S 6 p then t - zL S 6 p else zL S 2 (zN S 15 p))) M5 := by
      rw [e5]
      exact zMW_uL (i := 2) (j := zN S 15 p) hn2 ha2 (by unfold zokL; omega) h4
    rw [zad]
    refine ⟨vp_in_nI (by omega) (by omega), ?_⟩
    rw [zm_pk, zad]
    refine ⟨vp_in_nI (by omega) (by omega), ?_⟩
    have fin : ∀ la : Nat, (if zL S 7 p < t then 1 else 0) = la → wp_X9_departs_b164 K 0 (nI (10 + 7 * zN S 15 p + 6)) (M5.2 47 0 (nI (10 + 7 * zN S 15 p + 6)).toNatClampNeg) (lN la) M5 := by
      intro la hla
      unfold wp_X9_departs_b164
      refine ⟨vp_in_nI (by omega) (by omega), ?_⟩
      intro M6 e6
      rw [nI_clamp (by omega), zm_missed h5.2 hf, lN_add] at e6
      refine hK M6 ?_
      unfold zdepart
      simp only [hla]
      rw [e6]
      exact zMW_uN (i := 7) (j := zN S 15 p) hn2 ha2 (by unfold zokM; omega) (by omega) h5
    rw [nI_clamp (n := 640 + 7 * p + 4) (by omega), zm_deadline h5.2 hp]
    by_cases cl : zL S 7 p < t
    · rw [if_neg (fun q => zl_le.mp q (by show zL S 7 p < t; exact cl))]
      exact fin 1 (by rw [if_pos cl])
    · rw [if_pos (zl_le.mpr (by show ¬ zL S 7 p < t; exact cl))]
      exact fin 0 (by rw [if_neg cl])
  by_cases q : zL S 2 (zN S 15 p) < t - zL S 6 p
  · rw [if_neg (fun z => zl_le.mp z (by rw [e30]; exact q))]
    exact go n30 (by rw [if_pos q, e30])
  · rw [if_pos (zl_le.mpr (by rw [e30]; exact q))]
    refine ⟨vp_in_nI (by omega) (by omega), ?_⟩
    exact go _ (by rw [if_neg q]; rfl)
theorem zc_goes {M0 : gM} {w nn ar : Nat} {K : Int32 → gM → Prop} {S : zW} {M : gM} (h : zCW M0 w nn ar S M) (hi : zInv S 0 0) (hn : zN S 0 0 = nn) (ha : zN S 1 0 = ar) (hK0 : (zQ S 0).length = 0 → K (-1) M) (hK : (zQ S 0).length ≠ 0 → ∀ M', zCW M0 w nn ar (zgoes S) M' → K (nI (zgone S)) M') : wp_X7_leave w M K := zc_leave h hi hn ha hK0 (fun c M1 h1 => hK c M1 ⟨h1.1, zC_gh (Or.inr (Or.inr rfl)) (zC_gh (Or.inr (Or.inl rfl)) h1.2)⟩)
/-- what sending needs and keeps -/
theorem zend_b {S : zW} {c p : Nat} (hi : zInv S 0 0) (hB : zBd S c) (hc : c < 10000) (hp : p < zN S 1 0) : ¬ zend S p < zL S 0 0 ∧ 0 ≤ (zend S p).toInt ∧ (zend S p).toInt ≤ c * 2 ^ 35 + 2 ^ 33 := by
  have u := zup_b (hi.2.2.1.2 p hp).2.2.1 hi.2.1.2.2.1 hi.2.1.2.2.2
  have t := hB.1.1
  have e : (zend S p).toInt = (zL S 0 0).toInt + (zup (zN S 16 p) (zN S 2 0)).toInt := by
    unfold zend
    exact zl_add (by omega) (by omega)
  rw [zl_lt]
  omega
theorem zsend_eq {S : zW} (hq : (zQ S 0).length ≠ 0) : zsend S = (zpass 800 (zdepart (zgoes S) (zgone S) (zend S (zgone S))) (zend S (zgone S)) 0).1 := by
  unfold zsend; rw [if_neg hq]
theorem zsend_keep {S : zW} {c : Nat} (hi : zInv S 0 0) (hB : zBd S c) (hc : c < 9000) (hd : zDq S) : zInv (zsend S) 0 0 ∧ zBd (zsend S) (c + 2) ∧ zDq (zsend S) ∧ zN (zsend S) 0 0 = zN S 0 0 ∧ zN (zsend S) 1 0 = zN S 1 0 := by
  by_cases hq : (zQ S 0).length = 0
  · have : zsend S = S := by unfold zsend; rw [if_pos hq]
    rw [this]
    exact ⟨hi, zBd_mono hB (by omega), hd, rfl, rfl⟩
  · rw [zsend_eq hq]
    obtain ⟨g1, g2, g3, g4, g5⟩ := zgoes_inv hi hq
    obtain ⟨u1, u2, u3⟩ := zend_b hi hB (by omega) g3
    have hlen := (hi.2.2.1.2 _ g3).2.2.1
    have d1 := zdp_inv (p := zgone S) (t := zend S (zgone S)) g1
    have d2 := zdp_Bd (p := zgone S) (t := zend S (zgone S)) (by rw [g5 16 _ (by omega) (by omega)]; exact hlen) (zgoes_Bd hi hq hB)
    have d3 := zDq_go hi hq hd u2
    have hpo := zpot704 d1
    obtain ⟨i1, i2, i3, i4, i5, i6⟩ := zpass_inv 800 _ (zend S (zgone S)) 0 d1 (by omega)
    refine ⟨i1, zpass_Bd d1 d2 (by omega) (by rw [zdp_L (by omega), zgoes_L (by omega)]; exact u1) (by omega), zDq_pass d1 d3, ?_, ?_⟩
    · rw [i2 0 0 (by omega) (by omega), zdp_N (by omega), g5 0 0 (by omega) (by omega)]
    · rw [i2 1 0 (by omega) (by omega), zdp_N (by omega), g5 1 0 (by omega) (by omega)]
theorem zc_send {M0 : gM} {w nn ar c : Nat} {K : Int32 → gM → Prop} {S : zW} {M : gM} (h : zCW M0 w nn ar S M) (hi : zInv S 0 0) (hB : zBd S c) (hc : c < 10000) (hn : zN S 0 0 = nn) (ha : zN S 1 0 = ar) (hK0 : (zQ S 0).length = 0 → ∀ M', zCW M0 w nn ar (zsend S) M' → K (-1) M') (hK : (zQ S 0).length ≠ 0 → ∀ M', zCW M0 w nn ar (zsend S) M' → K (nI (zgone S)) M') : wp_X7_send w M K := by
  have ha2 : ar ≤ 500 := by rw [← ha]; exact hi.2.2.1.1
  unfold wp_X7_send
  refine zc_goes h hi hn ha (fun hq => ?_) (fun hq M1 h1 => ?_)
  · unfold wp_X4_has
    rw [if_pos (by decide)]
    show (if (0 : Int32) = 0 then K (-1) M else _)
    rw [if_pos rfl]
    refine hK0 hq M ?_
    unfold zsend
    rw [if_pos hq]; exact h
  · have hK := hK hq
    rw [zsend_eq hq] at hK
    obtain ⟨g1, g2, g3, g4, g5⟩ := zgoes_inv hi hq
    obtain ⟨u1, u2, u3⟩ := zend_b hi hB hc g3
    have hpk := hi.2.2.1.2 _ g3
    refine zx_has h1.2 (by rw [g5 1 0 (by omega) (by omega)]; exact ha) ha2 (by omega) ?_
    rw [if_pos (show zgone S < ar by omega), if_neg (by decide)]
    refine ⟨vp_in_nI (by omega) (by omega), ?_⟩
    rw [nI_clamp (by omega), zc_length h1.2 (by omega), zc_link h1.2, zc_time h1.2, g5 16 _ (by omega) (by omega), g5 2 0 (by omega) (by omega), zgoes_L (by omega)]
    have hlk := hi.2.1.2.2
    refine zx_unitsUp (by omega) hlk.1 (by omega) ?_
    intro n37 e37
    have e37 : n37 = zend S (zgone S) := e37
    subst e37
    refine zc_depart h1 (by rw [g5 1 0 (by omega) (by omega)]; exact ha) ha2 (by omega) (by rw [g5 15 _ (by omega) (by omega)]; exact hpk.1) (fun M2 h2 => ?_)
    exact zc_pass h2 (zdp_inv g1) (by rw [zdp_N (by omega), g5 0 0 (by omega) (by omega)]; exact hn) (by rw [zdp_N (by omega), g5 1 0 (by omega) (by omega)]; exact ha) (by rw [zdp_L (by omega), zgoes_L (by omega)]; exact u1) hK
theorem zm_send {M0 : gM} {nn ar c : Nat} {K : Int32 → gM → Prop} {S : zW} {M : gM} (h : zMW M0 nn ar S M) (hi : zInv S 0 0) (hB : zBd S c) (hc : c < 10000) (hn : zN S 0 0 = nn) (ha : zN S 1 0 = ar) (hK0 : (zQ S 0).length = 0 → ∀ M', zMW M0 nn ar (zsend S) M' → K (-1) M') (hK : (zQ S 0).length ≠ 0 → ∀ M', zMW M0 nn ar (zsend S) M' → K (nI (zgone S)) M') : wp_X9_sends 0 M K := by
  have ha2 : ar ≤ 500 := by rw [← ha]; exact hi.2.2.1.1
  have hn2 : nn ≤ 12 := by rw [← hn]; exact hi.1.1.2
  have h20 := hB.2.1
  unfold wp_X9_sends
  refine zm_goes h hi hn ha (by omega) (fun hq => ?_) (fun hq M1 h1 => ?_)
  · rw [if_pos (by decide)]
    refine hK0 hq M ?_
    unfold zsend
    rw [if_pos hq]; exact h
  · have hK := hK hq
    rw [zsend_eq hq] at hK
    obtain ⟨g1, g2, g3, g4, g5⟩ := zgoes_inv hi hq
    have hpk := hi.2.2.1.2 _ g3
    have hlk := hi.2.1.2.2
    rw [if_neg (nI_pos (by omega))]
    refine ⟨zvi (by omega) (by omega), ?_⟩
    rw [zm_pk, zad]
    refine ⟨vp_in_nI (by omega) (by omega), zvi (by omega) (by omega), zvi (by omega) (by omega), ?_⟩
    rw [zcl (by omega), zcl (by omega), nI_clamp (by omega), zm_time h1.2, zm_length h1.2 (by omega), zm_link h1.2, g5 16 _ (by omega) (by omega), g5 2 0 (by omega) (by omega), zgoes_L (by omega)]
    refine ⟨zj_ne (c := 0) (a := 0) rfl (by omega) (by omega) (by omega), ?_⟩
    intro n37 e37
    have e37 : n37 = zend S (zgone S) := e37
    subst e37
    refine zm_depart h1 hn2 ha2 (by omega) (by rw [g5 15 _ (by omega) (by omega)]; exact hpk.1) (fun M2 h2 => ?_)
    exact zm_pass h2 (zdp_inv g1) (by rw [zdp_N (by omega), g5 0 0 (by omega) (by omega)]; exact hn) (by rw [zdp_N (by omega), g5 1 0 (by omega) (by omega)]; exact ha) hK
