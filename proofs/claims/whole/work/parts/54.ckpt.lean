/-! checkpoint, rollback -/
theorem zks_last {ks : List zW} {i : Nat} {T X : zW} (h : (ks ++ [X])[i]? = some T) : (i < ks.length ∧ ks[i]? = some T) ∨ (i = ks.length ∧ T = X) := by
  by_cases c : i < ks.length
  · rw [List.getElem?_append_left c] at h
    exact Or.inl ⟨c, h⟩
  · rw [List.getElem?_append_right (by omega)] at h
    have : i - ks.length = 0 := by
      have := (List.getElem?_eq_some_iff.mp h).1
      simp at this; omega
    rw [this] at h
    simp at h
    exact Or.inr ⟨by omega, h.symm⟩
theorem zq_checkpoint {t : gT} {M : gM} {c : Nat} {Nx : gM → Prop} (h : zT M c) (hN : ∀ M', zT M' c → Nx M') : wp_L_checkpoint t 0 0 M (fun r M1 => wp_X9_checkpoint 0 M1 (fun rb M2 => zFin Nx r rb.toInt64 M2)) := by
  have h' := h
  obtain ⟨S, ks, tx, er, h1, h2, h3⟩ := h'
  have hk := h3.2.2.1
  unfold wp_L_checkpoint wp_X8_checkpoint wp_X8_checkpoint_b19
  rw [h1.2.2.1, if_neg (nI_pos (by omega))]
  by_cases c3 : ks.length < 3
  · rw [if_pos (zk_lt (c := 3) (a := 3) rfl c3 (by omega))]
    refine ⟨vp_in_nI c3 (by omega), ?_⟩
    rw [nI_clamp (by omega)]
    refine zc_copy (w := 2 + ks.length) (w1 := 0) (by omega) h1.1 h3.1.1 rfl rfl (fun M1 f1 _ hc1 => ?_)
    have e8 : M1.1 8 0 = M.1 8 0 := (f1 8 0 (by unfold zin; omega)).1
    intro M2 e2
    rw [e8, h1.2.2.1, nI_1] at e2
    have ez : ∀ w k o, zin w k o → k ≠ 8 := fun w k o q => by unfold zin at q; omega
    have e2' : ∀ k o, k ≠ 8 → M2.1 k o = M1.1 k o := fun k o q => by
      rw [e2]
      show (if k = 8 ∧ o = 0 then _ else M1.1 k o) = _
      rw [if_neg (by omega)]
    have e22 : M2.2 = M1.2 := by rw [e2]; rfl
    have hp2 : zTp S (ks ++ [S]) tx c := ⟨h3.1, fun i T hT => by
      rcases zks_last hT with q | q
      · exact h3.2.1 i T q.2
      · rw [q.2]; exact h3.1, by simp; omega, h3.2.2.2⟩
    have hc2 : zTc M2 S (ks ++ [S]) tx er := by
      refine ⟨?_, fun i T hT => ?_, ?_, ?_, fun i a ha => ?_, fun i hi => ?_⟩
      · exact zC_cong (zOK_n h3.1).1 (zC_F (zOK_n h3.1).1 (by omega) h1.1 f1) (fun k o a b q => ⟨e2' k o (ez _ _ _ q), by rw [e22]⟩)
      · rcases zks_last hT with q | q
        · exact zC_cong (zOK_n (h3.2.1 i T q.2)).1 (zC_F (zOK_n (h3.2.1 i T q.2)).1 (by omega) (h1.2.1 i T q.2) f1) (fun k o a b q => ⟨e2' k o (ez _ _ _ q), by rw [e22]⟩)
        · rw [q.2, q.1]
          exact zC_cong (zOK_n h3.1).1 hc1 (fun k o a b q => ⟨e2' k o (ez _ _ _ q), by rw [e22]⟩)
      · rw [e2, zuI, if_pos ⟨rfl, rfl, rfl⟩]; simp
      · rw [e2, zuI, if_neg (by omega), e8]; exact h1.2.2.2.1
      · rw [e2' 44 0 (by omega), (f1 44 0 (by unfold zin; omega)).1]; exact h1.2.2.2.2.1 i a ha
      · rw [e2' 45 0 (by omega), (f1 45 0 (by unfold zin; omega)).1]; exact h1.2.2.2.2.2 i hi
    have hm2 : zTm M2 S ks tx er := zTm_sM h2 (zsM_trans (zsM_F f1) (by rw [e2]; exact zsM_u8))
    refine ⟨zvi (by omega) (by omega), ?_⟩
    intro M3 e3
    rw [e2, zuI, if_pos ⟨rfl, rfl, rfl⟩, ← e2] at e3
    have hc3 := zTc_X hp2 hc2 (zout_X e3)
    have hm3 := zTm_u9 (v := 0) (zTm_X hm2 (zout_X e3))
    unfold wp_X9_checkpoint
    intro M4 e4
    subst e4
    rw [hm3.2.2.1, if_neg (zk_ne (c := 3) (a := 3) rfl (by omega) (by omega) (by omega))]
    refine ⟨7601, zm_ckL (q := ks.length) (M0 := g_uI M3 9 0 4 0) c3 hm3.2.2.1 (fun M5 cp => ?_) 7600 0 _ (by omega) rfl (fun _ _ _ => rfl) (fun i => by rw [if_neg (by omega)])⟩
    obtain ⟨m1, m2, m3⟩ := cp
    intro M6 e6
    rw [m1, hm3.2.2.1, nI_1] at e6
    have e6' : ∀ k, k ≠ 9 → M6.1 k 0 = (g_uI M3 9 0 4 0).1 k 0 := fun k q => by
      rw [e6]
      show (if k = 9 ∧ 0 = 0 then _ else M5.1 k 0) = _
      rw [if_neg (by omega), m1]
    have e62 : M6.2 = M5.2 := by rw [e6]; rfl
    have hm6 : zTm M6 S (ks ++ [S]) tx er := by
      refine ⟨?_, fun i T hT => ?_, ?_, ?_, fun i a ha => ?_, fun i hi => ?_, ?_⟩
      · rw [e62, m2 47 0 (by omega)]; exact hm3.1
      · rcases zks_last hT with q | q
        · refine zM_congrOK (h3.2.1 i T q.2) (hm3.2.1 i T q.2) (fun j hj => ?_)
          rw [e62, m3, if_neg (by omega)]
        · rw [q.2, q.1]
          refine zM_congrOK h3.1 hm3.1 (fun j hj => ?_)
          rw [e62, m3, if_pos (by omega), show 0 + (7600 * ks.length + j - 7600 * ks.length) = j by omega]
      · rw [e6, zuI, if_pos ⟨rfl, rfl, rfl⟩]; simp
      · rw [e6, zuI, if_neg (by omega), m1]; exact hm3.2.2.2.1
      · rw [e6' 51 (by omega)]; exact hm3.2.2.2.2.1 i a ha
      · rw [e6' 52 (by omega)]; exact hm3.2.2.2.2.2.1 i hi
      · rw [e6' 50 (by omega)]; exact hm3.2.2.2.2.2.2
    have hs6 : zsC (g_uI M3 9 0 4 0) M6 := fun k o q => by
      rw [e6]
      refine ⟨?_, ?_⟩
      · show (if k = 9 ∧ o = 0 then _ else M5.1 k o) = _
        rw [if_neg (by omega), m1]
      · show M5.2 k o = _
        exact m2 k o (by omega)
    have hc6 := zTc_sC hp2 (zTc_sC hp2 hc3 (zsC_u9 (i := 4) (v := 0))) hs6
    refine zfin_0 ?_ ?_ (hN _ ⟨S, _, tx, er, hc6, hm6, hp2⟩)
    · rw [e6, zuI, if_neg (by omega), m1]; exact zth
    · rw [(hs6 59 0 (by omega)).2, zuI2, e3, zcl0, zuL, if_pos ⟨rfl, rfl, rfl⟩, e6, zuI, if_pos ⟨rfl, rfl, rfl⟩]
  · rw [if_neg (zk_nlt (c := 3) (a := 3) rfl (by omega) (by omega))]
    show (if (1 : Nat) = 1 then _ else _)
    rw [if_pos rfl]
    unfold wp_X9_checkpoint
    intro M3 e3
    subst e3
    have hm3 := zTm_u9 (v := 0) h2
    have : ks.length = 3 := by omega
    rw [hm3.2.2.1, this, if_pos (by decide)]
    unfold wp_X9_fails
    intro M4 e4
    rw [e4]
    exact zthr (zT_9 h) hN (by decide)
theorem zq_rollback {t : gT} {M : gM} {c : Nat} {Nx : gM → Prop} (h : zT M c) (hN : ∀ M', zT M' c → Nx M') : wp_L_rollback t 0 0 M (fun r M1 => wp_X9_rollback 0 M1 (fun rb M2 => zFin Nx r rb.toInt64 M2)) := by
  have h' := h
  obtain ⟨S, ks, tx, er, h1, h2, h3⟩ := h'
  have hk := h3.2.2.1
  unfold wp_L_rollback wp_X8_rollback
  refine zx_needCheckpoint h1.2.2.1 hk (fun c0 => ?_) (fun c0 => ?_)
  · intro M1 e1
    rw [h1.2.2.1, zn_s1 (by omega)] at e1
    have hc1 : zTc M1 S ks.dropLast tx er := by rw [e1]; exact zTc_drop h3 h1 c0
    have hm1 : zTm M1 S ks tx er := zTm_sM h2 (by rw [e1]; exact zsM_u8)
    obtain ⟨T, hT⟩ : ∃ T, ks[ks.length - 1]? = some T := ⟨ks[ks.length - 1]'(by omega), List.getElem?_eq_getElem (by omega)⟩
    have hTok := h3.2.1 _ T hT
    have hTc : zC (2 + (ks.length - 1)) (zN T 0 0) (zN T 1 0) M1 T := by
      refine zC_cong (zOK_n hTok).1 (h1.2.1 _ T hT) (fun k o a b q => ?_)
      rw [e1]
      refine ⟨?_, rfl⟩
      show (if k = 8 ∧ o = 0 then _ else M.1 k o) = _
      rw [if_neg (by unfold zin at q; omega)]
    have e8 : M1.1 8 0 7 = nI (ks.length - 1) := by rw [e1, zuI, if_pos ⟨rfl, rfl, rfl⟩]
    rw [e8]
    refine ⟨vp_in_nI (by omega) (by omega), ?_⟩
    rw [nI_clamp (by omega)]
    refine zc_copy (w := 0) (w1 := 2 + (ks.length - 1)) (by omega) hTc hTok.1 rfl rfl (fun M2 f2 _ hc2 => ?_)
    have hp2 : zTp T ks.dropLast tx c := ⟨hTok, (zTp_drop h3).2⟩
    have hcn : zTc M2 T ks.dropLast tx er := zTc_now (zTp_drop h3) hc1 ⟨f2, hc2⟩
    have hm2 : zTm M2 S ks tx er := zTm_sM hm1 (zsM_F f2)
    have e82 : M2.1 8 0 7 = nI (ks.length - 1) := by rw [(f2 8 0 (by unfold zin; omega)).1]; exact e8
    rw [e82]
    refine ⟨zvi (by omega) (by omega), ?_⟩
    intro M3 e3
    have hc3 := zTc_X hp2 hcn (zout_X e3)
    have hm3 := zTm_u9 (v := 0) (zTm_X hm2 (zout_X e3))
    unfold wp_X9_rollback
    intro M4 e4
    subst e4
    rw [hm3.2.2.1, if_neg (zk_ne (c := 0) (a := 0) rfl c0 (by omega) (by omega)), zn_s1 (by omega)]
    intro M5 e5
    have hm5 : zTm M5 S ks.dropLast tx er := by rw [e5]; exact zTm_drop hm3 c0
    have e53 : M5.1 9 0 3 = nI (ks.length - 1) := by rw [e5, zuI, if_pos ⟨rfl, rfl, rfl⟩]
    refine ⟨7601, zm_rbL (q := ks.length - 1) (M0 := M5) (by omega) e53 (fun M6 cp => ?_) 7600 0 _ (by omega) rfl (fun _ _ _ => rfl) (fun i => by rw [if_neg (by omega)])⟩
    obtain ⟨m1, m2, m3⟩ := cp
    have e49 : M5.2 = (g_uI M3 9 0 4 0).2 := by rw [e5]; rfl
    have hm6 : zTm M6 T ks.dropLast tx er := by
      refine ⟨?_, fun i U hU => ?_, ?_, ?_, fun i a ha => ?_, fun i hi => ?_, ?_⟩
      · refine zM_congrOK hTok (hm3.2.1 _ T hT) (fun j hj => ?_)
        rw [m3, if_pos (by omega), e49, show 7600 * (ks.length - 1) + (j - 0) = 7600 * (ks.length - 1) + j by omega]
      · rw [m2 49 0 (by omega)]; exact hm5.2.1 i U hU
      · rw [m1]; exact hm5.2.2.1
      · rw [m1]; exact hm5.2.2.2.1
      · rw [m1]; exact hm5.2.2.2.2.1 i a ha
      · rw [m1]; exact hm5.2.2.2.2.2.1 i hi
      · rw [m1]; exact hm5.2.2.2.2.2.2
    have hs6 : zsC (g_uI M3 9 0 4 0) M6 := fun k o q => by
      refine ⟨?_, ?_⟩
      · rw [m1, e5]
        show (if k = 9 ∧ o = 0 then _ else (g_uI M3 9 0 4 0).1 k o) = _
        rw [if_neg (by omega)]
      · rw [m2 k o (by omega), e49]
    have hc6 := zTc_sC hp2 (zTc_sC hp2 hc3 (zsC_u9 (i := 4) (v := 0))) hs6
    rw [m1, e53]
    refine zfin_0 ?_ ?_ (hN _ ⟨T, _, tx, er, hc6, hm6, hp2⟩)
    · rw [m1, e5, zuI, if_neg (by omega)]; exact zth
    · rw [(hs6 59 0 (by omega)).2, zuI2, e3, zcl0, zuL, if_pos ⟨rfl, rfl, rfl⟩]
  · rw [if_pos rfl]
    unfold wp_X9_rollback
    intro M3 e3
    subst e3
    have hm3 := zTm_u9 (v := 0) h2
    rw [hm3.2.2.1, c0, if_pos (by decide)]
    unfold wp_X9_fails
    intro M4 e4
    rw [e4]
    exact zthr (zT_9 h) hN (by decide)
/-! the text -/
theorem zq_errorPosition {t : gT} {M : gM} {c : Nat} {x : Int32} {V : Prop} {Nx : gM → Prop} (h : zT M c) (hV : V) (hN : ∀ M', zT M' c → Nx M') : wp_L_errorPosition t 0 x 0 M (fun r M1 => V ∧ wp_X9_errorPosition 0 x M1 (fun rb M2 => zFin Nx r rb.toInt64 M2)) := by
  have h' := h
  obtain ⟨S, ks, tx, er, h1, h2, h3⟩ := h'
  unfold wp_L_errorPosition wp_X8_errorPosition
  by_cases cx : 0 ≤ x
  · rw [if_pos cx]
    by_cases c3 : 3 ≤ x
    · rw [if_pos c3]
      refine ⟨zvi (by omega) (by omega), ?_⟩
      intro M1 e1
      refine ⟨hV, ?_⟩
      unfold wp_X9_errorPosition
      intro M2 e2
      rw [if_pos cx, if_pos c3, e2, e1]
      exact zans h hN rfl
    · rw [if_neg c3]
      have l0 : (0 : Int32).toInt = 0 := by decide
      have l3 : (3 : Int32).toInt = 3 := by decide
      obtain ⟨j, hj, rfl⟩ := zr_of (x := x) (n := 3) ⟨by rw [Int32.le_iff_toInt_le, l0] at cx; omega, by rw [Int32.le_iff_toInt_le, l3] at c3; omega⟩ (by omega)
      refine ⟨vp_in_nI hj (by omega), zvi (by omega) (by omega), ?_⟩
      intro M1 e1
      refine ⟨hV, ?_⟩
      have hm := zTm_u9 (v := 0) (zTm_X h2 (zout_X e1))
      unfold wp_X9_errorPosition
      intro M2 e2
      rw [if_pos cx, if_neg c3]
      refine ⟨vp_in_nI hj (by omega), ?_⟩
      rw [e2, nI_clamp (by omega), hm.2.2.2.2.2.1 j hj, e1]
      refine zans h hN ?_
      rw [nI_clamp (by omega), h1.2.2.2.2.2 j hj]
  · rw [if_neg cx]
    show (if (2 : Nat) = 2 then _ else _)
    rw [if_pos rfl]
    refine ⟨hV, ?_⟩
    unfold wp_X9_errorPosition
    intro M2 e2
    rw [if_neg cx]
    unfold wp_X9_fails
    intro M3 e3
    rw [e3, e2]
    exact zthr (zT_9 h) hN (by decide)
theorem zTc_tx {M M' : gM} {S : zW} {ks : List zW} {tx tx' : List Nat} {er : Nat → Int32} {c : Nat} (hp : zTp S ks tx c) (h : zTc M S ks tx er) (e : ∀ k o, k ≠ 8 → k ≠ 44 → M'.1 k o = M.1 k o) (e2 : M'.2 = M.2) (h8 : M'.1 8 0 7 = M.1 8 0 7) (hl : M'.1 8 0 1 = nI tx'.length) (ht : ∀ i c, tx'[i]? = some c → M'.1 44 0 i = nI c) : zTc M' S ks tx' er := by
  obtain ⟨h1, h2, h3, h4, h5, h6⟩ := h
  refine ⟨zC_cong (zOK_n hp.1).1 h1 (fun k o a b q => ⟨e k o (by unfold zin at q; omega) (by unfold zin at q; omega), by rw [e2]⟩), fun i T hT => zC_cong (zOK_n (hp.2.1 i T hT)).1 (h2 i T hT) (fun k o a b q => ⟨e k o (by unfold zin at q; omega) (by unfold zin at q; omega), by rw [e2]⟩), by rw [h8]; exact h3, hl, ht, fun i hi => ?_⟩
  rw [e 45 0 (by omega) (by omega)]; exact h6 i hi
theorem zTm_tx {M M' : gM} {S : zW} {ks : List zW} {tx tx' : List Nat} {er : Nat → Int32} (h : zTm M S ks tx er) (e : ∀ k o, k ≠ 9 → k ≠ 51 → M'.1 k o = M.1 k o) (e2 : M'.2 = M.2) (h3 : M'.1 9 0 3 = M.1 9 0 3) (hl : M'.1 9 0 7 = nI tx'.length) (ht : ∀ i c, tx'[i]? = some c → M'.1 51 0 i = nI c) : zTm M' S ks tx' er := by
  obtain ⟨g1, g2, g3, g4, g5, g6, g7⟩ := h
  refine ⟨by rw [e2]; exact g1, fun i T hT => by rw [e2]; exact g2 i T hT, by rw [h3]; exact g3, hl, ht, fun i hi => ?_, ?_⟩
  · rw [e 52 0 (by omega) (by omega)]; exact g6 i hi
  · rw [e 50 0 (by omega) (by omega)]; exact g7
theorem zq_clearText {M : gM} {c : Nat} {Nx : gM → Prop} (h : zT M c) (hN : ∀ M', zT M' c → Nx M') : wp_X8_clearText 0 M (fun r M1 => wp_X9_clearText 0 M1 (fun rb M2 => if r = rb then Nx M2 else (0 : Int32) = 1)) := by
  have h' := h
  obtain ⟨S, ks, tx, er, h1, h2, h3⟩ := h'
  have hp : zTp S ks [] c := ⟨h3.1, h3.2.1, h3.2.2.1, by simp, by simp⟩
  unfold wp_X8_clearText
  intro n4 e4 M1 e1
  rw [h1.2.2.2.1] at e4
  subst e4
  have hc1 : zTc M1 S ks [] er := by
    refine zTc_tx h3 h1 (fun k o a b => ?_) (by rw [e1]; rfl) ?_ ?_ (fun i c hc => by simp at hc)
    · rw [e1]
      show (if k = 8 ∧ o = 0 then _ else M.1 k o) = _
      rw [if_neg (by omega)]
    · rw [e1, zuI, if_neg (by omega)]
    · rw [e1, zuI, if_pos ⟨rfl, rfl, rfl⟩]; rfl
  have hm1 : zTm M1 S ks tx er := zTm_sM h2 (by rw [e1]; exact zsM_u8)
  unfold wp_X9_clearText
  intro M2 e2
  subst e2
  have hm2 := zTm_u9 (v := 0) hm1
  intro n9 e9 M3 e3
  rw [hm2.2.2.2.1] at e9
  subst e9
  have hm3 : zTm M3 S ks [] er := by
    refine zTm_tx hm2 (fun k o a b => ?_) (by rw [e3]; rfl) ?_ ?_ (fun i c hc => by simp at hc)
    · rw [e3]
      show (if k = 9 ∧ o = 0 then _ else (g_uI M1 9 0 4 0).1 k o) = _
      rw [if_neg (by omega)]
    · rw [e3, zuI, if_neg (by omega)]
    · rw [e3, zuI, if_pos ⟨rfl, rfl, rfl⟩]; rfl
  have hc3 : zTc M3 S ks [] er := by
    rw [e3]
    exact zTc_sC hp (zTc_sC hp hc1 (zsC_u9 (i := 4) (v := 0))) zsC_u9
  exact zok32 (hN _ ⟨S, ks, [], er, hc3, hm3, hp⟩)
theorem znar {a : Nat} (h : a < 65536) : vp_nar .char (((nI a).toUInt32 % 65536).toInt32) = nI a ∧ vp_nar .char (nI a) = nI a := by
  have e : (nI a).toUInt32.toUInt16.toUInt32.toInt32 = nI a := lg_i2c_small (by rw [nI_toInt (by omega)]; omega) (by rw [nI_toInt (by omega)]; omega)
  have e2 : ((nI a).toUInt32 % 65536).toInt32 = nI a := by
    have : (nI a).toUInt32 % 65536 = (nI a).toUInt32 := by
      apply UInt32.toNat_inj.mp
      have : (nI a).toUInt32.toNat = a := by
        show (Int32.ofNat a).toUInt32.toNat = a
        simp
        omega
      simp [this]
      omega
    rw [this]
    rfl
  refine ⟨?_, by rw [vp_nar_char]; exact e⟩
  rw [e2, vp_nar_char]; exact e
