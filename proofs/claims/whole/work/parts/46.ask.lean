/-! arguments -/
def zr (x : Int32) (n : Nat) : Prop := 0 ≤ x.toInt ∧ x.toInt < (n : Int)
theorem zr_of {x : Int32} {n : Nat} (h : zr x n) (hn : n < 2 ^ 31) : ∃ j, j < n ∧ x = nI j := vp_in_of (vp_in_iff.mpr h) hn
theorem zr_neg {x : Int32} {n : Nat} (h : ¬ zr x n) (hn : n < 2 ^ 31) : x < 0 ∨ ∃ j, n ≤ j ∧ j < 2 ^ 31 ∧ x = nI j := by
  by_cases c : x < 0
  · exact Or.inl c
  · obtain ⟨j, hj, rfl⟩ := nI_of c
    right
    refine ⟨j, ?_, hj, rfl⟩
    unfold zr at h
    rw [nI_toInt hj] at h
    omega
theorem zr_nI {j n : Nat} (h : j < n) (hn : n < 2 ^ 31) : zr (nI j) n := by
  unfold zr
  rw [nI_toInt (by omega)]
  omega
theorem zx_hasNode' {nn ar : Nat} {x : Int32} {M : gM} {S : zW} {K : Int32 → gM → Prop} (h : zC 0 nn ar M S) (hn : zN S 0 0 = nn) (hn2 : nn ≤ 12) (h1 : zr x nn → K 1 M) (h0 : ¬ zr x nn → K 0 M) : wp_X5_hasNode 0 x M K := by
  by_cases c : zr x nn
  · obtain ⟨j, hj, rfl⟩ := zr_of c (by omega)
    refine zx_hasNode h hn hn2 (by omega) ?_
    rw [if_pos hj]; exact h1 c
  · rcases zr_neg c (by omega) with q | ⟨j, q1, q2, rfl⟩
    · unfold wp_X5_hasNode
      rw [if_pos q]; exact h0 c
    · refine zx_hasNode h hn hn2 q2 ?_
      rw [if_neg (by omega)]; exact h0 c
theorem zx_has' {nn ar : Nat} {x : Int32} {M : gM} {S : zW} {K : Int32 → gM → Prop} (h : zC 0 nn ar M S) (ha : zN S 1 0 = ar) (ha2 : ar ≤ 500) (h1 : zr x ar → K 1 M) (h0 : ¬ zr x ar → K 0 M) : wp_X4_has 0 x M K := by
  by_cases c : zr x ar
  · obtain ⟨j, hj, rfl⟩ := zr_of c (by omega)
    refine zx_has h ha ha2 (by omega) ?_
    rw [if_pos hj]; exact h1 c
  · rcases zr_neg c (by omega) with q | ⟨j, q1, q2, rfl⟩
    · unfold wp_X4_has
      rw [if_pos q]; exact h0 c
    · refine zx_has h ha ha2 q2 ?_
      rw [if_neg (by omega)]; exact h0 c
theorem zx_needNode {nn ar : Nat} {x : Int32} {M : gM} {S : zW} {K : gM → Prop} {KX : Nat → gM → Prop} (h : zC 0 nn ar M S) (hn : zN S 0 0 = nn) (hn2 : nn ≤ 12) (h1 : zr x nn → K M) (h0 : ¬ zr x nn → KX 2 M) : wp_X8_needNode 0 x M K KX := by
  unfold wp_X8_needNode
  refine zx_hasNode' h hn hn2 (fun c => ?_) (fun c => ?_)
  · rw [if_neg (by decide)]; exact h1 c
  · rw [if_pos rfl]; exact h0 c
theorem zx_needPacket {nn ar : Nat} {x : Int32} {M : gM} {S : zW} {K : gM → Prop} {KX : Nat → gM → Prop} (h : zC 0 nn ar M S) (ha : zN S 1 0 = ar) (ha2 : ar ≤ 500) (h1 : zr x ar → K M) (h0 : ¬ zr x ar → KX 2 M) : wp_X8_needPacket 0 x M K KX := by
  unfold wp_X8_needPacket
  refine zx_has' h ha ha2 (fun c => ?_) (fun c => ?_)
  · rw [if_neg (by decide)]; exact h1 c
  · rw [if_pos rfl]; exact h0 c
theorem zx_needFlow {x : Int32} {M : gM} {K : gM → Prop} {KX : Nat → gM → Prop} (h1 : zr x 16 → K M) (h0 : ¬ zr x 16 → KX 2 M) : wp_X8_needFlow x M K KX := by
  unfold wp_X8_needFlow wp_X8_needFlow_b10
  by_cases c : zr x 16
  · obtain ⟨j, hj, rfl⟩ := zr_of c (by omega)
    rw [if_neg (nI_pos (by omega)), if_pos (zk_lt (c := 16) (a := 16) rfl hj (by omega))]
    exact h1 c
  · rcases zr_neg c (by omega) with q | ⟨j, q1, q2, rfl⟩
    · rw [if_pos q]; exact h0 c
    · rw [if_neg (nI_pos q2), if_neg (zk_nlt (c := 16) (a := 16) rfl q1 q2)]; exact h0 c
theorem zm_in {x : Int32} {lo hi : Int64} {M : gM} {K : Int32 → gM → Prop} (h1 : lo.toInt ≤ x.toInt ∧ x.toInt ≤ hi.toInt → K 1 M) (h0 : ¬ (lo.toInt ≤ x.toInt ∧ x.toInt ≤ hi.toInt) → K 0 M) : wp_X9_in x.toInt64 lo hi M K := by
  unfold wp_X9_in
  simp only [zl_lt, Int32.toInt_toInt64]
  by_cases c : x.toInt < lo.toInt
  · rw [if_pos c]; exact h0 (by omega)
  · rw [if_neg c]
    by_cases c2 : hi.toInt < x.toInt
    · rw [if_pos c2]; exact h0 (by omega)
    · rw [if_neg c2]; exact h1 (by omega)
theorem zl_pred {n : Nat} (h : n < 2 ^ 31) : (lN n - 1).toInt = (n : Int) - 1 := by
  have h1 : (1 : Int64).toInt = 1 := by decide
  rw [zl_sub (by rw [lN_toInt h, h1]; omega) (by rw [lN_toInt h, h1]; omega), lN_toInt h, h1]
theorem zm_inr {x : Int32} {n : Nat} {M : gM} {K : Int32 → gM → Prop} (hn : n < 2 ^ 31) (h1 : zr x n → K 1 M) (h0 : ¬ zr x n → K 0 M) : wp_X9_in x.toInt64 0 (lN n - 1) M K := by
  have e0 : (0 : Int64).toInt = 0 := by decide
  refine zm_in (fun c => h1 ?_) (fun c => h0 ?_)
  · rw [e0, zl_pred hn] at c; unfold zr; omega
  · rw [e0, zl_pred hn] at c; unfold zr; omega
theorem zm_isFlow {x : Int32} {M : gM} {K : Int32 → gM → Prop} (h1 : zr x 16 → K 1 M) (h0 : ¬ zr x 16 → K 0 M) : wp_X9_isFlow x M K := by
  have e0 : (0 : Int64).toInt = 0 := by decide
  have e15 : (15 : Int64).toInt = 15 := by decide
  unfold wp_X9_isFlow
  refine zm_in (fun c => ⟨znb1, h1 ?_⟩) (fun c => ⟨znb0, h0 ?_⟩)
  · rw [e0, e15] at c; unfold zr; omega
  · rw [e0, e15] at c; unfold zr; omega
theorem zm_isNode {x : Int32} {n : Nat} {M : gM} {K : Int32 → gM → Prop} (hv : M.2 47 0 2 = lN n) (hn : n < 2 ^ 31) (h1 : zr x n → K 1 M) (h0 : ¬ zr x n → K 0 M) : wp_X9_isNode 0 x M K := by
  unfold wp_X9_isNode
  refine ⟨zvi (by omega) (by omega), ?_⟩
  rw [zcl (by omega), hv]
  exact zm_inr hn (fun c => ⟨znb1, h1 c⟩) (fun c => ⟨znb0, h0 c⟩)
/-! answers -/
theorem zT_q {M : gM} {c : Nat} {r : Int64} {v : Int32} (h : zT M c) : zT (g_uI (g_uL M 59 0 (0 : Int32).toNatClampNeg r) 9 0 4 v) c := by
  obtain ⟨S, ks, tx, er, h1, h2, h3⟩ := h
  exact ⟨S, ks, tx, er, zTc_sC h3 (zTc_X h3 h1 (zout_X rfl)) zsC_u9, zTm_u9 (zTm_X h2 (zout_X rfl)), h3⟩
theorem zT_9 {M : gM} {c : Nat} {v : Int32} (h : zT M c) : zT (g_uI M 9 0 4 v) c := by
  obtain ⟨S, ks, tx, er, h1, h2, h3⟩ := h
  exact ⟨S, ks, tx, er, zTc_sC h3 h1 zsC_u9, zTm_u9 h2, h3⟩
theorem zans {M : gM} {c : Nat} {Nx : gM → Prop} {r rb : Int64} (h : zT M c) (hN : ∀ M', zT M' c → Nx M') (e : r = rb) : zFin Nx 0 rb (g_uI (g_uL M 59 0 (0 : Int32).toNatClampNeg r) 9 0 4 0) := zfin_0 zth (by
  rw [zuI2, zcl0, zuL, if_pos ⟨rfl, rfl, rfl⟩]; exact e) (hN _ (zT_q h))
theorem zthr {M : gM} {c : Nat} {Nx : gM → Prop} {kc : Int32} {rb : Int64} (h : zT M c) (hN : ∀ M', zT M' c → Nx M') (h0 : kc ≠ 0) : zFin Nx kc rb (g_uI M 9 0 4 kc) := zfin_x zth h0 (hN _ (zT_9 h))
theorem zcl12 {j : Nat} (h : j < 12) : vp_in (nI j) 12 := vp_in_nI h (by omega)
theorem zparc {nn ar j : Nat} {M : gM} {S : zW} (h : zC 0 nn ar M S) (hj : j < nn) : M.1 32 0 j = if j = 0 then -1 else nI (zN S 18 j) := by
  by_cases c : j = 0
  · subst c; rw [if_pos rfl]; exact h.2.2.1.1
  · rw [if_neg c]; exact zc_parent h (by omega) hj
theorem zparm {nn ar j : Nat} {v : Nat → Int64} {S : zW} (h : zM nn ar v S) (hj : j < nn) : (v (130 + 12 * j + 0)).toInt32 = if j = 0 then -1 else nI (zN S 18 j) := by
  by_cases c : j = 0
  · subst c; rw [if_pos rfl, zm_par0 h]; rfl
  · rw [if_neg c, zm_parent h ⟨by omega, hj⟩, lN_i]
/-! asking a node, a flow, a packet -/
theorem zm_told {n wh : Nat} {x w : Int32} {M : gM} {K : Int32 → gM → Prop} (hw : w = nI wh) (hv : M.2 47 0 2 = lN n) (hn : n ≤ 12) (hwh : wh < 12) (h1 : ∀ j, x = nI j → j < n → K ((M.2 47 0 (130 + 12 * j + wh)).toInt32) (g_uI M 9 0 4 0)) (h0 : ¬ zr x n → K 0 (g_uI M 9 0 4 1)) : wp_X9_told 0 x w M K := by
  unfold wp_X9_told
  refine zm_isNode hv (by omega) (fun c => ?_) (fun c => ?_)
  · rw [if_neg (by decide)]
    unfold wp_X9_told_b14
    intro M1 e1
    refine zm_isNode (n := n) (by rw [e1]; exact hv) (by omega) (fun c2 => ?_) (fun c2 => absurd c c2)
    obtain ⟨j, hj, rfl⟩ := zr_of c (by omega)
    rw [if_neg (by decide), zm_nd, hw, nI_add]
    refine ⟨vp_in_nI (by omega) (by omega), ?_⟩
    rw [nI_clamp (by omega), e1]
    exact h1 j rfl hj
  · rw [if_pos rfl]
    unfold wp_X9_told_b14
    intro M1 e1
    refine zm_isNode (n := n) (by rw [e1]; exact hv) (by omega) (fun c2 => absurd c2 c) (fun c2 => ?_)
    rw [if_pos rfl, e1]
    exact h0 c
theorem zm_ofFlow {wh : Nat} {x w : Int32} {M : gM} {K : Int32 → gM → Prop} (hw : w = nI wh) (hwh : wh < 7) (h1 : ∀ j, x = nI j → j < 16 → K ((M.2 47 0 (10 + 7 * j + wh)).toInt32) (g_uI M 9 0 4 0)) (h0 : ¬ zr x 16 → K 0 (g_uI M 9 0 4 1)) : wp_X9_ofFlow 0 x w M K := by
  unfold wp_X9_ofFlow
  refine zm_isFlow (fun c => ?_) (fun c => ?_)
  · rw [if_neg (by decide)]
    unfold wp_X9_ofFlow_b13
    intro M1 e1
    refine zm_isFlow (fun c2 => ?_) (fun c2 => absurd c c2)
    obtain ⟨j, hj, rfl⟩ := zr_of c (by omega)
    rw [if_neg (by decide), zm_fl, hw, nI_add]
    refine ⟨vp_in_nI (by omega) (by omega), ?_⟩
    rw [nI_clamp (by omega), e1]
    exact h1 j rfl hj
  · rw [if_pos rfl]
    unfold wp_X9_ofFlow_b13
    intro M1 e1
    refine zm_isFlow (fun c2 => absurd c2 c) (fun c2 => ?_)
    rw [if_pos rfl, e1]
    exact h0 c
theorem zm_ofPacket {n wh : Nat} {x w : Int32} {M : gM} {K : Int64 → gM → Prop} (hw : w = nI wh) (hv : M.2 47 0 3 = lN n) (hn : n ≤ 500) (hwh : wh < 7) (h1 : ∀ j, x = nI j → j < n → K (M.2 47 0 (640 + 7 * j + wh)) (g_uI M 9 0 4 0)) (h0 : ¬ zr x n → K 0 (g_uI M 9 0 4 1)) : wp_X9_ofPacket 0 x w M K := by
  unfold wp_X9_ofPacket
  refine ⟨zvi (by omega) (by omega), ?_⟩
  rw [zcl (by omega), hv]
  refine zm_inr (by omega) (fun c => ?_) (fun c => ?_)
  · rw [if_neg (by decide)]
    unfold wp_X9_ofPacket_b25
    intro M1 e1
    obtain ⟨j, hj, rfl⟩ := zr_of c (by omega)
    rw [if_neg (by decide), zm_pk, hw, nI_add]
    refine ⟨vp_in_nI (by omega) (by omega), ?_⟩
    rw [nI_clamp (by omega), e1]
    exact h1 j rfl hj
  · rw [if_pos rfl]
    unfold wp_X9_ofPacket_b25
    intro M1 e1
    rw [if_pos rfl, e1]
    exact h0 c
/-! calls that ask -/
theorem zq_parentOf {t : gT} {M : gM} {c : Nat} {x : Int32} {V : Prop} {Nx : gM → Prop} (h : zT M c) (hV : V) (hN : ∀ M', zT M' c → Nx M') : wp_L_parentOf t 0 x 0 M (fun r M1 => V ∧ wp_X9_parentOf 0 x M1 (fun rb M2 => zFin Nx r rb.toInt64 M2)) := by
  have h' := h
  obtain ⟨S, ks, tx, er, h1, h2, h3⟩ := h'
  have hn := (zOK_n h3.1).1
  have ha := (zOK_n h3.1).2
  unfold wp_L_parentOf wp_X8_parentOf
  refine zx_needNode h1.1 rfl hn (fun cc => ?_) (fun cc => ?_)
  · obtain ⟨j, hj, rfl⟩ := zr_of cc (by omega)
    refine ⟨zcl12 (by omega), zvi (by omega) (by omega), ?_⟩
    intro M1 e1
    refine ⟨hV, ?_⟩
    unfold wp_X9_parentOf
    refine zm_told (wh := 0) (n := zN S 0 0) rfl (by rw [e1]; exact zm_nodes h2.1) hn (by omega) (fun i ei hi => ?_) (fun q => absurd cc q)
    have ei := (nI_eq (by omega) (by omega)).mp ei
    subst ei
    have e3 : M1.2 47 0 = M.2 47 0 := ((zout_X e1) 47 0 (by omega)).2
    rw [e3, e1]
    refine zans h hN ?_
    rw [nI_clamp (by omega)]
    rw [zparc h1.1 hj, zparm h2.1 hj]
  · rw [if_pos rfl]
    refine ⟨hV, ?_⟩
    unfold wp_X9_parentOf
    refine zm_told (wh := 0) (n := zN S 0 0) rfl (zm_nodes h2.1) hn (by omega) (fun i ei hi => absurd (by rw [ei]; exact zr_nI hi (by omega)) cc) (fun q => ?_)
    exact zthr h hN (by decide)
theorem zq_tieRule {t : gT} {M : gM} {c : Nat} {x : Int32} {V : Prop} {Nx : gM → Prop} (h : zT M c) (hV : V) (hN : ∀ M', zT M' c → Nx M') : wp_L_tieRule t 0 x 0 M (fun r M1 => V ∧ wp_X9_tieRule 0 x M1 (fun rb M2 => zFin Nx r rb.toInt64 M2)) := by
  have h' := h
  obtain ⟨S, ks, tx, er, h1, h2, h3⟩ := h'
  have hn := (zOK_n h3.1).1
  have ha := (zOK_n h3.1).2
  unfold wp_L_tieRule wp_X8_tieRule
  refine zx_needNode h1.1 rfl hn (fun cc => ?_) (fun cc => ?_)
  · obtain ⟨j, hj, rfl⟩ := zr_of cc (by omega)
    refine ⟨zcl12 (by omega), zvi (by omega) (by omega), ?_⟩
    intro M1 e1
    refine ⟨hV, ?_⟩
    unfold wp_X9_tieRule
    refine zm_told (wh := 1) (n := zN S 0 0) rfl (by rw [e1]; exact zm_nodes h2.1) hn (by omega) (fun i ei hi => ?_) (fun q => absurd cc q)
    have ei := (nI_eq (by omega) (by omega)).mp ei
    subst ei
    have e3 : M1.2 47 0 = M.2 47 0 := ((zout_X e1) 47 0 (by omega)).2
    rw [e3, e1]
    refine zans h hN ?_
    rw [nI_clamp (by omega)]
    rw [zc_tie h1.1 hj, zm_tie h2.1 hj, lN_i]
  · rw [if_pos rfl]
    refine ⟨hV, ?_⟩
    unfold wp_X9_tieRule
    refine zm_told (wh := 1) (n := zN S 0 0) rfl (zm_nodes h2.1) hn (by omega) (fun i ei hi => absurd (by rw [ei]; exact zr_nI hi (by omega)) cc) (fun q => ?_)
    exact zthr h hN (by decide)
theorem zq_queueLength {t : gT} {M : gM} {c : Nat} {x : Int32} {V : Prop} {Nx : gM → Prop} (h : zT M c) (hV : V) (hN : ∀ M', zT M' c → Nx M') : wp_L_queueLength t 0 x 0 M (fun r M1 => V ∧ wp_X9_queueLength 0 x M1 (fun rb M2 => zFin Nx r rb.toInt64 M2)) := by
  have h' := h
  obtain ⟨S, ks, tx, er, h1, h2, h3⟩ := h'
  have hn := (zOK_n h3.1).1
  have ha := (zOK_n h3.1).2
  unfold wp_L_queueLength wp_X8_queueLength
  refine zx_needNode h1.1 rfl hn (fun cc => ?_) (fun cc => ?_)
  · obtain ⟨j, hj, rfl⟩ := zr_of cc (by omega)
    refine ⟨zcl12 (by omega), zvi (by omega) (by omega), ?_⟩
    intro M1 e1
    refine ⟨hV, ?_⟩
    unfold wp_X9_queueLength
    refine zm_told (wh := 11) (n := zN S 0 0) rfl (by rw [e1]; exact zm_nodes h2.1) hn (by omega) (fun i ei hi => ?_) (fun q => absurd cc q)
    have ei := (nI_eq (by omega) (by omega)).mp ei
    subst ei
    have e3 : M1.2 47 0 = M.2 47 0 := ((zout_X e1) 47 0 (by omega)).2
    rw [e3, e1]
    refine zans h hN ?_
    rw [nI_clamp (by omega)]
    rw [(h1.1.2.2.2.1 j hj).1, (h2.1.2.2.2.1 j hj).1, lN_i, zInv_lenR h3.1.1 hj]
  · rw [if_pos rfl]
    refine ⟨hV, ?_⟩
    unfold wp_X9_queueLength
    refine zm_told (wh := 11) (n := zN S 0 0) rfl (zm_nodes h2.1) hn (by omega) (fun i ei hi => absurd (by rw [ei]; exact zr_nI hi (by omega)) cc) (fun q => ?_)
    exact zthr h hN (by decide)
theorem zq_virtualTime {t : gT} {M : gM} {c : Nat} {x : Int32} {V : Prop} {Nx : gM → Prop} (h : zT M c) (hV : V) (hN : ∀ M', zT M' c → Nx M') : wp_L_virtualTime t 0 x 0 M (fun r M1 => V ∧ wp_X9_virtualTime 0 x M1 (fun rb M2 => zFin Nx r rb M2)) := by
  have h' := h
  obtain ⟨S, ks, tx, er, h1, h2, h3⟩ := h'
  have hn := (zOK_n h3.1).1
  have ha := (zOK_n h3.1).2
  unfold wp_L_virtualTime wp_X8_virtualTime
  refine zx_needNode h1.1 rfl hn (fun cc => ?_) (fun cc => ?_)
  · obtain ⟨j, hj, rfl⟩ := zr_of cc (by omega)
    refine ⟨zcl12 (by omega), zvi (by omega) (by omega), ?_⟩
    intro M1 e1
    refine ⟨hV, ?_⟩
    unfold wp_X9_virtualTime
    refine zm_isNode (n := zN S 0 0) (by rw [e1]; exact zm_nodes h2.1) (by omega) (fun _ => ?_) (fun q => absurd cc q)
    rw [if_neg (by decide)]
    unfold wp_X9_virtualTime_b14
    intro M2 e2
    refine zm_isNode (n := zN S 0 0) (by rw [e2, e1]; exact zm_nodes h2.1) (by omega) (fun _ => ?_) (fun q => absurd cc q)
    rw [if_neg (by decide), zm_nd, zad]
    refine ⟨vp_in_nI (by omega) (by omega), ?_⟩
    rw [nI_clamp (by omega), e2]
    have e3 : M1.2 47 0 = M.2 47 0 := ((zout_X e1) 47 0 (by omega)).2
    rw [zuI2, e3, e1]
    refine zans h hN ?_
    rw [nI_clamp (by omega)]
    rw [zc_virtual h1.1 hj, zm_virtual h2.1 hj]
  · rw [if_pos rfl]
    refine ⟨hV, ?_⟩
    unfold wp_X9_virtualTime
    refine zm_isNode (n := zN S 0 0) (zm_nodes h2.1) (by omega) (fun q => absurd q cc) (fun _ => ?_)
    rw [if_pos rfl]
    unfold wp_X9_virtualTime_b14
    intro M2 e2
    refine zm_isNode (n := zN S 0 0) (by rw [e2]; exact zm_nodes h2.1) (by omega) (fun q => absurd q cc) (fun _ => ?_)
    rw [if_pos rfl, e2]
    exact zthr h hN (by decide)
theorem zq_leafOf {t : gT} {M : gM} {c : Nat} {x : Int32} {V : Prop} {Nx : gM → Prop} (h : zT M c) (hV : V) (hN : ∀ M', zT M' c → Nx M') : wp_L_leafOf t 0 x 0 M (fun r M1 => V ∧ wp_X9_leafOf 0 x M1 (fun rb M2 => zFin Nx r rb.toInt64 M2)) := by
  have h' := h
  obtain ⟨S, ks, tx, er, h1, h2, h3⟩ := h'
  have hn := (zOK_n h3.1).1
  have ha := (zOK_n h3.1).2
  unfold wp_L_leafOf wp_X8_leafOf
  refine zx_needFlow (fun cc => ?_) (fun cc => ?_)
  · obtain ⟨j, hj, rfl⟩ := zr_of cc (by omega)
    refine ⟨vp_in_nI (by omega) (by omega), zvi (by omega) (by omega), ?_⟩
    intro M1 e1
    refine ⟨hV, ?_⟩
    unfold wp_X9_leafOf
    refine zm_ofFlow (wh := 1) rfl (by omega) (fun i ei hi => ?_) (fun q => absurd cc q)
    have ei := (nI_eq (by omega) (by omega)).mp ei
    subst ei
    have e3 : M1.2 47 0 = M.2 47 0 := ((zout_X e1) 47 0 (by omega)).2
    rw [e3, e1]
    refine zans h hN ?_
    rw [nI_clamp (by omega)]
    rw [zc_leaf h1.1 hj, zm_leaf h2.1 hj, lN_i]
  · rw [if_pos rfl]
    refine ⟨hV, ?_⟩
    unfold wp_X9_leafOf
    refine zm_ofFlow (wh := 1) rfl (by omega) (fun i ei hi => absurd (by rw [ei]; exact zr_nI hi (by omega)) cc) (fun q => ?_)
    exact zthr h hN (by decide)
theorem zq_sent {t : gT} {M : gM} {c : Nat} {x : Int32} {V : Prop} {Nx : gM → Prop} (h : zT M c) (hV : V) (hN : ∀ M', zT M' c → Nx M') : wp_L_sent t 0 x 0 M (fun r M1 => V ∧ wp_X9_sent 0 x M1 (fun rb M2 => zFin Nx r rb.toInt64 M2)) := by
  have h' := h
  obtain ⟨S, ks, tx, er, h1, h2, h3⟩ := h'
  have hn := (zOK_n h3.1).1
  have ha := (zOK_n h3.1).2
  unfold wp_L_sent wp_X8_sent
  refine zx_needFlow (fun cc => ?_) (fun cc => ?_)
  · obtain ⟨j, hj, rfl⟩ := zr_of cc (by omega)
    refine ⟨vp_in_nI (by omega) (by omega), zvi (by omega) (by omega), ?_⟩
    intro M1 e1
    refine ⟨hV, ?_⟩
    unfold wp_X9_sent
    refine zm_ofFlow (wh := 2) rfl (by omega) (fun i ei hi => ?_) (fun q => absurd cc q)
    have ei := (nI_eq (by omega) (by omega)).mp ei
    subst ei
    have e3 : M1.2 47 0 = M.2 47 0 := ((zout_X e1) 47 0 (by omega)).2
    rw [e3, e1]
    refine zans h hN ?_
    rw [nI_clamp (by omega)]
    rw [zc_sent h1.1 hj, zm_sent h2.1 hj, lN_i]
  · rw [if_pos rfl]
    refine ⟨hV, ?_⟩
    unfold wp_X9_sent
    refine zm_ofFlow (wh := 2) rfl (by omega) (fun i ei hi => absurd (by rw [ei]; exact zr_nI hi (by omega)) cc) (fun q => ?_)
    exact zthr h hN (by decide)
theorem zq_sentBytes {t : gT} {M : gM} {c : Nat} {x : Int32} {V : Prop} {Nx : gM → Prop} (h : zT M c) (hV : V) (hN : ∀ M', zT M' c → Nx M') : wp_L_sentBytes t 0 x 0 M (fun r M1 => V ∧ wp_X9_sentBytes 0 x M1 (fun rb M2 => zFin Nx r rb.toInt64 M2)) := by
  have h' := h
  obtain ⟨S, ks, tx, er, h1, h2, h3⟩ := h'
  have hn := (zOK_n h3.1).1
  have ha := (zOK_n h3.1).2
  unfold wp_L_sentBytes wp_X8_sentBytes
  refine zx_needFlow (fun cc => ?_) (fun cc => ?_)
  · obtain ⟨j, hj, rfl⟩ := zr_of cc (by omega)
    refine ⟨vp_in_nI (by omega) (by omega), zvi (by omega) (by omega), ?_⟩
    intro M1 e1
    refine ⟨hV, ?_⟩
    unfold wp_X9_sentBytes
    refine zm_ofFlow (wh := 3) rfl (by omega) (fun i ei hi => ?_) (fun q => absurd cc q)
    have ei := (nI_eq (by omega) (by omega)).mp ei
    subst ei
    have e3 : M1.2 47 0 = M.2 47 0 := ((zout_X e1) 47 0 (by omega)).2
    rw [e3, e1]
    refine zans h hN ?_
    rw [nI_clamp (by omega)]
    rw [zc_bytes h1.1 hj, zm_bytes h2.1 hj, lN_i]
  · rw [if_pos rfl]
    refine ⟨hV, ?_⟩
    unfold wp_X9_sentBytes
    refine zm_ofFlow (wh := 3) rfl (by omega) (fun i ei hi => absurd (by rw [ei]; exact zr_nI hi (by omega)) cc) (fun q => ?_)
    exact zthr h hN (by decide)
theorem zq_missed {t : gT} {M : gM} {c : Nat} {x : Int32} {V : Prop} {Nx : gM → Prop} (h : zT M c) (hV : V) (hN : ∀ M', zT M' c → Nx M') : wp_L_missed t 0 x 0 M (fun r M1 => V ∧ wp_X9_missed 0 x M1 (fun rb M2 => zFin Nx r rb.toInt64 M2)) := by
  have h' := h
  obtain ⟨S, ks, tx, er, h1, h2, h3⟩ := h'
  have hn := (zOK_n h3.1).1
  have ha := (zOK_n h3.1).2
  unfold wp_L_missed wp_X8_missed
  refine zx_needFlow (fun cc => ?_) (fun cc => ?_)
  · obtain ⟨j, hj, rfl⟩ := zr_of cc (by omega)
    refine ⟨vp_in_nI (by omega) (by omega), zvi (by omega) (by omega), ?_⟩
    intro M1 e1
    refine ⟨hV, ?_⟩
    unfold wp_X9_missed
    refine zm_ofFlow (wh := 6) rfl (by omega) (fun i ei hi => ?_) (fun q => absurd cc q)
    have ei := (nI_eq (by omega) (by omega)).mp ei
    subst ei
    have e3 : M1.2 47 0 = M.2 47 0 := ((zout_X e1) 47 0 (by omega)).2
    rw [e3, e1]
    refine zans h hN ?_
    rw [nI_clamp (by omega)]
    rw [zc_missed h1.1 hj, zm_missed h2.1 hj, lN_i]
  · rw [if_pos rfl]
    refine ⟨hV, ?_⟩
    unfold wp_X9_missed
    refine zm_ofFlow (wh := 6) rfl (by omega) (fun i ei hi => absurd (by rw [ei]; exact zr_nI hi (by omega)) cc) (fun q => ?_)
    exact zthr h hN (by decide)
theorem zq_totalDelay {t : gT} {M : gM} {c : Nat} {x : Int32} {V : Prop} {Nx : gM → Prop} (h : zT M c) (hV : V) (hN : ∀ M', zT M' c → Nx M') : wp_L_totalDelay t 0 x 0 M (fun r M1 => V ∧ wp_X9_totalDelay 0 x M1 (fun rb M2 => zFin Nx r rb M2)) := by
  have h' := h
  obtain ⟨S, ks, tx, er, h1, h2, h3⟩ := h'
  have hn := (zOK_n h3.1).1
  have ha := (zOK_n h3.1).2
  unfold wp_L_totalDelay wp_X8_totalDelay
  refine zx_needFlow (fun cc => ?_) (fun cc => ?_)
  · obtain ⟨j, hj, rfl⟩ := zr_of cc (by omega)
    refine ⟨vp_in_nI (by omega) (by omega), zvi (by omega) (by omega), ?_⟩
    intro M1 e1
    refine ⟨hV, ?_⟩
    unfold wp_X9_totalDelay
    refine zm_isFlow (fun _ => ?_) (fun q => absurd cc q)
    rw [if_neg (by decide)]
    unfold wp_X9_totalDelay_b13
    intro M2 e2
    refine zm_isFlow (fun _ => ?_) (fun q => absurd cc q)
    rw [if_neg (by decide), zm_fl, zad]
    refine ⟨vp_in_nI (by omega) (by omega), ?_⟩
    rw [nI_clamp (by omega), e2]
    have e3 : M1.2 47 0 = M.2 47 0 := ((zout_X e1) 47 0 (by omega)).2
    rw [zuI2, e3, e1]
    refine zans h hN ?_
    rw [nI_clamp (by omega)]
    rw [zc_delay h1.1 hj, zm_delay h2.1 hj]
  · rw [if_pos rfl]
    refine ⟨hV, ?_⟩
    unfold wp_X9_totalDelay
    refine zm_isFlow (fun q => absurd q cc) (fun _ => ?_)
    rw [if_pos rfl]
    unfold wp_X9_totalDelay_b13
    intro M2 e2
    refine zm_isFlow (fun q => absurd q cc) (fun _ => ?_)
    rw [if_pos rfl, e2]
    exact zthr h hN (by decide)
theorem zq_greatestDelay {t : gT} {M : gM} {c : Nat} {x : Int32} {V : Prop} {Nx : gM → Prop} (h : zT M c) (hV : V) (hN : ∀ M', zT M' c → Nx M') : wp_L_greatestDelay t 0 x 0 M (fun r M1 => V ∧ wp_X9_greatestDelay 0 x M1 (fun rb M2 => zFin Nx r rb M2)) := by
  have h' := h
  obtain ⟨S, ks, tx, er, h1, h2, h3⟩ := h'
  have hn := (zOK_n h3.1).1
  have ha := (zOK_n h3.1).2
  unfold wp_L_greatestDelay wp_X8_greatestDelay
  refine zx_needFlow (fun cc => ?_) (fun cc => ?_)
  · obtain ⟨j, hj, rfl⟩ := zr_of cc (by omega)
    refine ⟨vp_in_nI (by omega) (by omega), zvi (by omega) (by omega), ?_⟩
    intro M1 e1
    refine ⟨hV, ?_⟩
    unfold wp_X9_greatestDelay
    refine zm_isFlow (fun _ => ?_) (fun q => absurd cc q)
    rw [if_neg (by decide)]
    unfold wp_X9_greatestDelay_b13
    intro M2 e2
    refine zm_isFlow (fun _ => ?_) (fun q => absurd cc q)
    rw [if_neg (by decide), zm_fl, zad]
    refine ⟨vp_in_nI (by omega) (by omega), ?_⟩
    rw [nI_clamp (by omega), e2]
    have e3 : M1.2 47 0 = M.2 47 0 := ((zout_X e1) 47 0 (by omega)).2
    rw [zuI2, e3, e1]
    refine zans h hN ?_
    rw [nI_clamp (by omega)]
    rw [zc_most h1.1 hj, zm_most h2.1 hj]
  · rw [if_pos rfl]
    refine ⟨hV, ?_⟩
    unfold wp_X9_greatestDelay
    refine zm_isFlow (fun q => absurd q cc) (fun _ => ?_)
    rw [if_pos rfl]
    unfold wp_X9_greatestDelay_b13
    intro M2 e2
    refine zm_isFlow (fun q => absurd q cc) (fun _ => ?_)
    rw [if_pos rfl, e2]
    exact zthr h hN (by decide)
theorem zq_flowOf {t : gT} {M : gM} {c : Nat} {x : Int32} {V : Prop} {Nx : gM → Prop} (h : zT M c) (hV : V) (hN : ∀ M', zT M' c → Nx M') : wp_L_flowOf t 0 x 0 M (fun r M1 => V ∧ wp_X9_flowOf 0 x M1 (fun rb M2 => zFin Nx r rb.toInt64 M2)) := by
  have h' := h
  obtain ⟨S, ks, tx, er, h1, h2, h3⟩ := h'
  have hn := (zOK_n h3.1).1
  have ha := (zOK_n h3.1).2
  unfold wp_L_flowOf wp_X8_flowOf
  refine zx_needPacket h1.1 rfl ha (fun cc => ?_) (fun cc => ?_)
  · obtain ⟨j, hj, rfl⟩ := zr_of cc (by omega)
    refine ⟨vp_in_nI (by omega) (by omega), zvi (by omega) (by omega), ?_⟩
    intro M1 e1
    refine ⟨hV, ?_⟩
    unfold wp_X9_flowOf
    refine zm_ofPacket (wh := 0) (n := zN S 1 0) rfl (by rw [e1]; exact zm_arrived h2.1) ha (by omega) (fun i ei hi => ?_) (fun q => absurd cc q)
    have ei := (nI_eq (by omega) (by omega)).mp ei
    subst ei
    have e3 : M1.2 47 0 = M.2 47 0 := ((zout_X e1) 47 0 (by omega)).2
    rw [e3, e1]
    refine zans h hN ?_
    rw [nI_clamp (by omega)]
    rw [zc_flow h1.1 hj, zm_flow h2.1 hj, lN_i]
  · rw [if_pos rfl]
    refine ⟨hV, ?_⟩
    unfold wp_X9_flowOf
    refine zm_ofPacket (wh := 0) (n := zN S 1 0) rfl (zm_arrived h2.1) ha (by omega) (fun i ei hi => absurd (by rw [ei]; exact zr_nI hi (by omega)) cc) (fun q => ?_)
    exact zthr h hN (by decide)
theorem zq_deadlineOf {t : gT} {M : gM} {c : Nat} {x : Int32} {V : Prop} {Nx : gM → Prop} (h : zT M c) (hV : V) (hN : ∀ M', zT M' c → Nx M') : wp_L_deadlineOf t 0 x 0 M (fun r M1 => V ∧ wp_X9_deadlineOf 0 x M1 (fun rb M2 => zFin Nx r rb M2)) := by
  have h' := h
  obtain ⟨S, ks, tx, er, h1, h2, h3⟩ := h'
  have hn := (zOK_n h3.1).1
  have ha := (zOK_n h3.1).2
  unfold wp_L_deadlineOf wp_X8_deadlineOf
  refine zx_needPacket h1.1 rfl ha (fun cc => ?_) (fun cc => ?_)
  · obtain ⟨j, hj, rfl⟩ := zr_of cc (by omega)
    refine ⟨vp_in_nI (by omega) (by omega), zvi (by omega) (by omega), ?_⟩
    intro M1 e1
    refine ⟨hV, ?_⟩
    unfold wp_X9_deadlineOf
    refine zm_ofPacket (wh := 4) (n := zN S 1 0) rfl (by rw [e1]; exact zm_arrived h2.1) ha (by omega) (fun i ei hi => ?_) (fun q => absurd cc q)
    have ei := (nI_eq (by omega) (by omega)).mp ei
    subst ei
    have e3 : M1.2 47 0 = M.2 47 0 := ((zout_X e1) 47 0 (by omega)).2
    rw [e3, e1]
    refine zans h hN ?_
    rw [nI_clamp (by omega)]
    rw [zc_deadline h1.1 hj, zm_deadline h2.1 hj]
  · rw [if_pos rfl]
    refine ⟨hV, ?_⟩
    unfold wp_X9_deadlineOf
    refine zm_ofPacket (wh := 4) (n := zN S 1 0) rfl (zm_arrived h2.1) ha (by omega) (fun i ei hi => absurd (by rw [ei]; exact zr_nI hi (by omega)) cc) (fun q => ?_)
    exact zthr h hN (by decide)
theorem zq_departureOf {t : gT} {M : gM} {c : Nat} {x : Int32} {V : Prop} {Nx : gM → Prop} (h : zT M c) (hV : V) (hN : ∀ M', zT M' c → Nx M') : wp_L_departureOf t 0 x 0 M (fun r M1 => V ∧ wp_X9_departureOf 0 x M1 (fun rb M2 => zFin Nx r rb M2)) := by
  have h' := h
  obtain ⟨S, ks, tx, er, h1, h2, h3⟩ := h'
  have hn := (zOK_n h3.1).1
  have ha := (zOK_n h3.1).2
  unfold wp_L_departureOf wp_X8_departureOf
  refine zx_needPacket h1.1 rfl ha (fun cc => ?_) (fun cc => ?_)
  · obtain ⟨j, hj, rfl⟩ := zr_of cc (by omega)
    refine ⟨vp_in_nI (by omega) (by omega), zvi (by omega) (by omega), ?_⟩
    intro M1 e1
    refine ⟨hV, ?_⟩
    unfold wp_X9_departureOf
    refine zm_ofPacket (wh := 5) (n := zN S 1 0) rfl (by rw [e1]; exact zm_arrived h2.1) ha (by omega) (fun i ei hi => ?_) (fun q => absurd cc q)
    have ei := (nI_eq (by omega) (by omega)).mp ei
    subst ei
    have e3 : M1.2 47 0 = M.2 47 0 := ((zout_X e1) 47 0 (by omega)).2
    rw [e3, e1]
    refine zans h hN ?_
    rw [nI_clamp (by omega)]
    rw [zc_departure h1.1 hj, zm_departure h2.1 hj]
  · rw [if_pos rfl]
    refine ⟨hV, ?_⟩
    unfold wp_X9_departureOf
    refine zm_ofPacket (wh := 5) (n := zN S 1 0) rfl (zm_arrived h2.1) ha (by omega) (fun i ei hi => absurd (by rw [ei]; exact zr_nI hi (by omega)) cc) (fun q => ?_)
    exact zthr h hN (by decide)
