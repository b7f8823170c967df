/-! calls without arguments that ask -/
theorem zok32 {r : Int32} {Nx : gM → Prop} {M : gM} (h : Nx M) : (if r = r then Nx M else (0 : Int32) = 1) := by
  rw [if_pos rfl]; exact h
theorem zok64 {r : Int64} {Nx : gM → Prop} {M : gM} (h : Nx M) : (if r = r then Nx M else (0 : Int32) = 1) := by
  rw [if_pos rfl]; exact h
theorem zq_nodes {M : gM} {c : Nat} {Nx : gM → Prop} (h : zT M c) (hN : ∀ M', zT M' c → Nx M') : wp_X8_nodes 0 M (fun r M1 => wp_X9_nodes 0 M1 (fun rb M2 => if r = rb then Nx M2 else (0 : Int32) = 1)) := by
  have h' := h
  obtain ⟨S, ks, tx, er, h1, h2, h3⟩ := h'
  unfold wp_X8_nodes wp_X9_nodes
  intro M2 e2
  refine ⟨zvi (by omega) (by omega), ?_⟩
  rw [zcl (by omega), e2, zuI2, zm_nodes h2.1, lN_i, zc_nodes h1.1]
  exact zok32 (hN _ (zT_9 h))
theorem zq_time {M : gM} {c : Nat} {Nx : gM → Prop} (h : zT M c) (hN : ∀ M', zT M' c → Nx M') : wp_X8_time 0 M (fun r M1 => wp_X9_time 0 M1 (fun rb M2 => if r = rb then Nx M2 else (0 : Int32) = 1)) := by
  have h' := h
  obtain ⟨S, ks, tx, er, h1, h2, h3⟩ := h'
  unfold wp_X8_time wp_X9_time
  intro M2 e2
  refine ⟨zvi (by omega) (by omega), ?_⟩
  rw [zcl (by omega), e2, zuI2, zm_time h2.1, zc_time h1.1]
  exact zok64 (hN _ (zT_9 h))
theorem zq_shaped {M : gM} {c : Nat} {Nx : gM → Prop} (h : zT M c) (hN : ∀ M', zT M' c → Nx M') : wp_X8_shaped 0 M (fun r M1 => wp_X9_shaped 0 M1 (fun rb M2 => if r = rb then Nx M2 else (0 : Int32) = 1)) := by
  have h' := h
  obtain ⟨S, ks, tx, er, h1, h2, h3⟩ := h'
  unfold wp_X8_shaped wp_X9_shaped
  intro M2 e2
  refine ⟨zvi (by omega) (by omega), ?_⟩
  rw [zcl (by omega), e2, zuI2, h2.1.2.2.2.2.1, h1.1.2.2.2.2.1, lN_i]
  exact zok32 (hN _ (zT_9 h))
theorem zx_relq {nn ar : Nat} {M : gM} {S : zW} {K : Int64 → gM → Prop} {w : Nat} (h : zC w nn ar M S) (hl : (zD S).length ≤ 64) (hK : K (if (zD S).length = 0 then -1 else (zget (zD S) (znx (zD S))).1) M) : wp_X2_earliestRelease w M K := by
  unfold wp_X2_earliestRelease
  refine zx_earliest h hl ?_
  unfold zfirst
  by_cases c : (zD S).length = 0
  · rw [if_pos c] at hK ⊢
    rw [if_neg (by decide)]; exact hK
  · rw [if_neg c] at hK ⊢
    have hx := znx_lt c
    rw [if_pos (nI_pos' (by omega))]
    refine ⟨vp_in_nI (by omega) (by omega), ?_⟩
    rw [nI_clamp (by omega), (h.2.2.2.2.2 _ _ (zget_some hx)).1]
    exact hK
theorem zq_nextRelease {M : gM} {c : Nat} {Nx : gM → Prop} (h : zT M c) (hN : ∀ M', zT M' c → Nx M') : wp_X8_nextRelease 0 M (fun r M1 => wp_X9_nextRelease 0 M1 (fun rb M2 => if r = rb then Nx M2 else (0 : Int32) = 1)) := by
  have h' := h
  obtain ⟨S, ks, tx, er, h1, h2, h3⟩ := h'
  have hl := zheld_le h3.1.1
  unfold wp_X8_nextRelease wp_X9_nextRelease
  refine zx_relq h1.1 (by omega) ?_
  intro M2 e2
  have e47 : M2.2 47 0 = M.2 47 0 := by rw [e2]; rfl
  refine zm_next (S := S) (by rw [e47]; exact h2.1) (by omega) ?_
  unfold zfirst
  by_cases cc : (zD S).length = 0
  · rw [if_pos cc, if_pos cc, if_neg (by decide), e2]
    exact zok64 (hN _ (zT_9 h))
  · have hx := znx_lt cc
    rw [if_neg cc, if_neg cc, if_pos (nI_pos' (by omega)), zm_ho, zad]
    refine ⟨vp_in_nI (by omega) (by omega), ?_⟩
    rw [nI_clamp (by omega), e47, (h2.1.2.2.2.2.2 _ _ (zget_some hx)).1, e2]
    exact zok64 (hN _ (zT_9 h))
theorem zx_waitL {nn ar : Nat} {M : gM} {S : zW} {K : Int32 → gM → Prop} (h : zC 0 nn ar M S) (hn : zN S 0 0 = nn) (hn2 : nn ≤ 12) (hcc : ∀ x, x < nn → zN S 19 x < 2 ^ 31) (hK : K (nI (zsum (zlf S) nn)) M) : ∀ (n x : Nat), x + n = 12 → wp_X7_countWaiting_L4 K (n + 1) 0 (nI (zsum (zlf S) (min x nn))) (nI x) M
  | 0, x, e => by
    unfold wp_X7_countWaiting_L4
    rw [if_pos (zk_le2 (c := 12) (a := 12) rfl (by omega) (by omega)), Nat.min_eq_right (by omega)]
    exact hK
  | n + 1, x, e => by
    have ih := zx_waitL h hn hn2 hcc hK n (x + 1) (by omega)
    unfold wp_X7_countWaiting_L4
    rw [if_neg (zk_nle (c := 12) (a := 12) rfl (by omega) (by omega))]
    by_cases c : x < nn
    · rw [Nat.min_eq_left (by omega)] at ih ⊢
      have es : zsum (zlf S) (x + 1) = zsum (zlf S) x + zlf S x := rfl
      rw [es] at ih
      refine zx_isLeaf h hn hn2 c (hcc x c) ?_
      by_cases cl : zN S 19 x = 0
      · rw [if_pos cl, if_neg (by decide)]
        refine ⟨zcl12 (by omega), ?_⟩
        intro n35 e35 n36 e36
        rw [zn_p1] at e36
        rw [nI_clamp (by omega), (h.2.2.2.1 x c).1, nI_add] at e35
        subst e35; subst e36
        unfold zlf at ih
        rw [if_pos cl] at ih
        exact ih
      · rw [if_neg cl, if_pos rfl]
        intro n36 e36
        rw [zn_p1] at e36
        subst e36
        have ez : zlf S x = 0 := by unfold zlf; rw [if_neg cl]
        rw [ez] at ih
        exact ih
    · rw [Nat.min_eq_right (by omega)] at ih ⊢
      unfold wp_X5_isLeaf
      rw [if_neg (nI_pos (by omega)), zc_nodes h, hn, if_pos (nI_le (by omega) (by omega))]
      show (if (0 : Int32) = 0 then _ else _)
      rw [if_pos rfl]
      intro n36 e36
      rw [zn_p1] at e36
      subst e36
      exact ih
theorem zx_wait {nn ar : Nat} {M : gM} {S : zW} {K : Int32 → gM → Prop} (h : zC 0 nn ar M S) (hi : zInv S 0 0) (hn : zN S 0 0 = nn) (hK : K (nI (zN S 21 0)) M) : wp_X7_countWaiting 0 M K := by
  have hn2 : nn ≤ 12 := by rw [← hn]; exact hi.1.1.2
  refine ⟨13, zx_waitL h hn hn2 (fun x hx => by have := zcc_lt hi (x := x) (by omega); omega) ?_ 12 0 (by omega)⟩
  have := hi.2.2.2.2.2.2.1
  rw [hn] at this
  rw [show zsum (zlf S) nn = zN S 21 0 by omega]; exact hK
theorem zq_waiting {M : gM} {c : Nat} {Nx : gM → Prop} (h : zT M c) (hN : ∀ M', zT M' c → Nx M') : wp_X8_waiting 0 M (fun r M1 => wp_X9_waiting 0 M1 (fun rb M2 => if r = rb then Nx M2 else (0 : Int32) = 1)) := by
  have h' := h
  obtain ⟨S, ks, tx, er, h1, h2, h3⟩ := h'
  unfold wp_X8_waiting wp_X9_waiting
  refine zx_wait h1.1 h3.1.1 rfl ?_
  intro M2 e2
  refine ⟨zvi (by omega) (by omega), ?_⟩
  rw [zcl (by omega), e2, zuI2, zm_waiting h2.1, lN_i]
  exact zok32 (hN _ (zT_9 h))
/-! children -/
theorem zm_childL {nn ar j : Nat} {M : gM} {S : zW} {K : Int32 → gM → Prop} (h : zM nn ar (M.2 47 0) S) (h9 : M.1 9 0 4 = 0) (hn : zN S 0 0 = nn) (hn2 : nn ≤ 12) (hj : j < nn) (hpar : ∀ y, 0 < y → y < nn → zN S 18 y < y) (hK : K (nI (zcnt S j)) M) : ∀ (n y : Nat), y + n = nn → wp_X9_children_L21 K (n + 1) 0 (nI j) (nI (zsum (fun y => if 0 < y ∧ zN S 18 y = j then 1 else 0) y)) (nI y) M
  | 0, y, e => by
    unfold wp_X9_children_L21
    refine ⟨zvi (by omega) (by omega), ?_⟩
    rw [zcl (by omega), zm_nodes h, hn, nI_l (by omega), if_pos ((lN_le (by omega) (by omega)).mpr (by omega))]
    have : y = nn := by omega
    unfold zcnt at hK
    rw [hn] at hK
    rw [this]; exact hK
  | n + 1, y, e => by
    have ih := zm_childL h h9 hn hn2 hj hpar hK n (y + 1) (by omega)
    have hs : zsum (fun y => if 0 < y ∧ zN S 18 y = j then 1 else 0) (y + 1) = zsum (fun y => if 0 < y ∧ zN S 18 y = j then 1 else 0) y + (if 0 < y ∧ zN S 18 y = j then 1 else 0) := rfl
    rw [hs] at ih
    unfold wp_X9_children_L21
    refine ⟨zvi (by omega) (by omega), ?_⟩
    rw [zcl (by omega), zm_nodes h, hn, nI_l (by omega), if_neg (fun q => absurd ((lN_le (by omega) (by omega)).mp q) (by omega)), if_pos h9, zm_nd, zad]
    refine ⟨vp_in_nI (by omega) (by omega), ?_⟩
    rw [nI_clamp (by omega), nI_l (by omega)]
    have fin : ∀ d : Nat, (if 0 < y ∧ zN S 18 y = j then 1 else 0) = d → wp_X9_children_b63 (fun o0 x1 x2 x3 M => wp_X9_children_L21 K (n + 1) o0 x1 x2 x3 M) K 0 (nI j) (nI y) (nI (zsum (fun y => if 0 < y ∧ zN S 18 y = j then 1 else 0) y)) (nI d) M := by
      intro d hd
      unfold wp_X9_children_b63
      intro n64 e64 n65 e65
      rw [zn_p1] at e65
      rw [nI_add, ← hd] at e64
      subst e64; subst e65
      exact ih
    by_cases c0 : y = 0
    · subst c0
      rw [zm_par0 h, if_neg (by
        intro q
        have := congrArg Int64.toInt q
        rw [lN_toInt (by omega)] at this
        have h2 : (-1 : Int64).toInt = -1 := by decide
        omega)]
      exact fin 0 (by simp)
    · have hp := hpar y (by omega) (by omega)
      rw [zm_parent h ⟨by omega, by omega⟩]
      by_cases c1 : zN S 18 y = j
      · rw [if_pos (by rw [c1])]
        have c0' : 0 < y := by omega
        exact fin 1 (by simp [c0', c1])
      · rw [if_neg (fun q => c1 ((lN_eq (by omega) (by omega)).mp q))]
        exact fin 0 (by simp [c1])
theorem zq_children {t : gT} {M : gM} {c : Nat} {x : Int32} {V : Prop} {Nx : gM → Prop} (h : zT M c) (hV : V) (hN : ∀ M', zT M' c → Nx M') : wp_L_children t 0 x 0 M (fun r M1 => V ∧ wp_X9_children 0 x M1 (fun rb M2 => zFin Nx r rb.toInt64 M2)) := by
  have h' := h
  obtain ⟨S, ks, tx, er, h1, h2, h3⟩ := h'
  have hn := (zOK_n h3.1).1
  have hn1 := h3.1.1.1.1.1
  unfold wp_L_children wp_X8_children
  refine zx_needNode h1.1 rfl hn (fun cc => ?_) (fun cc => ?_)
  · obtain ⟨j, hj, rfl⟩ := zr_of cc (by omega)
    refine ⟨zcl12 (by omega), zvi (by omega) (by omega), ?_⟩
    intro M1 e1
    refine ⟨hV, ?_⟩
    unfold wp_X9_children
    refine zm_isNode (n := zN S 0 0) (by rw [e1]; exact zm_nodes h2.1) (by omega) (fun _ => ?_) (fun q => absurd cc q)
    rw [if_neg (by decide)]
    unfold wp_X9_children_b14
    intro M2 e2
    have e3 : M2.2 47 0 = M.2 47 0 := by rw [e2]; exact ((zout_X e1) 47 0 (by omega)).2
    refine ⟨zN S 0 0 + 1, zm_childL (S := S) (by rw [e3]; exact h2.1) (by rw [e2]; exact zth) rfl hn hj (fun y a b => h3.1.1.1.2.1 y a b) ?_ (zN S 0 0) 0 (by omega)⟩
    rw [e2, e1]
    refine zans h hN ?_
    rw [nI_clamp (by omega), zc_childCount h1.1 hj, h3.1.1.1.2.2.1 j hj]
  · rw [if_pos rfl]
    refine ⟨hV, ?_⟩
    unfold wp_X9_children
    refine zm_isNode (n := zN S 0 0) (zm_nodes h2.1) (by omega) (fun q => absurd q cc) (fun _ => ?_)
    rw [if_pos rfl]
    unfold wp_X9_children_b14
    intro M2 e2
    refine ⟨1, ?_⟩
    unfold wp_X9_children_L21
    refine ⟨zvi (by omega) (by omega), ?_⟩
    have e4 : (0 : Int32).toInt64 = lN 0 := nI_l (n := 0) (by omega)
    rw [zcl (by omega), e2, zuI2, zm_nodes h2.1, e4, if_neg (fun q => absurd ((lN_le (by omega) (by omega)).mp q) (by omega)), zth, if_neg (by decide)]
    exact zthr h hN (by decide)
/-! elements -/
theorem zx_needElement {nn ar : Nat} {x y : Int32} {M : gM} {S : zW} {K : gM → Prop} {KX : Nat → gM → Prop} (h : zC 0 nn ar M S) (hi : zInv S 0 0) (hn : zN S 0 0 = nn) (h1 : ∀ j i, j < nn → i < (zQ S j).length → x = nI j → y = nI i → K M) (h0 : (¬ zr x nn ∨ ∃ j, j < nn ∧ x = nI j ∧ ¬ zr y (zQ S j).length) → KX 2 M) : wp_X8_needElement 0 x y M K KX := by
  have hn2 : nn ≤ 12 := by rw [← hn]; exact hi.1.1.2
  unfold wp_X8_needElement wp_X8_needElement_b31
  refine zx_needNode h hn hn2 (fun c => ?_) (fun c => h0 (Or.inl c))
  obtain ⟨j, hj, rfl⟩ := zr_of c (by omega)
  have hl := zlen64 hi (x := j) (by omega)
  by_cases cy : zr y (zQ S j).length
  · obtain ⟨i, hii, rfl⟩ := zr_of cy (by omega)
    rw [if_neg (nI_pos (by omega))]
    refine ⟨zcl12 (by omega), ?_⟩
    rw [nI_clamp (by omega), (h.2.2.2.1 j hj).1, if_neg (nI_ge hii (by omega)), if_pos (zk_lt (c := 64) (a := 64) rfl (by omega) (by omega))]
    exact h1 j i hj hii rfl rfl
  · have k := h0 (Or.inr ⟨j, hj, rfl, cy⟩)
    rcases zr_neg cy (by omega) with q | ⟨i, q1, q2, rfl⟩
    · rw [if_pos q]; exact k
    · rw [if_neg (nI_pos q2)]
      refine ⟨zcl12 (by omega), ?_⟩
      rw [nI_clamp (by omega), (h.2.2.2.1 j hj).1, if_pos (nI_le q1 q2)]
      exact k
theorem zm_hasElement {nn ar : Nat} {x y : Int32} {M : gM} {S : zW} {K : Int32 → gM → Prop} (h : zM nn ar (M.2 47 0) S) (hi : zInv S 0 0) (hn : zN S 0 0 = nn) (h1 : ∀ j i, j < nn → i < (zQ S j).length → x = nI j → y = nI i → K 1 (g_uI M 9 0 4 0)) (h0 : (¬ zr x nn ∨ ∃ j, j < nn ∧ x = nI j ∧ ¬ zr y (zQ S j).length) → K 0 (g_uI M 9 0 4 1)) : wp_X9_hasElement 0 x y M K := by
  have hn2 : nn ≤ 12 := by rw [← hn]; exact hi.1.1.2
  unfold wp_X9_hasElement
  refine zm_isNode (n := nn) (by rw [zm_nodes h, hn]) (by omega) (fun c => ?_) (fun c => ?_)
  · rw [if_neg (by decide)]
    obtain ⟨j, hj, rfl⟩ := zr_of c (by omega)
    have hl := zlen64 hi (x := j) (by omega)
    rw [zm_nd, zad]
    refine ⟨vp_in_nI (by omega) (by omega), ?_⟩
    rw [nI_clamp (by omega), (h.2.2.2.1 j hj).1, zInv_lenR hi (by omega)]
    refine zm_inr (by omega) (fun cy => ?_) (fun cy => ?_)
    · obtain ⟨i, hii, rfl⟩ := zr_of cy (by omega)
      rw [if_neg (by decide)]
      unfold wp_X9_hasElement_b36
      rw [if_neg (by decide)]
      unfold wp_X9_hasElement_b47
      intro M1 e1
      rw [e1]
      exact ⟨znb1, h1 j i hj hii rfl rfl⟩
    · rw [if_pos rfl]
      unfold wp_X9_hasElement_b35 wp_X9_hasElement_b36
      rw [if_pos rfl]
      unfold wp_X9_hasElement_b47
      intro M1 e1
      rw [e1]
      exact ⟨znb0, h0 (Or.inr ⟨j, hj, rfl, cy⟩)⟩
  · rw [if_pos rfl]
    unfold wp_X9_hasElement_b35 wp_X9_hasElement_b36
    rw [if_pos rfl]
    unfold wp_X9_hasElement_b47
    intro M1 e1
    rw [e1]
    exact ⟨znb0, h0 (Or.inl c)⟩
theorem zel_no {S : zW} {x y : Int32} (hn : zN S 0 0 ≤ 12) (hl : ∀ j, j < zN S 0 0 → (zQ S j).length ≤ 64) (q : ¬ zr x (zN S 0 0) ∨ ∃ j, j < zN S 0 0 ∧ x = nI j ∧ ¬ zr y (zQ S j).length) : ∀ j i, j < zN S 0 0 → i < (zQ S j).length → x = nI j → y = nI i → False := by
  intro j i hj hi ex ey
  rcases q with q | ⟨j', hj', ex', q⟩
  · exact q (by rw [ex]; exact zr_nI hj (by omega))
  · have := hl j hj
    have e : j = j' := (nI_eq (by omega) (by omega)).mp (ex.symm.trans ex')
    subst e
    exact q (by rw [ey]; exact zr_nI hi (by omega))
theorem zq_queueItem {t : gT} {M : gM} {c : Nat} {x y : Int32} {V : gM → Prop → Prop} {Nx : gM → Prop} (hc : c < 10000) (h : zT M c) (hV : ∀ (M : gM) (p : Prop), p → V M p) (hN : ∀ M', zT M' c → Nx M') : wp_L_queueItem t 0 x y 0 M (fun r M1 => V M1 (wp_X9_queueItem 0 x y M1 (fun rb M2 => zFin Nx r rb.toInt64 M2))) := by
  have h' := h
  obtain ⟨S, ks, tx, er, h1, h2, h3⟩ := h'
  have hn := (zOK_n h3.1).1
  have hi := h3.1.1
  have h20 := h3.1.2.1.2.1
  have hl : ∀ j, j < zN S 0 0 → (zQ S j).length ≤ 64 := fun j hj => by have := zlen64 hi hj; omega
  unfold wp_L_queueItem wp_X8_queueItem
  refine zx_needElement h1.1 hi rfl (fun j i hj hii ex ey => ?_) (fun q => ?_)
  · subst ex; subst ey
    have := hl j hj
    refine ⟨zcl12 (by omega), vp_in_nI (by omega) (by omega), zvi (by omega) (by omega), ?_⟩
    intro M1 e1
    refine hV _ _ ?_
    have e3 : M1.2 47 0 = M.2 47 0 := ((zout_X e1) 47 0 (by omega)).2
    unfold wp_X9_queueItem
    refine zm_hasElement (S := S) (by rw [e3]; exact h2.1) hi rfl (fun j' i' hj' hi' ex ey => ?_) (fun q => (zel_no hn hl q j i hj hii rfl rfl).elim)
    rw [if_neg (by decide)]
    obtain ⟨e, he⟩ : ∃ e, (zQ S j)[i]? = some e := ⟨(zQ S j)[i], List.getElem?_eq_getElem hii⟩
    refine zm_place (S := S) (by rw [zuI2, e3]; exact h2.1) hi rfl rfl (by omega) hj he (fun k hk => ?_)
    have hkl := (List.getElem?_eq_some_iff.mp hk).1
    rw [zInv_lenR hi hj] at hkl
    rw [zm_el, zad]
    refine ⟨vp_in_nI (by omega) (by omega), ?_⟩
    rw [nI_clamp (by omega), zuI2, e3, ((h2.1.2.2.2.1 j hj).2 k e hk).1, lN_i, e1]
    refine zans h hN ?_
    rw [nI_clamp (by omega), nI_clamp (by omega), ((h1.1.2.2.2.1 j hj).2 i e he).1]
  · rw [if_pos rfl]
    refine hV _ _ ?_
    unfold wp_X9_queueItem
    refine zm_hasElement (S := S) h2.1 hi rfl (fun j' i' hj' hi' ex ey => (zel_no hn hl q j' i' hj' hi' ex ey).elim) (fun _ => ?_)
    rw [if_pos rfl]
    exact zthr h hN (by decide)
theorem zq_queueRank {t : gT} {M : gM} {c : Nat} {x y : Int32} {V : gM → Prop → Prop} {Nx : gM → Prop} (hc : c < 10000) (h : zT M c) (hV : ∀ (M : gM) (p : Prop), p → V M p) (hN : ∀ M', zT M' c → Nx M') : wp_L_queueRank t 0 x y 0 M (fun r M1 => V M1 (wp_X9_queueRank 0 x y M1 (fun rb M2 => zFin Nx r rb M2))) := by
  have h' := h
  obtain ⟨S, ks, tx, er, h1, h2, h3⟩ := h'
  have hn := (zOK_n h3.1).1
  have hi := h3.1.1
  have h20 := h3.1.2.1.2.1
  have hl : ∀ j, j < zN S 0 0 → (zQ S j).length ≤ 64 := fun j hj => by have := zlen64 hi hj; omega
  unfold wp_L_queueRank wp_X8_queueRank
  refine zx_needElement h1.1 hi rfl (fun j i hj hii ex ey => ?_) (fun q => ?_)
  · subst ex; subst ey
    have := hl j hj
    refine ⟨zcl12 (by omega), vp_in_nI (by omega) (by omega), zvi (by omega) (by omega), ?_⟩
    intro M1 e1
    refine hV _ _ ?_
    have e3 : M1.2 47 0 = M.2 47 0 := ((zout_X e1) 47 0 (by omega)).2
    unfold wp_X9_queueRank
    refine zm_hasElement (S := S) (by rw [e3]; exact h2.1) hi rfl (fun j' i' hj' hi' ex ey => ?_) (fun q => (zel_no hn hl q j i hj hii rfl rfl).elim)
    rw [if_neg (by decide)]
    obtain ⟨e, he⟩ : ∃ e, (zQ S j)[i]? = some e := ⟨(zQ S j)[i], List.getElem?_eq_getElem hii⟩
    refine zm_place (S := S) (by rw [zuI2, e3]; exact h2.1) hi rfl rfl (by omega) hj he (fun k hk => ?_)
    have hkl := (List.getElem?_eq_some_iff.mp hk).1
    rw [zInv_lenR hi hj] at hkl
    rw [zm_el, zad]
    refine ⟨vp_in_nI (by omega) (by omega), ?_⟩
    rw [nI_clamp (by omega), zuI2, e3, ((h2.1.2.2.2.1 j hj).2 k e hk).2.1, e1]
    refine zans h hN ?_
    rw [nI_clamp (by omega), nI_clamp (by omega), ((h1.1.2.2.2.1 j hj).2 i e he).2.1]
  · rw [if_pos rfl]
    refine hV _ _ ?_
    unfold wp_X9_queueRank
    refine zm_hasElement (S := S) h2.1 hi rfl (fun j' i' hj' hi' ex ey => (zel_no hn hl q j' i' hj' hi' ex ey).elim) (fun _ => ?_)
    rw [if_pos rfl]
    exact zthr h hN (by decide)
