/-! setting -/
theorem zOK_set {S : zW} {c i j v : Nat} (h : zOK S c) (hi : (i = 3 ∧ j < 16 ∧ 1 ≤ v ∧ v ≤ 100) ∨ (i = 14 ∧ v ≤ 100) ∨ (i = 4 ∧ v < zN S 0 0 ∧ zN S 19 v = 0) ∨ (i = 2 ∧ j = 0 ∧ 1 ≤ v ∧ v ≤ 9999)) : zOK (zsN S i j v) c := by
  obtain ⟨⟨hP, hF, hK, hQ, hC, hH, hW⟩, hB, hD⟩ := h
  have e : ∀ a b, a ≠ i → zN (zsN S i j v) a b = zN S a b := fun a b q => by rw [zN_sN, if_neg (fun z => q z.1)]
  have ne : i ≠ 0 ∧ i ≠ 1 ∧ i ≠ 5 ∧ i ≠ 6 ∧ i ≠ 7 ∧ i ≠ 8 ∧ i ≠ 9 ∧ i ≠ 10 ∧ i ≠ 11 ∧ i ≠ 12 ∧ i ≠ 13 ∧ i ≠ 15 ∧ i ≠ 16 ∧ i ≠ 17 ∧ i ≠ 18 ∧ i ≠ 19 ∧ i ≠ 20 ∧ i ≠ 21 ∧ i ≠ 22 ∧ i ≠ 23 ∧ i ≠ 24 := by omega
  have e24 : zN (zsN S i j v) 24 = zN S 24 := funext (fun b => e 24 b (by omega))
  have n0 := e 0 0 (by omega)
  refine ⟨⟨?_, ?_, ?_, ?_, ?_, ?_, ?_⟩, ?_, ?_⟩
  · obtain ⟨p1, p2, p3, p4, p5⟩ := hP
    refine ⟨by rw [n0]; exact p1, fun x a b => ?_, fun x a => ?_, by rw [e 9 0 (by omega)]; exact p4, fun x a => ?_⟩
    · rw [n0] at b
      rw [e 18 x (by omega)]; exact p2 x a b
    · rw [n0] at a
      rw [e 19 x (by omega), p3 x a]
      unfold zcnt
      rw [n0]
      exact zsum_congr (fun y _ => by rw [e 18 y (by omega)])
    · rw [n0] at a
      rw [e 8 x (by omega), e 9 x (by omega), e 10 x (by omega)]
      refine ⟨?_, (p5 x a).2⟩
      unfold zprog
      rw [e 11 x (by omega), e 12 x (by omega), e 13 x (by omega), e 23 0 (by omega), e24]
      exact (p5 x a).1
  · obtain ⟨p1, p2, p3⟩ := hF
    refine ⟨fun f hf => ?_, fun y hy => ?_, ?_⟩
    · rw [n0, zN_sN, zN_sN, zN_sN]
      have := p1 f hf
      by_cases c3 : 3 = i ∧ f = j
      · rw [if_pos c3, if_neg (show ¬ (4 = i ∧ f = j) by omega), if_neg (by omega)]
        refine ⟨by omega, by omega, this.2.2.1, this.2.2.2⟩
      · rw [if_neg c3]
        by_cases c4 : 4 = i ∧ f = j
        · rw [if_pos c4, if_neg (by omega)]
          refine ⟨this.1, this.2.1, by omega, ?_⟩
          rcases hi with q | q | q | q
          · omega
          · omega
          · exact q.2.2
          · omega
        · rw [if_neg c4, if_neg (by omega)]; exact this
    · rw [n0] at hy
      rw [zN_sN]
      have := p2 y hy
      split <;> omega
    · rw [zN_sN]
      split <;> omega
  · obtain ⟨p1, p2⟩ := hK
    have n1 := e 1 0 (by omega)
    refine ⟨by rw [n1]; exact p1, fun p hp => ?_⟩
    rw [n1] at hp
    rw [e 15 p (by omega), e 16 p (by omega), e 17 p (by omega)]; exact p2 p hp
  · intro x hx
    rw [n0] at hx
    obtain ⟨q1, q2, q3, q4⟩ := hQ x hx
    refine ⟨q1, q2, by rw [e 8 x (by omega)]; exact q3, fun b hb => ?_⟩
    obtain ⟨a1, a2, a3, a4⟩ := q4 b hb
    refine ⟨by rw [e 1 0 (by omega)]; exact a1, by rw [e 20 0 (by omega)]; exact a2, ?_, ?_⟩
    · rw [a3]
      unfold ztie zkey
      rw [e 8 x (by omega), e 16 _ (by omega), e 19 x (by omega), e 15 _ (by omega)]
    · rw [e 19 x (by omega), n0, e 18 _ (by omega)]; exact a4
  · intro y a b
    rw [n0] at b
    have := hC y a b
    unfold zci zch at this ⊢
    rw [e 18 y (by omega)]; exact this
  · intro b hb
    rw [n0, e 1 0 (by omega)]; exact hH b hb
  · unfold zwait at hW ⊢
    rw [e 21 0 (by omega), n0]
    have : zsum (zlf (zsN S i j v)) (zN S 0 0) = zsum (zlf S) (zN S 0 0) := zsum_congr (fun b _ => by
      unfold zlf
      rw [e 19 b (by omega)]; rfl)
    rw [this]; exact hW
  · refine ⟨⟨hB.1.1, fun x hx => ?_, hB.1.2.2⟩, by rw [e 20 0 (by omega)]; exact hB.2.1, fun f hf => ?_, hB.2.2.2⟩
    · rw [n0] at hx; exact hB.1.2.1 x hx
    · rw [e 5 f (by omega), e 6 f (by omega), e 7 f (by omega)]; exact hB.2.2.1 f hf
  · intro p hp
    rw [e 1 0 (by omega)] at hp
    rw [e 22 p (by omega)]
    rcases hD p hp with q | q
    · refine Or.inl ⟨q.1, q.2.1, ?_⟩
      obtain ⟨y, a1, a2, a3⟩ := q.2.2
      exact ⟨y, by rw [n0]; exact a1, by rw [e 19 y (by omega)]; exact a2, a3⟩
    · exact Or.inr q
/-- both have set the same number -/
theorem zset_fin {M M1 M2 M3 : gM} {c i j v : Nat} {S : zW} {ks : List zW} {tx : List Nat} {er : Nat → Int32} {Nx : gM → Prop} {r : Int64} (h1 : zTc M S ks tx er) (h2 : zTm M S ks tx er) (h3 : zTp S ks tx c) (hi : (i = 3 ∧ j < 16 ∧ 1 ≤ v ∧ v ≤ 100) ∨ (i = 14 ∧ v ≤ 100) ∨ (i = 4 ∧ v < zN S 0 0 ∧ zN S 19 v = 0) ∨ (i = 2 ∧ j = 0 ∧ 1 ≤ v ∧ v ≤ 9999)) (hj : i = 14 → j < 12) (hj4 : i = 4 → j < 16) (e1 : M1 = g_uI M (zcK i) (zcO i 0 j) (zcS i j) (nI v)) (e2 : M2 = g_uL M1 59 0 (0 : Int32).toNatClampNeg r) (e3 : M3 = g_uL (g_uI M2 9 0 4 0) 47 0 (zmA i j) (lN v)) (hN : ∀ M', zT M' c → Nx M') : zFin Nx 0 r M3 := by
  have hp : zOK (zsN S i j v) c := zOK_set h3.1 hi
  have n0 : zN (zsN S i j v) 0 0 = zN S 0 0 := by rw [zN_sN, if_neg (by omega)]
  have n1 : zN (zsN S i j v) 1 0 = zN S 1 0 := by rw [zN_sN, if_neg (by omega)]
  have hn := zOK_n h3.1
  have h3' : zTp (zsN S i j v) ks tx c := ⟨hp, h3.2⟩
  have hc1 : zTc M1 (zsN S i j v) ks tx er := by
    refine zTc_now (S' := zsN S i j v) h3 h1 ?_
    rw [n0, n1, e1]
    exact zCW_uN (by omega) (by omega) (by omega) (by omega) hj ⟨zF_refl, h1.1⟩
  have hm1 : zTm M1 S ks tx er := zTm_sM h2 (zsM_F (w := 0) (by rw [e1]; exact zF_uI zF_refl (zcN_in (by omega) hj)))
  have hc2 := zTc_X h3' hc1 (zout_X e2)
  have hm2 := zTm_u9 (v := 0) (zTm_X hm1 (zout_X e2))
  have hm3 : zTm M3 (zsN S i j v) ks tx er := by
    refine zTm_now (S' := zsN S i j v) hm2 ?_
    rw [n0, n1, e3]
    exact zMW_uN hn.1 hn.2 (by unfold zokM; omega) (by omega) ⟨zFM_refl, hm2.1⟩
  have hc3 : zTc M3 (zsN S i j v) ks tx er := by
    refine zTc_sC h3' hc2 (fun k o q => ?_)
    rw [e3]
    refine ⟨(zsC_u9 (M := M2) (i := 4) (v := 0) k o q).1, ?_⟩
    show (if k = 47 ∧ o = 0 then _ else M2.2 k o) = _
    rw [if_neg (by omega)]
  refine zfin_0 ?_ ?_ (hN _ ⟨_, ks, tx, er, hc3, hm3, h3'⟩)
  · rw [e3]; exact zth (M := M2) (v := 0)
  · rw [e3, zuL, if_neg (by omega), zuI2, e2, zcl0, zuL, if_pos ⟨rfl, rfl, rfl⟩]
theorem zx_needWeight {x : Int32} {M : gM} {K : gM → Prop} {KX : Nat → gM → Prop} (h1 : ∀ v, x = nI v → 1 ≤ v → v ≤ 100 → K M) (h0 : ¬ (1 ≤ x.toInt ∧ x.toInt ≤ 100) → KX 0 M) : wp_X8_needWeight x M K KX := by
  have l1 : (1 : Int32).toInt = 1 := by decide
  have l100 : (100 : Int32).toInt = 100 := by decide
  unfold wp_X8_needWeight wp_X8_needWeight_b11
  by_cases c : 1 ≤ x.toInt ∧ x.toInt ≤ 100
  · obtain ⟨j, hj, rfl⟩ := zr_of (x := x) (n := 101) ⟨by omega, by omega⟩ (by omega)
    rw [nI_toInt (by omega)] at c
    rw [if_neg (zk_nlt (c := 1) (a := 1) rfl (by omega) (by omega)), if_pos (zk_le (c := 100) (a := 100) rfl (by omega) (by omega))]
    exact h1 j rfl (by omega) (by omega)
  · by_cases c1 : x < 1
    · rw [if_pos c1]; exact h0 c
    · rw [if_neg c1, if_neg (fun q => c ?_)]
      · exact h0 c
      · rw [Int32.lt_iff_toInt_lt, l1] at c1
        rw [Int32.le_iff_toInt_le, l100] at q
        omega
theorem zm_sets {a : Nat} {x y : Int32} {M : gM} {K : Int32 → gM → Prop} (hx : x = nI a) (ha : a < 7600) (hK : ∀ M', M' = g_uL M 47 0 a y.toInt64 → K ((M.2 47 0 a).toInt32) M') : wp_X9_sets 0 x y M K := by
  subst hx
  unfold wp_X9_sets
  refine ⟨vp_in_nI ha (by omega), ?_⟩
  intro n7 e7
  refine ⟨vp_in_nI ha (by omega), ?_⟩
  intro M1 e1
  rw [nI_clamp (by omega)] at e7 e1
  rw [e7]
  exact hK M1 e1
theorem zq_setFlowWeight {t : gT} {M : gM} {c : Nat} {x y : Int32} {V : gM → Prop → Prop} {Nx : gM → Prop} (h : zT M c) (hV : ∀ (M : gM) (p : Prop), p → V M p) (hN : ∀ M', zT M' c → Nx M') : wp_L_setFlowWeight t 0 x y 0 M (fun r M1 => V M1 (wp_X9_setFlowWeight 0 x y M1 (fun rb M2 => zFin Nx r rb.toInt64 M2))) := by
  have h' := h
  obtain ⟨S, ks, tx, er, h1, h2, h3⟩ := h'
  have f1 : (1 : Int64).toInt = 1 := by decide
  have f100 : (100 : Int64).toInt = 100 := by decide
  unfold wp_L_setFlowWeight wp_X8_setFlowWeight
  refine zx_needFlow (fun cc => ?_) (fun cc => ?_)
  · refine zx_needWeight (fun v ev v1 v2 => ?_) (fun cw => ?_)
    · subst ev
      obtain ⟨j, hj, rfl⟩ := zr_of cc (by omega)
      refine ⟨vp_in_nI (by omega) (by omega), ?_⟩
      intro n20 e20
      refine ⟨vp_in_nI (by omega) (by omega), ?_⟩
      intro M1 e1
      refine ⟨zvi (by omega) (by omega), ?_⟩
      intro M2 e2
      refine hV _ _ ?_
      rw [nI_clamp (by omega), zc_fweight h1.1 hj] at e20
      rw [nI_clamp (by omega)] at e1
      have e47 : M2.2 47 0 = M.2 47 0 := by rw [((zout_X e2) 47 0 (by omega)).2, e1]; rfl
      unfold wp_X9_setFlowWeight
      intro M3 e3
      refine zm_isFlow (fun _ => ?_) (fun q => absurd cc q)
      rw [if_neg (by decide)]
      refine zm_in (fun _ => ?_) (fun q => ?_)
      · rw [if_neg (by decide), zm_fl, zad]
        refine zm_sets rfl (by omega) (fun M4 e4 => ?_)
        rw [e3, zuI2, e47, zm_fweight h2.1 hj, lN_i, ← e20]
        rw [nI_l (by omega), e3] at e4
        exact zset_fin (i := 3) (j := j) (v := v) h1 h2 h3 (by omega) (by omega) (by omega) e1 e2 e4 hN
      · rw [f1, f100, nI_toInt (by omega)] at q; omega
    · show (if (0 : Nat) = 2 then _ else _)
      rw [if_neg (by decide), if_pos rfl]
      refine hV _ _ ?_
      unfold wp_X9_setFlowWeight
      intro M3 e3
      refine zm_isFlow (fun _ => ?_) (fun q => absurd cc q)
      rw [if_neg (by decide)]
      refine zm_in (fun q => ?_) (fun q => ?_)
      · rw [f1, f100] at q; exact absurd q cw
      · rw [if_pos rfl]
        unfold wp_X9_fails
        intro M4 e4
        rw [e4, e3]
        exact zthr (zT_9 h) hN (by decide)
  · rw [if_pos rfl]
    refine hV _ _ ?_
    unfold wp_X9_setFlowWeight
    intro M3 e3
    refine zm_isFlow (fun q => absurd q cc) (fun _ => ?_)
    rw [if_pos rfl]
    unfold wp_X9_fails
    intro M4 e4
    rw [e4, e3]
    exact zthr (zT_9 h) hN (by decide)
theorem zq_setNodeWeight {t : gT} {M : gM} {c : Nat} {x y : Int32} {V : gM → Prop → Prop} {Nx : gM → Prop} (h : zT M c) (hV : ∀ (M : gM) (p : Prop), p → V M p) (hN : ∀ M', zT M' c → Nx M') : wp_L_setNodeWeight t 0 x y 0 M (fun r M1 => V M1 (wp_X9_setNodeWeight 0 x y M1 (fun rb M2 => zFin Nx r rb.toInt64 M2))) := by
  have h' := h
  obtain ⟨S, ks, tx, er, h1, h2, h3⟩ := h'
  have hn := (zOK_n h3.1).1
  have f1 : (1 : Int64).toInt = 1 := by decide
  have f100 : (100 : Int64).toInt = 100 := by decide
  unfold wp_L_setNodeWeight wp_X8_setNodeWeight
  refine zx_needNode h1.1 rfl hn (fun cc => ?_) (fun cc => ?_)
  · refine zx_needWeight (fun v ev v1 v2 => ?_) (fun cw => ?_)
    · subst ev
      obtain ⟨j, hj, rfl⟩ := zr_of cc (by omega)
      refine ⟨vp_in_nI (by omega) (by omega), ?_⟩
      intro n20 e20
      refine ⟨vp_in_nI (by omega) (by omega), ?_⟩
      intro M1 e1
      refine ⟨zvi (by omega) (by omega), ?_⟩
      intro M2 e2
      refine hV _ _ ?_
      rw [nI_clamp (by omega), zc_nweight h1.1 hj] at e20
      rw [nI_clamp (by omega)] at e1
      have e47 : M2.2 47 0 = M.2 47 0 := by rw [((zout_X e2) 47 0 (by omega)).2, e1]; rfl
      unfold wp_X9_setNodeWeight
      intro M3 e3
      refine zm_isNode (n := zN S 0 0) (by rw [e3, zuI2, e47]; exact zm_nodes h2.1) (by omega) (fun _ => ?_) (fun q => absurd cc q)
      rw [if_neg (by decide)]
      refine zm_in (fun _ => ?_) (fun q => ?_)
      · rw [if_neg (by decide), zm_nd, zad]
        refine zm_sets rfl (by omega) (fun M4 e4 => ?_)
        rw [e3, zuI2, e47, zm_nweight h2.1 hj, lN_i, ← e20]
        rw [nI_l (by omega), e3] at e4
        exact zset_fin (i := 14) (j := j) (v := v) h1 h2 h3 (by omega) (by omega) (by omega) e1 e2 e4 hN
      · rw [f1, f100, nI_toInt (by omega)] at q; omega
    · show (if (0 : Nat) = 2 then _ else _)
      rw [if_neg (by decide), if_pos rfl]
      refine hV _ _ ?_
      unfold wp_X9_setNodeWeight
      intro M3 e3
      refine zm_isNode (n := zN S 0 0) (by rw [e3]; exact zm_nodes h2.1) (by omega) (fun _ => ?_) (fun q => absurd cc q)
      rw [if_neg (by decide)]
      refine zm_in (fun q => ?_) (fun q => ?_)
      · rw [f1, f100] at q; exact absurd q cw
      · rw [if_pos rfl]
        unfold wp_X9_fails
        intro M4 e4
        rw [e4, e3]
        exact zthr (zT_9 h) hN (by decide)
  · rw [if_pos rfl]
    refine hV _ _ ?_
    unfold wp_X9_setNodeWeight
    intro M3 e3
    refine zm_isNode (n := zN S 0 0) (by rw [e3]; exact zm_nodes h2.1) (by omega) (fun q => absurd q cc) (fun _ => ?_)
    rw [if_pos rfl]
    unfold wp_X9_fails
    intro M4 e4
    rw [e4, e3]
    exact zthr (zT_9 h) hN (by decide)
theorem zq_assign {t : gT} {M : gM} {c : Nat} {x y : Int32} {V : gM → Prop → Prop} {Nx : gM → Prop} (h : zT M c) (hV : ∀ (M : gM) (p : Prop), p → V M p) (hN : ∀ M', zT M' c → Nx M') : wp_L_assign t 0 x y 0 M (fun r M1 => V M1 (wp_X9_assign 0 x y M1 (fun rb M2 => zFin Nx r rb.toInt64 M2))) := by
  have h' := h
  obtain ⟨S, ks, tx, er, h1, h2, h3⟩ := h'
  have hn := (zOK_n h3.1).1
  have hi := h3.1.1
  unfold wp_L_assign wp_X8_assign
  refine zx_needFlow (fun cc => ?_) (fun cc => ?_)
  · refine zx_needNode h1.1 rfl hn (fun cy => ?_) (fun cy => ?_)
    · obtain ⟨j, hj, rfl⟩ := zr_of cc (by omega)
      obtain ⟨v, hv, rfl⟩ := zr_of cy (by omega)
      have hcc := zcc_lt hi hv
      refine zx_isLeaf h1.1 rfl hn hv (by omega) ?_
      by_cases cl : zN S 19 v = 0
      · rw [if_pos cl, if_neg (by decide)]
        refine ⟨vp_in_nI (by omega) (by omega), ?_⟩
        intro n20 e20
        refine ⟨vp_in_nI (by omega) (by omega), ?_⟩
        intro M1 e1
        refine ⟨zvi (by omega) (by omega), ?_⟩
        intro M2 e2
        refine hV _ _ ?_
        rw [nI_clamp (by omega), zc_leaf h1.1 hj] at e20
        rw [nI_clamp (by omega)] at e1
        have e47 : M2.2 47 0 = M.2 47 0 := by rw [((zout_X e2) 47 0 (by omega)).2, e1]; rfl
        unfold wp_X9_assign
        intro M3 e3
        have e48 : M3.2 47 0 = M.2 47 0 := by rw [e3]; exact e47
        refine zm_isFlow (fun _ => ?_) (fun q => absurd cc q)
        rw [if_neg (by decide)]
        refine zm_isNode (n := zN S 0 0) (by rw [e48]; exact zm_nodes h2.1) (by omega) (fun _ => ?_) (fun q => absurd cy q)
        rw [if_neg (by decide)]
        refine zm_isLeaf (S := S) (by rw [e48]; exact h2.1) hi.1 rfl hv ?_
        rw [if_pos cl, if_neg (by decide), zm_fl, zad]
        refine zm_sets rfl (by omega) (fun M4 e4 => ?_)
        rw [e48, zm_leaf h2.1 hj, lN_i, ← e20]
        rw [nI_l (by omega), e3] at e4
        exact zset_fin (i := 4) (j := j) (v := v) h1 h2 h3 (by omega) (by omega) (by omega) e1 e2 e4 hN
      · rw [if_neg cl, if_pos rfl]
        show (if (0 : Nat) = 2 then _ else _)
        rw [if_neg (by decide), if_pos rfl]
        refine hV _ _ ?_
        unfold wp_X9_assign
        intro M3 e3
        have e48 : M3.2 47 0 = M.2 47 0 := by rw [e3]; rfl
        refine zm_isFlow (fun _ => ?_) (fun q => absurd cc q)
        rw [if_neg (by decide)]
        refine zm_isNode (n := zN S 0 0) (by rw [e48]; exact zm_nodes h2.1) (by omega) (fun _ => ?_) (fun q => absurd cy q)
        rw [if_neg (by decide)]
        refine zm_isLeaf (S := S) (by rw [e48]; exact h2.1) hi.1 rfl hv ?_
        rw [if_neg cl, if_pos rfl]
        unfold wp_X9_fails
        intro M4 e4
        rw [e4, e3]
        exact zthr (zT_9 h) hN (by decide)
    · rw [if_pos rfl]
      refine hV _ _ ?_
      unfold wp_X9_assign
      intro M3 e3
      refine zm_isFlow (fun _ => ?_) (fun q => absurd cc q)
      rw [if_neg (by decide)]
      refine zm_isNode (n := zN S 0 0) (by rw [e3]; exact zm_nodes h2.1) (by omega) (fun q => absurd q cy) (fun _ => ?_)
      rw [if_pos rfl]
      unfold wp_X9_assign_b20 wp_X9_fails
      intro M4 e4
      rw [e4, e3]
      exact zthr (zT_9 h) hN (by decide)
  · rw [if_pos rfl]
    refine hV _ _ ?_
    unfold wp_X9_assign
    intro M3 e3
    refine zm_isFlow (fun q => absurd q cc) (fun _ => ?_)
    rw [if_pos rfl]
    unfold wp_X9_assign_b20 wp_X9_fails
    intro M4 e4
    rw [e4, e3]
    exact zthr (zT_9 h) hN (by decide)
theorem zq_setLinkRate {t : gT} {M : gM} {c : Nat} {x : Int32} {V : Prop} {Nx : gM → Prop} (h : zT M c) (hV : V) (hN : ∀ M', zT M' c → Nx M') : wp_L_setLinkRate t 0 x 0 M (fun r M1 => V ∧ wp_X9_setLinkRate 0 x M1 (fun rb M2 => zFin Nx r rb.toInt64 M2)) := by
  have h' := h
  obtain ⟨S, ks, tx, er, h1, h2, h3⟩ := h'
  have f1 : (1 : Int64).toInt = 1 := by decide
  have f9 : (9999 : Int64).toInt = 9999 := by decide
  have l1 : (1 : Int32).toInt = 1 := by decide
  have l9 : (9999 : Int32).toInt = 9999 := by decide
  unfold wp_L_setLinkRate wp_X8_setLinkRate wp_X8_setLinkRate_b12
  have neg : ¬ (1 ≤ x.toInt ∧ x.toInt ≤ 9999) → (if (0 : Nat) = 0 then V ∧ wp_X9_setLinkRate 0 x M (fun rb M2 => zFin Nx 1 rb.toInt64 M2) else False) := fun cw => by
    rw [if_pos rfl]
    refine ⟨hV, ?_⟩
    unfold wp_X9_setLinkRate
    intro M3 e3
    refine zm_in (fun q => ?_) (fun q => ?_)
    · rw [f1, f9] at q; exact absurd q cw
    · rw [if_pos rfl]
      unfold wp_X9_fails
      intro M4 e4
      rw [e4, e3]
      exact zthr (zT_9 h) hN (by decide)
  by_cases cw : 1 ≤ x.toInt ∧ x.toInt ≤ 9999
  · obtain ⟨v, hv, rfl⟩ := zr_of (x := x) (n := 10000) ⟨by omega, by omega⟩ (by omega)
    rw [nI_toInt (by omega)] at cw
    rw [if_neg (zk_nlt (c := 1) (a := 1) rfl (by omega) (by omega)), if_pos (zk_le (c := 9999) (a := 9999) rfl (by omega) (by omega))]
    intro n29 e29 M1 e1
    refine ⟨zvi (by omega) (by omega), ?_⟩
    intro M2 e2
    refine ⟨hV, ?_⟩
    rw [zc_link h1.1] at e29
    have e47 : M2.2 47 0 = M.2 47 0 := by rw [((zout_X e2) 47 0 (by omega)).2, e1]; rfl
    unfold wp_X9_setLinkRate
    intro M3 e3
    refine zm_in (fun _ => ?_) (fun q => ?_)
    · rw [if_neg (by decide)]
      refine zm_sets (a := 1) rfl (by omega) (fun M4 e4 => ?_)
      rw [e3, zuI2, e47, zm_link h2.1, lN_i, ← e29]
      rw [nI_l (by omega), e3] at e4
      exact zset_fin (i := 2) (j := 0) (v := v) h1 h2 h3 (by omega) (by omega) (by omega) e1 e2 e4 hN
    · rw [f1, f9, nI_toInt (by omega)] at q; omega
  · by_cases c1 : x < 1
    · rw [if_pos c1]; exact neg cw
    · rw [if_neg c1, if_neg (fun q => cw ?_)]
      · exact neg cw
      · rw [Int32.lt_iff_toInt_lt, l1] at c1
        rw [Int32.le_iff_toInt_le, l9] at q
        omega
