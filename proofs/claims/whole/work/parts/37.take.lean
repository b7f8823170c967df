/-! the order, once more -/
theorem zah_irr {r : Nat} {a : zE} : zah r a a = false := by
  unfold zah
  rw [if_pos rfl, if_pos rfl]
  split <;> simp
theorem zah_asym {r : Nat} {a b : zE} (h : zah r a b = true) : zah r b a = false := by
  unfold zah at h ⊢
  by_cases c1 : a.2.1 = b.2.1
  · rw [if_pos c1] at h
    rw [if_pos c1.symm]
    by_cases c2 : a.2.2.1 = b.2.2.1
    · rw [if_pos c2] at h
      rw [if_pos c2.symm]
      by_cases c3 : r = 1
      · rw [if_pos c3] at h ⊢
        simp only [decide_eq_true_eq, decide_eq_false_iff_not] at h ⊢
        omega
      · rw [if_neg c3] at h ⊢
        simp only [decide_eq_true_eq, decide_eq_false_iff_not] at h ⊢
        omega
    · rw [if_neg c2] at h
      rw [if_neg (fun q => c2 q.symm)]
      simp only [decide_eq_true_eq, decide_eq_false_iff_not] at h ⊢
      omega
  · rw [if_neg c1] at h
    rw [if_neg (fun q => c1 q.symm)]
    simp only [decide_eq_true_eq, decide_eq_false_iff_not] at h ⊢
    rw [zl_lt] at h ⊢
    omega
theorem zcount_sorted {r : Nat} : ∀ {l : List zE} {m : Nat} {e : zE}, l.Pairwise (fun a b => zah r a b = true) → l[m]? = some e → l.countP (fun b => zah r b e) = m
  | [], m, e, _, h => by simp at h
  | a :: l, 0, e, hp, h => by
    simp at h
    subst h
    rw [List.countP_cons, zah_irr]
    rw [List.pairwise_cons] at hp
    have : l.countP (fun b => zah r b a) = 0 := List.countP_eq_zero.mpr (fun b hb => by
      rw [zah_asym (hp.1 b hb)]; simp)
    rw [this]; rfl
  | a :: l, m + 1, e, hp, h => by
    rw [List.pairwise_cons] at hp
    have h' : l[m]? = some e := by simpa using h
    rw [List.countP_cons, zcount_sorted hp.2 h', hp.1 e (List.mem_of_getElem? h')]; rfl
theorem zdist {S : zW} {x : Nat} (h : zque S x) : (zQ S x).Pairwise (fun a b => a.2.2.2.1 ≠ b.2.2.2.1) := by
  have h1 : (zR S x).Pairwise (fun a b => a.2.2.2.1 ≠ b.2.2.2.1) := h.2.1.imp (fun q => by omega)
  exact (h.1.pairwise_iff (fun q => fun z => q z.symm)).mp h1
theorem zfilt_none {l : List zE} {t : Nat} (h : ∀ b ∈ l, b.2.2.2.1 ≠ t) : l.filter (fun b => !(b.2.2.2.1 == t)) = l := List.filter_eq_self.mpr (fun b hb => by simp [h b hb])
theorem zfilt_erase : ∀ {l : List zE} {i : Nat} {e : zE}, l.Pairwise (fun a b => a.2.2.2.1 < b.2.2.2.1) → l[i]? = some e → l.filter (fun b => !(b.2.2.2.1 == e.2.2.2.1)) = l.eraseIdx i
  | [], i, e, _, h => by simp at h
  | a :: l, 0, e, hp, h => by
    simp at h
    subst h
    rw [List.pairwise_cons] at hp
    rw [List.filter_cons]
    simp only [beq_self_eq_true, Bool.not_true, Bool.false_eq_true, if_false, List.eraseIdx_cons_zero]
    exact zfilt_none (fun b hb => by have := hp.1 b hb; omega)
  | a :: l, i + 1, e, hp, h => by
    rw [List.pairwise_cons] at hp
    have h' : l[i]? = some e := by simpa using h
    have hl := hp.1 e (List.mem_of_getElem? h')
    have hne : ¬ a.2.2.2.1 = e.2.2.2.1 := by omega
    rw [List.filter_cons]
    simp only [hne, beq_eq_false_iff_ne, ne_eq, not_false_eq_true, List.eraseIdx_cons_succ]
    rw [← zfilt_erase hp.2 h']
    simp [hne]
/-! taking the first keeps what always holds -/
theorem ztake_eq {S : zW} {x : Nat} {e : zE} {l : List zE} (h : zQ S x = e :: l) : ztake S x = zsQ (zsL S 4 x e.2.1) x l ((zR S x).filter (fun b => !(b.2.2.2.1 == e.2.2.2.1))) ∧ zitem S x = e.1 := by
  unfold ztake zitem
  rw [h]
  exact ⟨rfl, rfl⟩
theorem ztk_N {S : zW} {x : Nat} : zN (ztake S x) = zN S ∧ zD (ztake S x) = zD S := by
  unfold ztake
  split <;> exact ⟨rfl, rfl⟩
theorem ztk_Q {S : zW} {x y : Nat} : zQ (ztake S x) y = if y = x then (zQ S x).tail else zQ S y := by
  unfold ztake
  split
  · rename_i h
    by_cases c : y = x
    · rw [if_pos c, c, h]; rfl
    · rw [if_neg c]
  · rename_i e l h
    rw [zQ_sQ, h]; rfl
theorem zcons_sub {S : zW} {x : Nat} {e : zE} {l : List zE} (h : zInv S x 0) (hx : x < zN S 0 0) (hq : zQ S x = e :: l) : (zN S 19 x = 0 → zInv (ztake S x) 0 1) ∧ (zN S 19 x ≠ 0 → zInv (ztake S x) e.1 0) ∧ (zN S 19 x ≠ 0 → x < e.1 ∧ e.1 < zN S 0 0) ∧ (zN S 19 x = 0 → e.1 < zN S 1 0) := by
  obtain ⟨hP, hF, hK, hQ, hC, hH, hW⟩ := h
  have hel := (hQ x hx).2.2.2 e (by rw [hq]; exact List.mem_cons_self)
  have hq' : ∀ y, y < zN S 0 0 → zque (ztake S x) y := fun y hy => by
    obtain ⟨q1, q2, q3, q4⟩ := hQ y hy
    have ed := zdist (hQ y hy)
    by_cases c : y = x
    · subst c
      rw [(ztake_eq hq).1]
      unfold zque
      rw [zR_sQ, zQ_sQ, if_pos rfl, if_pos rfl]
      rw [hq] at q1 q3 q4 ed
      rw [List.pairwise_cons] at q3 ed
      refine ⟨?_, q2.filter _, q3.2, fun b hb => q4 b (List.mem_cons_of_mem _ hb)⟩
      have := q1.filter (fun b => !(b.2.2.2.1 == e.2.2.2.1))
      rw [List.filter_cons] at this
      simp only [beq_self_eq_true, Bool.not_true, Bool.false_eq_true, if_false] at this
      rw [zfilt_none (fun b hb => fun z => ed.1 b hb z.symm)] at this
      exact this
    · rw [(ztake_eq hq).1]
      unfold zque
      rw [zR_sQ, zQ_sQ, if_neg c, if_neg c]
      exact ⟨q1, q2, q3, q4⟩
  have hcl : ∀ y, (zQ (ztake S x) y).length + (if y = x then 1 else 0) = (zQ S y).length := fun y => by
    rw [ztk_Q]
    by_cases c : y = x
    · subst c
      rw [if_pos rfl, if_pos rfl, hq]; rfl
    · rw [if_neg c, if_neg c]; rfl
  have hci : ∀ y, 0 < y → y < zN S 0 0 → zci (ztake S x) y + (if zN S 18 y = x ∧ y = e.1 then 1 else 0) = zci S y := fun y h0 hy => by
    unfold zci
    rw [ztk_N.1, ztk_Q]
    by_cases c : zN S 18 y = x
    · rw [if_pos c, c, hq, List.countP_cons, List.tail_cons]
      by_cases c2 : y = e.1
      · rw [if_pos ⟨rfl, c2⟩, c2]; simp
      · rw [if_neg (fun q => c2 q.2)]
        have : ¬ e.1 = y := fun q => c2 q.symm
        simp [this]
    · rw [if_neg c, if_neg (fun q => c q.1)]; rfl
  have hch : ∀ y, zch (ztake S x) y = zch S y := fun y => by unfold zch; rw [ztk_N.2]
  have hp : zplan (ztake S x) := zplan_same (fun i j _ _ => by rw [ztk_N.1]) hP
  have hf : zflow (ztake S x) := zflow_same (fun i j _ _ => by rw [ztk_N.1]) hF
  have hk : zpkt (ztake S x) := zpkt_same (fun i j _ _ => by rw [ztk_N.1]) hK
  have hh : zheld (ztake S x) := fun b hb => by
    rw [ztk_N.2] at hb
    rw [ztk_N.1]; exact hH b hb
  unfold zwait at hW
  refine ⟨fun cl => ?_, fun cl => ?_, fun cl => ?_, fun cl => ?_⟩
  · refine ⟨hp, hf, hk, fun y hy => hq' y (by rw [ztk_N.1] at hy; exact hy), fun y h0 hy => ?_, hh, ?_⟩
    · rw [ztk_N.1] at hy
      have h1 := hC y h0 hy
      have h2 := hcl y
      have h3 := hci y h0 hy
      rw [hch y]
      have hn : ¬ (zN S 18 y = x ∧ y = e.1) := fun q => by
        have := zcnt_pos h0 hy q.1
        rw [← hP.2.2.1 x hx] at this
        exact this cl
      rw [if_neg hn] at h3
      rw [if_neg (show ¬ y = 0 by omega)]
      by_cases c : y = x
      · rw [if_pos c] at h1 h2; omega
      · rw [if_neg c] at h1 h2; omega
    · unfold zwait
      rw [ztk_N.1]
      have : zsum (zlf S) (zN S 0 0) = zsum (zlf (ztake S x)) (zN S 0 0) + 1 := by
        refine zsum_upd (a := x) hx (fun i hi => ?_)
        unfold zlf
        rw [ztk_N.1]
        have := hcl i
        by_cases c : i = x
        · subst c
          rw [if_pos rfl] at this ⊢
          rw [if_pos cl, if_pos cl]; omega
        · rw [if_neg c] at this ⊢
          split <;> omega
      omega
  · refine ⟨hp, hf, hk, fun y hy => hq' y (by rw [ztk_N.1] at hy; exact hy), fun y h0 hy => ?_, hh, ?_⟩
    · rw [ztk_N.1] at hy
      have h1 := hC y h0 hy
      have h2 := hcl y
      have h3 := hci y h0 hy
      rw [hch y]
      rcases hel.2.2.2 with q | q
      · exact absurd q.1 cl
      · have hpar := hP.2.1 e.1 q.2.1 q.2.2.1
        by_cases c2 : y = e.1
        · subst c2
          rw [if_pos ⟨q.2.2.2, rfl⟩] at h3
          rw [if_pos rfl]
          rw [if_neg (show ¬ e.1 = x by omega)] at h1 h2
          omega
        · rw [if_neg (fun z => c2 z.2)] at h3
          rw [if_neg c2]
          by_cases c : y = x
          · rw [if_pos c] at h1 h2; omega
          · rw [if_neg c] at h1 h2; omega
    · unfold zwait
      rw [ztk_N.1]
      have : zsum (zlf S) (zN S 0 0) = zsum (zlf (ztake S x)) (zN S 0 0) := by
        refine zsum_congr (fun i hi => ?_)
        unfold zlf
        rw [ztk_N.1]
        have := hcl i
        by_cases c : i = x
        · subst c
          rw [if_neg cl, if_neg cl]
        · rw [if_neg c] at this
          split <;> omega
      omega
  · rcases hel.2.2.2 with q | q
    · exact absurd q.1 cl
    · have := hP.2.1 e.1 q.2.1 q.2.2.1
      omega
  · rcases hel.2.2.2 with q | q
    · rw [q.2]; exact hel.1
    · exact absurd cl q.1
/-- whoever is on its way down has an element -/
theorem zne_of {S : zW} {x : Nat} (h : zInv S x 0) (h0 : 0 < x) (hx : x < zN S 0 0) : (zQ S x).length ≠ 0 := by
  have := h.2.2.2.2.1 x h0 hx
  rw [if_pos rfl] at this
  omega
theorem zcons_of {l : List zE} (h : l.length ≠ 0) : ∃ e t, l = e :: t := by
  match l, h with
  | e :: t, _ => exact ⟨e, t, rfl⟩
/-! the class: leave -/
theorem zx_removeFirst {M0 : gM} {w nn ar x : Nat} {M : gM} {S : zW} {K : Int32 → gM → Prop} (h : zCW M0 w nn ar S M) (hn2 : nn ≤ 12) (hx : x < nn) (hl : (zQ S x).length ≤ 64) (hq : (zQ S x).length ≠ 0) (hK : ∀ M', zCW M0 w nn ar (ztake S x) M' → K (nI (zitem S x)) M') : wp_X3_removeFirst (12 * w + x) M K := by
  obtain ⟨e, t, het⟩ := zcons_of hq
  have hc := h.2.2.2.2.1 x hx
  obtain ⟨k1, k2⟩ := ztake_eq het
  rw [k1, k2] at hK
  have hlt : (zQ S x).length = t.length + 1 := by rw [het]; rfl
  have h0 := hc.2 0 e (by rw [het]; rfl)
  unfold wp_X3_removeFirst
  rw [hc.1, if_neg (zk_nlt (c := 1) (a := 1) rfl (by omega) (by omega)), if_pos (zk_le (c := 64) (a := 64) rfl hl (by omega))]
  refine ⟨zvi (by omega) (by omega), ?_⟩
  intro n25 e25
  rw [zcl (by omega), h0.1] at e25
  subst e25
  refine ⟨zvi (by omega) (by omega), ?_⟩
  intro M1 e1
  rw [zcl (by omega), h0.2.1] at e1
  have h1 : zCW M0 w nn ar (zsL S 4 x e.2.1) M1 := by
    rw [e1]
    exact zCW_uL (i := 4) (j := x) (by omega) (by omega) (by omega) h
  have hc1 := h1.2.2.2.2.1 x hx
  intro M2 e2
  rw [hc1.1, zQ_sL, hlt, zn_s1 (by omega), show t.length + 1 - 1 = t.length by omega] at e2
  have s2 : M2.1 3 (12 * w + x) 4 = nI t.length := by rw [e2, zuI, if_pos ⟨rfl, rfl, rfl⟩]
  have c1 : (1 : Int32).toNatClampNeg = 1 := rfl
  have c0 : (0 : Int32).toNatClampNeg = 0 := rfl
  rw [s2, c1, c0, nI_clamp (by omega)]
  refine ⟨by decide, by decide, nI_pos (by omega), by omega, by omega, ?_⟩
  intro M3 e3
  have s3 : M3.1 3 (12 * w + x) 4 = nI t.length := by rw [e3, zcI, if_neg (by omega)]; exact s2
  rw [s3, nI_clamp (by omega)]
  refine ⟨by decide, by decide, nI_pos (by omega), by omega, by omega, ?_⟩
  intro M4 e4
  have s4 : M4.1 3 (12 * w + x) 4 = nI t.length := by rw [e4]; exact s3
  rw [s4, nI_clamp (by omega)]
  refine ⟨by decide, by decide, nI_pos (by omega), by omega, by omega, ?_⟩
  intro M5 e5
  refine hK M5 (zCW_SQ (by omega) h1 ?_ ?_ (fun j b hb => ?_))
  · rw [e5, e4, e3, e2]
    exact zSQ_trans (zSQ_trans (zSQ_trans (zSQ_uI (Or.inr (Or.inr ⟨rfl, rfl⟩))) (zSQ_cI (Or.inl rfl))) zSQ_cL) (zSQ_cI (Or.inr rfl))
  · rw [e5, zcI, if_neg (by omega)]; exact s4
  · have hj := (List.getElem?_eq_some_iff.mp hb).1
    have := hc1.2 (j + 1) b (by rw [zQ_sL, het]; simpa using hb)
    rw [e5, e4, e3, e2]
    unfold zar
    simp only [zuI, zuL, zuI2, zuL1, zcI, zcL, zcI2, zcL1]
    simp [hj, Nat.add_comm 1 j]
    exact this
theorem zc_leaveL {M0 : gM} {w nn ar : Nat} {K : Int32 → gM → Prop} : ∀ (F : Nat) (S : zW) (M : gM) (x l : Nat), zCW M0 w nn ar S M → zInv S x 0 → zN S 0 0 = nn → zN S 1 0 = ar → x < nn → (zQ S x).length ≠ 0 → l ≤ x → 12 ≤ F + x → (∀ M', zCW M0 w nn ar (zleave F S x).1 M' → K (nI (zleave F S x).2) M') → wp_X7_leave_L4 K F w (nI x) (nI l) M
  | 0, S, M, x, l, h, hi, hn, ha, hx, hq, hl, hf, hK => by
    have := hi.1.1.2
    omega
  | F + 1, S, M, x, l, h, hi, hn, ha, hx, hq, hl, hf, hK => by
    have hn2 : nn ≤ 12 := by rw [← hn]; exact hi.1.1.2
    have hlen := zlen64 hi (x := x) (by omega)
    obtain ⟨e, t, het⟩ := zcons_of hq
    obtain ⟨k1, k2⟩ := ztake_eq het
    obtain ⟨i1, i2, i3, i4⟩ := zcons_sub hi (by omega) het
    have hcc := zcc_lt hi (x := x) (by omega)
    have ha2 := hi.2.2.1.1
    unfold zleave at hK
    unfold wp_X7_leave_L4
    rw [if_neg (zk_nle (c := 12) (a := 12) rfl (by omega) (by omega))]
    refine zx_hasNode h.2 hn hn2 (by omega) ?_
    rw [if_pos hx, if_neg (by decide)]
    refine ⟨vp_in_nI (by omega) (by omega), ?_⟩
    rw [nI_clamp (by omega)]
    refine zx_removeFirst h hn2 hx (by omega) hq (fun M1 h1 => ?_)
    by_cases c : zN S 19 x = 0
    · rw [if_pos c] at hK
      have := i4 c
      rw [if_neg (nI_pos (by rw [k2]; omega))]
      refine zx_isLeaf h1.2 (by rw [ztk_N.1]; exact hn) hn2 hx (by rw [ztk_N.1]; omega) ?_
      rw [ztk_N.1, if_pos c, if_neg (by decide)]
      exact hK M1 h1
    · rw [if_neg c] at hK
      have := i3 c
      rw [if_neg (nI_pos (by rw [k2]; omega))]
      refine zx_isLeaf h1.2 (by rw [ztk_N.1]; exact hn) hn2 hx (by rw [ztk_N.1]; omega) ?_
      rw [ztk_N.1, if_neg c, if_pos rfl]
      intro n50 e50
      rw [zn_p1] at e50
      subst e50
      have hi2 := i2 c
      rw [← k2] at hi2 this
      exact zc_leaveL F (ztake S x) M1 (zitem S x) (l + 1) h1 hi2 (by rw [ztk_N.1]; exact hn) (by rw [ztk_N.1]; exact ha) (by omega) (zne_of hi2 (by omega) (by rw [ztk_N.1]; omega)) (by omega) (by omega) hK
theorem zc_leave {M0 : gM} {w nn ar : Nat} {K : Int32 → gM → Prop} {S : zW} {M : gM} (h : zCW M0 w nn ar S M) (hi : zInv S 0 0) (hn : zN S 0 0 = nn) (ha : zN S 1 0 = ar) (hK0 : (zQ S 0).length = 0 → K (-1) M) (hK : (zQ S 0).length ≠ 0 → ∀ M', zCW M0 w nn ar (zleave 12 S 0).1 M' → K (nI (zleave 12 S 0).2) M') : wp_X7_leave w M K := by
  have h1 := hi.1.1
  by_cases c : (zQ S 0).length = 0
  · refine ⟨1, ?_⟩
    unfold wp_X7_leave_L4
    rw [if_neg (by decide)]
    refine zx_hasNode (x := 0) h.2 hn (by omega) (by omega) ?_
    rw [if_pos (show 0 < nn by omega), if_neg (by decide)]
    refine ⟨zvi (by omega) (by omega), ?_⟩
    have hc := h.2.2.2.2.1 0 (by omega)
    have e0 : 12 * w + (0 : Int32).toNatClampNeg = 12 * w + 0 := rfl
    rw [e0]
    unfold wp_X3_removeFirst
    rw [hc.1, c, if_pos (by decide)]
    show (if (-1 : Int32) < 0 then K (-1) M else _)
    rw [if_pos (by decide)]
    exact hK0 c
  · exact ⟨12, zc_leaveL 12 S M 0 0 h hi hn ha (by omega) c (by omega) (by omega) (hK c)⟩
