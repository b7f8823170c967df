/-! departing keeps what always holds -/
theorem zInv_N {S S' : zW} {o wd : Nat} (e2 : ∀ i j, i ≠ 5 → i ≠ 6 → i ≠ 7 → i ≠ 22 → zN S' i j = zN S i j) (eQ : zQ S' = zQ S) (eR : zR S' = zR S) (eD : zD S' = zD S) (h : zInv S o wd) : zInv S' o wd := by
  obtain ⟨hP, hF, hK, hQ, hC, hH, hW⟩ := h
  have e24 : zN S' 24 = zN S 24 := funext (fun j => e2 24 j (by omega) (by omega) (by omega) (by omega))
  have n0 := e2 0 0 (by omega) (by omega) (by omega) (by omega)
  refine ⟨?_, ?_, ?_, ?_, ?_, ?_, ?_⟩
  · obtain ⟨p1, p2, p3, p4, p5⟩ := hP
    refine ⟨by rw [n0]; exact p1, fun x a b => ?_, fun x a => ?_, by rw [e2 9 0 (by omega) (by omega) (by omega) (by omega)]; exact p4, fun x a => ?_⟩
    · rw [n0] at b
      rw [e2 18 x (by omega) (by omega) (by omega) (by omega)]; exact p2 x a b
    · rw [n0] at a
      rw [e2 19 x (by omega) (by omega) (by omega) (by omega), p3 x a]
      unfold zcnt
      rw [n0]
      exact zsum_congr (fun y _ => by rw [e2 18 y (by omega) (by omega) (by omega) (by omega)])
    · rw [n0] at a
      rw [e2 8 x (by omega) (by omega) (by omega) (by omega), e2 9 x (by omega) (by omega) (by omega) (by omega), e2 10 x (by omega) (by omega) (by omega) (by omega)]
      refine ⟨?_, (p5 x a).2⟩
      unfold zprog
      rw [e2 11 x (by omega) (by omega) (by omega) (by omega), e2 12 x (by omega) (by omega) (by omega) (by omega), e2 13 x (by omega) (by omega) (by omega) (by omega), e2 23 0 (by omega) (by omega) (by omega) (by omega), e24]
      exact (p5 x a).1
  · obtain ⟨p1, p2, p3⟩ := hF
    refine ⟨fun f hf => ?_, fun y hy => ?_, by rw [e2 2 0 (by omega) (by omega) (by omega) (by omega)]; exact p3⟩
    · rw [e2 3 f (by omega) (by omega) (by omega) (by omega), e2 4 f (by omega) (by omega) (by omega) (by omega), n0, e2 19 _ (by omega) (by omega) (by omega) (by omega)]; exact p1 f hf
    · rw [n0] at hy
      rw [e2 14 y (by omega) (by omega) (by omega) (by omega)]; exact p2 y hy
  · obtain ⟨p1, p2⟩ := hK
    have n1 := e2 1 0 (by omega) (by omega) (by omega) (by omega)
    refine ⟨by rw [n1]; exact p1, fun p hp => ?_⟩
    rw [n1] at hp
    rw [e2 15 p (by omega) (by omega) (by omega) (by omega), e2 16 p (by omega) (by omega) (by omega) (by omega), e2 17 p (by omega) (by omega) (by omega) (by omega)]; exact p2 p hp
  · intro x hx
    rw [n0] at hx
    obtain ⟨q1, q2, q3, q4⟩ := hQ x hx
    unfold zque
    rw [eR, eQ]
    refine ⟨q1, q2, by rw [e2 8 x (by omega) (by omega) (by omega) (by omega)]; exact q3, fun e he => ?_⟩
    obtain ⟨a1, a2, a3, a4⟩ := q4 e he
    refine ⟨by rw [e2 1 0 (by omega) (by omega) (by omega) (by omega)]; exact a1, by rw [e2 20 0 (by omega) (by omega) (by omega) (by omega)]; exact a2, ?_, ?_⟩
    · rw [a3]
      unfold ztie zkey
      rw [e2 8 x (by omega) (by omega) (by omega) (by omega), e2 16 _ (by omega) (by omega) (by omega) (by omega), e2 19 x (by omega) (by omega) (by omega) (by omega), e2 15 _ (by omega) (by omega) (by omega) (by omega)]
    · rw [e2 19 x (by omega) (by omega) (by omega) (by omega), n0, e2 18 _ (by omega) (by omega) (by omega) (by omega)]; exact a4
  · intro y a b
    rw [n0] at b
    have := hC y a b
    unfold zci zch at this ⊢
    rw [eQ, eD, e2 18 y (by omega) (by omega) (by omega) (by omega)]; exact this
  · intro e he
    rw [eD] at he
    rw [n0, e2 1 0 (by omega) (by omega) (by omega) (by omega)]; exact hH e he
  · unfold zwait at hW ⊢
    rw [e2 21 0 (by omega) (by omega) (by omega) (by omega), n0]
    have : zsum (zlf S') (zN S 0 0) = zsum (zlf S) (zN S 0 0) := zsum_congr (fun i _ => by
      unfold zlf
      rw [e2 19 i (by omega) (by omega) (by omega) (by omega), eQ])
    rw [this]; exact hW
theorem zdp_N {S : zW} {p : Nat} {t : Int64} {i j : Nat} (h : i ≠ 5 ∧ i ≠ 6 ∧ i ≠ 7) : zN (zdepart S p t) i j = zN S i j := by
  unfold zdepart
  simp only [zN_sN, zN_sL]
  rw [if_neg (by omega), if_neg (by omega), if_neg (by omega)]
theorem zdp_L {S : zW} {p : Nat} {t : Int64} {i j : Nat} (h : i ≠ 1 ∧ i ≠ 2 ∧ i ≠ 8) : zL (zdepart S p t) i j = zL S i j := by
  unfold zdepart
  simp only [zL_sN, zL_sL]
  rw [if_neg (by omega), if_neg (by omega), if_neg (by omega)]
theorem zdp_L8 {S : zW} {p : Nat} {t : Int64} {j : Nat} : zL (zdepart S p t) 8 j = if j = p then t else zL S 8 j := by
  unfold zdepart
  simp only [zL_sN, zL_sL]
  rw [if_neg (by omega), if_neg (by omega)]
  by_cases c : j = p
  · rw [if_pos c, if_pos ⟨by trivial, c⟩]
  · rw [if_neg c, if_neg (fun q => c q.2)]
theorem zdp_Q {S : zW} {p : Nat} {t : Int64} : zQ (zdepart S p t) = zQ S ∧ zR (zdepart S p t) = zR S ∧ zD (zdepart S p t) = zD S := ⟨rfl, rfl, rfl⟩
theorem zdp_inv {S : zW} {o wd p : Nat} {t : Int64} (h : zInv S o wd) : zInv (zdepart S p t) o wd := zInv_N (fun i j a b c _ => zdp_N ⟨a, b, c⟩) rfl rfl rfl h
theorem zdp_Bd {S : zW} {p c : Nat} {t : Int64} (hl : zN S 16 p ≤ 1500) (hB : zBd S c) : zBd (zdepart S p t) (c + 1) := by
  refine ⟨⟨?_, fun x hx => ?_, fun e he => ?_⟩, by rw [zdp_N (by omega)]; have := hB.2.1; omega, fun f hf => ?_, fun e he => ?_⟩
  · rw [zdp_L (by omega)]
    have := hB.1.1
    omega
  · rw [zdp_N (by omega)] at hx
    rw [zdp_L (by omega)]
    have := hB.1.2.1 x hx
    omega
  · have := hB.1.2.2 e he
    omega
  · have := hB.2.2.1 f hf
    unfold zdepart
    simp only [zN_sN, zN_sL]
    refine ⟨?_, ?_, ?_⟩
    · rw [if_neg (by omega), if_neg (by omega)]
      split
      · rename_i q; rw [← q.2]; omega
      · omega
    · rw [if_neg (by omega)]
      split
      · rename_i q; rw [← q.2]; omega
      · rw [if_neg (by omega)]; omega
    · split
      · rename_i q; rw [← q.2]; split <;> omega
      · rw [if_neg (by omega), if_neg (by omega)]; omega
  · rw [zdp_L (by omega)]; exact hB.2.2.2 e he
/-! longs that stay -/
theorem zclimb_L : ∀ (F : Nat) (S : zW) (x item p : Nat) (t : Int64) {i j : Nat}, i ≠ 3 → i ≠ 5 → zL (zclimb F S x item p t) i j = zL S i j
  | 0, _, _, _, _, _, _, _, _, _ => rfl
  | F + 1, S, x, item, p, t, i, j, h3, h5 => by
    have eU : zL (zshape (zenter S x item p t) x p t) i j = zL S i j := by
      refine Eq.trans ?_ (zen_L (S := S) (x := x) (item := item) (p := p) (t := t) (j := j) h5)
      unfold zshape
      split
      · rfl
      · rw [zL_sL, if_neg (by omega)]
    rw [zclimb_succ]
    unfold zrest
    split
    · exact zen_L h5
    · split
      · exact eU
      · exact (zclimb_L F _ _ _ _ _ h3 h5).trans eU
theorem zpass_L : ∀ (f : Nat) (S : zW) (u : Int64) (c : Nat) {i j : Nat}, i ≠ 0 → i ≠ 3 → i ≠ 5 → zL (zpass f S u c).1 i j = zL S i j
  | 0, S, u, c, i, j, h0, h3, h5 => by
    show zL (zsL S 0 0 u) i j = _
    rw [zL_sL, if_neg (by omega)]
  | f + 1, S, u, c, i, j, h0, h3, h5 => by
    rw [zpass_succ]
    split
    · show zL (zsL S 0 0 u) i j = _
      rw [zL_sL, if_neg (by omega)]
    · split
      · show zL (zsL S 0 0 u) i j = _
        rw [zL_sL, if_neg (by omega)]
      · rw [zpass_L f _ _ _ h0 h3 h5]
        unfold zturn
        exact zclimb_L 12 _ _ _ _ _ h3 h5
theorem zleave_L : ∀ (F : Nat) (S : zW) (x : Nat) {i j : Nat}, i ≠ 4 → zL (zleave F S x).1 i j = zL S i j
  | 0, S, x, i, j, h => by
    show zL (ztake S x) i j = _
    unfold ztake
    split
    · rfl
    · rw [zL_sQ, zL_sL, if_neg (by omega)]
  | F + 1, S, x, i, j, h => by
    have e : zL (ztake S x) i j = zL S i j := by
      unfold ztake
      split
      · rfl
      · rw [zL_sQ, zL_sL, if_neg (by omega)]
    unfold zleave
    split
    · exact e
    · exact (zleave_L F _ _ h).trans e
theorem zgoes_L {S : zW} {i j : Nat} (h : i ≠ 4) : zL (zgoes S) i j = zL S i j := zleave_L 12 S 0 h
theorem zgoes_Bd {S : zW} {c : Nat} (hi : zInv S 0 0) (hq : (zQ S 0).length ≠ 0) (hB : zBd S c) : zBd (zgoes S) c := by
  obtain ⟨g1, g2, g3, g4, g5⟩ := zgoes_inv hi hq
  refine ⟨⟨by rw [zgoes_L (by omega)]; exact hB.1.1, fun x hx => ?_, fun e he => ?_⟩, by rw [g5 20 0 (by omega) (by omega)]; exact hB.2.1, fun f hf => ?_, fun e he => ?_⟩
  · rw [g5 0 0 (by omega) (by omega)] at hx
    rw [zgoes_L (by omega)]; exact hB.1.2.1 x hx
  · rw [g2] at he; exact hB.1.2.2 e he
  · rw [g5 5 f (by omega) (by omega), g5 6 f (by omega) (by omega), g5 7 f (by omega) (by omega)]; exact hB.2.2.1 f hf
  · rw [g2] at he
    rw [zgoes_L (by omega)]; exact hB.2.2.2 e he
/-! who waits in a leaf -/
def zinq (S : zW) (q : Nat) : Prop := ∃ x, x < zN S 0 0 ∧ zN S 19 x = 0 ∧ ∃ e ∈ zQ S x, e.1 = q
theorem zinq_enter {S : zW} {x item p q : Nat} {t : Int64} (h : zinq S q) : zinq (zenter S x item p t) q := by
  obtain ⟨y, h1, h2, e, h3, h4⟩ := h
  refine ⟨y, by rw [zen_N (by omega)]; exact h1, by rw [zen_N (by omega)]; exact h2, e, ?_, h4⟩
  rw [zen_Q]
  by_cases c : y = x
  · subst c
    rw [if_pos rfl]
    exact (zins_perm _ _ _).mem_iff.mpr (List.mem_cons_of_mem _ h3)
  · rw [if_neg c]; exact h3
theorem zinq_new {S : zW} {x p : Nat} {t : Int64} (hx : x < zN S 0 0) (hl : zN S 19 x = 0) : zinq (zenter S x p p t) p := by
  refine ⟨x, by rw [zen_N (by omega)]; exact hx, by rw [zen_N (by omega)]; exact hl, zelt S x p p t, ?_, rfl⟩
  rw [zen_Q, if_pos rfl]
  exact (zins_perm _ _ _).mem_iff.mpr List.mem_cons_self
theorem zinq_shape {S : zW} {x p q : Nat} {t : Int64} (h : zinq S q) : zinq (zshape S x p t) q := by
  unfold zinq at h ⊢
  rw [zsh_N.1, zsh_N.2.1]; exact h
theorem zinq_climb : ∀ (F : Nat) (S : zW) (x item p q : Nat) (t : Int64), zinq S q → zinq (zclimb F S x item p t) q
  | 0, _, _, _, _, _, _, h => h
  | F + 1, S, x, item, p, q, t, h => by
    have h1 := zinq_enter (x := x) (item := item) (p := p) (t := t) h
    rw [zclimb_succ]
    unfold zrest
    split
    · exact h1
    · split
      · exact zinq_shape (x := x) (p := p) (t := t) h1
      · exact zinq_climb F _ _ _ _ _ _ (zinq_shape (x := x) (p := p) (t := t) h1)
theorem zinq_climbnew {S : zW} {x p : Nat} {t : Int64} (hx : x < zN S 0 0) (hl : zN S 19 x = 0) : zinq (zclimb 12 S x p p t) p := by
  have h1 := zinq_new (p := p) (t := t) hx hl
  rw [zclimb_succ]
  unfold zrest
  split
  · exact h1
  · split
    · exact zinq_shape (x := x) (p := p) (t := t) h1
    · exact zinq_climb 11 _ _ _ _ _ _ (zinq_shape (x := x) (p := p) (t := t) h1)
theorem zinq_pass : ∀ (f : Nat) (S : zW) (u : Int64) (c q : Nat), zinq S q → zinq (zpass f S u c).1 q
  | 0, _, _, _, _, h => h
  | f + 1, S, u, c, q, h => by
    rw [zpass_succ]
    split
    · exact h
    · split
      · exact h
      · refine zinq_pass f _ u (c + 1) q ?_
        unfold zturn
        exact zinq_climb 12 _ _ _ _ _ _ h
theorem zinq_take {S : zW} {x q : Nat} (h : zinq S q) (hx : zN S 19 x = 0 → q ≠ zitem S x) : zinq (ztake S x) q := by
  obtain ⟨y, h1, h2, e, h3, h4⟩ := h
  refine ⟨y, by rw [ztk_N.1]; exact h1, by rw [ztk_N.1]; exact h2, e, ?_, h4⟩
  rw [ztk_Q]
  by_cases c : y = x
  · subst c
    rw [if_pos rfl]
    have hne := hx h2
    unfold zitem at hne
    match hz : zQ S y with
    | [] => rw [hz] at h3; cases h3
    | a :: l =>
      rw [hz] at h3 hne
      rcases List.mem_cons.mp h3 with rfl | h3
      · exact absurd h4.symm hne
      · exact h3
  · rw [if_neg c]; exact h3
theorem zinq_leave : ∀ (F : Nat) (S : zW) (x q : Nat), 12 ≤ F + x → x < 12 → zInv S x 0 → x < zN S 0 0 → (zQ S x).length ≠ 0 → zinq S q → q ≠ (zleave F S x).2 → zinq (zleave F S x).1 q
  | 0, S, x, q, hf, h12, _, _, _, h, hq => by omega
  | F + 1, S, x, q, hf, h12, hi, hx, hne0, h, hq => by
    unfold zleave at hq ⊢
    by_cases c : zN S 19 x = 0
    · rw [if_pos c] at hq ⊢
      exact zinq_take h (fun _ => hq)
    · rw [if_neg c] at hq ⊢
      obtain ⟨e, t, het⟩ := zcons_of hne0
      obtain ⟨k1, k2⟩ := ztake_eq het
      obtain ⟨i1, i2, i3, i4⟩ := zcons_sub hi (by omega) het
      have hi2 := i2 c
      have hlt := i3 c
      have hn := hi.1.1.2
      rw [← k2] at hi2 hlt
      exact zinq_leave F _ _ q (by omega) (by omega) hi2 (by rw [ztk_N.1]; omega) (zne_of hi2 (by omega) (by rw [ztk_N.1]; omega)) (zinq_take h (fun z => absurd z c)) hq
def zDq (S : zW) : Prop := ∀ p, p < zN S 1 0 → (zN S 22 p = 1 ∧ zL S 8 p = -1 ∧ zinq S p) ∨ (zN S 22 p = 0 ∧ 0 ≤ (zL S 8 p).toInt)
theorem zDq_pass {S : zW} {u : Int64} (hi : zInv S 0 0) (h : zDq S) : zDq (zpass 800 S u 0).1 := fun p hp => by
  have hpo := zpot704 hi
  obtain ⟨i1, i2, i3, i4, i5, i6⟩ := zpass_inv 800 S u 0 hi (by omega)
  rw [i2 1 0 (by omega) (by omega)] at hp
  rw [i2 22 p (by omega) (by omega), zpass_L 800 S u 0 (by omega) (by omega) (by omega)]
  rcases h p hp with q | q
  · exact Or.inl ⟨q.1, q.2.1, zinq_pass 800 S u 0 p q.2.2⟩
  · exact Or.inr q
theorem zDq_go {S : zW} {t : Int64} (hi : zInv S 0 0) (hq : (zQ S 0).length ≠ 0) (h : zDq S) (ht : 0 ≤ t.toInt) : zDq (zdepart (zgoes S) (zgone S) t) := fun p hp => by
  obtain ⟨g1, g2, g3, g4, g5⟩ := zgoes_inv hi hq
  have hn := hi.1.1
  rw [zdp_N (by omega), g5 1 0 (by omega) (by omega)] at hp
  rw [zdp_N (by omega), zdp_L8]
  have e22 : zN (zgoes S) 22 p = if p = zgone S then 0 else zN S 22 p := by
    obtain ⟨j1, j2, j3, j4⟩ := zleave_inv 12 S 0 hi (by omega) hq (by omega)
    unfold zgoes
    rw [zN_sN]
    by_cases c : p = zgone S
    · rw [if_pos ⟨rfl, c⟩, if_pos c]
    · rw [if_neg (fun z => c z.2), if_neg c, zN_sN, if_neg (by omega), j2]
  rw [e22, zgoes_L (by omega)]
  by_cases c : p = zgone S
  · rw [if_pos c, if_pos c]
    exact Or.inr ⟨rfl, ht⟩
  · rw [if_neg c, if_neg c]
    rcases h p hp with q | q
    · refine Or.inl ⟨q.1, q.2.1, ?_⟩
      have := zinq_leave 12 S 0 p (by omega) (by omega) hi (by omega) hq q.2.2 c
      obtain ⟨j1, j2, j3, j4⟩ := zleave_inv 12 S 0 hi (by omega) hq (by omega)
      obtain ⟨y, a1, a2, a3⟩ := this
      rw [j2] at a1 a2
      exact ⟨y, by rw [zdp_N (by omega), g5 0 0 (by omega) (by omega)]; exact a1, by rw [zdp_N (by omega), g5 19 y (by omega) (by omega)]; exact a2, a3⟩
    · exact Or.inr q
