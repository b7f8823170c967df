/-! one node, the reference: all of it -/
def yNm (x : Nat) (n : yNd) (M : gM) : Prop := M.1 54 0 (12 * x) = (if x = 0 then -1 else nI n.1) ∧ M.1 54 0 (12 * x + 1) = nI n.2.1 ∧ M.1 54 0 (12 * x + 2) = nI n.2.2.1 ∧ M.1 54 0 (12 * x + 3) = nI n.2.2.2.1 ∧ M.1 54 0 (12 * x + 7) = nI n.2.2.2.2.1 ∧ M.1 54 0 (12 * x + 8) = nI (n.2.2.2.2.2.1 - n.2.2.2.2.1) ∧ M.1 54 0 (12 * x + 9) = nI n.2.2.2.2.2.1 ∧ M.1 54 0 (12 * x + 10) = nI (n.2.2.2.2.2.2 - n.2.2.2.2.2.1)
theorem zy_progJ {x1 : Int32} {M : gM} {K : Int32 → gM → Prop} (h : wp_X9_readsProgram 0 x1 (g_uI M 9 0 17 0) K) : wp_X9_readsProgram 0 x1 M K := by
  unfold wp_X9_readsProgram at h ⊢
  refine ⟨h.1, ?_⟩
  intro M1 e1
  have h2 := h.2 (g_uI M1 9 0 17 0) (by
    rw [e1]
    refine gM_ext (fun a b c => ?_) rfl
    rw [zuI, zuI, zuI, zuI, zuI, if_neg (show ¬ (9 = 9 ∧ 0 = 0 ∧ 15 = 17) by omega)]
    by_cases c1 : a = 9 ∧ b = 0 ∧ c = 17
    · rw [if_pos c1, if_neg (by omega), if_pos c1]
    · rw [if_neg c1, if_neg c1])
  unfold wp_X9_readsExpression at h2 ⊢
  intro M2 e2
  refine h2 M2 ?_
  rw [e2]
  refine gM_ext (fun a b c => ?_) rfl
  rw [zuI, zuI, zuI]
  by_cases c1 : a = 9 ∧ b = 0 ∧ c = 17
  · rw [if_pos c1, if_pos c1]
  · rw [if_neg c1, if_neg c1]
def yQw (k o _i : Nat) : Prop := k = 52 ∧ o = 0
def yQx (k o i : Nat) : Prop := (k = 9 ∧ o = 0 ∧ (i = 11 ∨ i = 13 ∨ i = 15 ∨ i = 17)) ∨ (k = 56 ∧ o = 0) ∨ (k = 54 ∧ o = 0) ∨ (k = 52 ∧ o = 0)
def yQr (x k o i : Nat) : Prop := yQe k o i ∨ (k = 54 ∧ o = 0 ∧ 12 * x + 1 ≤ i ∧ i ≤ 12 * x + 10)
def yQn (x k o i : Nat) : Prop := yQe k o i ∨ (k = 54 ∧ o = 0 ∧ 12 * x ≤ i ∧ i ≤ 12 * x + 10)
def yQt (x k o i : Nat) : Prop := (k = 9 ∧ o = 0 ∧ i = 11) ∨ (k = 54 ∧ o = 0 ∧ i = 12 * x + 1)
theorem yQw_x : ∀ k o i, yQw k o i → yQx k o i := fun k o i h => Or.inr (Or.inr (Or.inr h))
theorem yQe_x : ∀ k o i, yQe k o i → yQx k o i := fun k o i h => by
  rcases h with ⟨a, b, c⟩ | h
  · exact Or.inl ⟨a, b, by omega⟩
  · exact Or.inr (Or.inl h)
theorem yQr_n {x : Nat} : ∀ k o i, yQr x k o i → yQn x k o i := fun k o i h => by
  rcases h with h | ⟨a, b, c⟩
  · exact Or.inl h
  · exact Or.inr ⟨a, b, by omega⟩
theorem yQn_x {x : Nat} : ∀ k o i, yQn x k o i → yQx k o i := fun k o i h => by
  rcases h with h | ⟨a, b, c⟩
  · exact yQe_x k o i h
  · exact Or.inr (Or.inr (Or.inl ⟨a, b⟩))
theorem yQr_x {x : Nat} : ∀ k o i, yQr x k o i → yQx k o i := fun k o i h => yQn_x k o i (yQr_n k o i h)
theorem yQp_r {x : Nat} : ∀ k o i, yQp x k o i → yQr x k o i := fun k o i h => by
  rcases h with h | ⟨a, b, c⟩
  · exact Or.inl h
  · exact Or.inr ⟨a, b, by omega⟩
theorem yQs_r {x : Nat} : ∀ k o i, yQs x k o i → yQr x k o i := fun k o i h => by
  rcases h with h | ⟨a, b, c⟩
  · exact Or.inl h
  · exact Or.inr ⟨a, b, by omega⟩
theorem yQt_r {x : Nat} : ∀ k o i, yQt x k o i → yQr x k o i := fun k o i h => by
  rcases h with ⟨a, b, c⟩ | ⟨a, b, c⟩
  · exact Or.inl (Or.inl ⟨a, b, Or.inl c⟩)
  · exact Or.inr ⟨a, b, by omega⟩
theorem zy_wrong {x1 x2 x3 : Int32} {M : gM} {K : Int32 → gM → Prop} (hK : ∀ M', M'.1 52 0 0 = x1 → M'.1 52 0 1 = x2 → M'.1 52 0 2 = x3 → zFz yQw M M' → K (-1) M') : wp_X9_wrong 0 x1 x2 x3 M K := by
  unfold wp_X9_wrong
  have c1 : (1 : Int32).toNatClampNeg = 1 := by decide
  have c2 : (2 : Int32).toNatClampNeg = 2 := by decide
  refine ⟨zvi (by omega) (by omega), ?_⟩
  intro M1 e1
  refine ⟨zvi (by omega) (by omega), ?_⟩
  intro M2 e2
  refine ⟨zvi (by omega) (by omega), ?_⟩
  intro M3 e3
  rw [zcl0] at e1
  rw [c1] at e2
  rw [c2] at e3
  refine hK M3 ?_ ?_ ?_ ?_
  · rw [e3, zuI, if_neg (by omega), e2, zuI, if_neg (by omega), e1, zuI, if_pos ⟨rfl, rfl, rfl⟩]
  · rw [e3, zuI, if_neg (by omega), e2, zuI, if_pos ⟨rfl, rfl, rfl⟩]
  · rw [e3, zuI, if_pos ⟨rfl, rfl, rfl⟩]
  · rw [e3, e2, e1]
    exact zFz_trans (zFz_trans (zFz_u ⟨rfl, rfl⟩) (zFz_u ⟨rfl, rfl⟩)) (zFz_u ⟨rfl, rfl⟩)
theorem zy_end {lt : Nat → Nat} {len a x : Nat} {st cd : List Nat} {s : Int32} {M : gM} {K : Int32 → gM → Prop} (hl : zlok lt len) (hx : x < 12) (h : zpm lt len a st cd M) (ha : a ≤ len)
    (k0 : ¬ yendok lt len a → ∀ M', M'.1 52 0 0 = s → M'.1 52 0 1 = nI (yend lt a) → M'.1 52 0 2 = -1 → zFz yQx M M' → K 0 M')
    (k1 : yendok lt len a → ∀ M', zpm lt len (yend lt a) st cd M' → M'.1 54 0 (12 * x + 1) = nI (ytie (lt a)) → zFz (yQt x) M M' → K 1 M') : wp_X9_readsNode_b190 K 0 (nI x) s M := by
  have hlen := hl.1
  have i1 : 12 * nI x + 1 = nI (12 * x + 1) := zix54 x 1
  obtain ⟨y1, y2⟩ := yend_le hl ha
  have ht := ytie_le (lt a)
  have step : ∀ (x0 : Int32), x0 = nI (ytie (lt a)) → wp_X9_readsNode_b242 K 0 (nI x) s x0 M := fun x0 ex => by
    subst ex
    unfold wp_X9_readsNode_b242
    rw [i1]
    refine ⟨vp_in_nI (by omega) (by omega), ?_⟩
    intro M1 e1
    rw [nI_clamp (by omega)] at e1
    have z1 : zpm lt len a st cd M1 := by rw [e1]; exact zpm_u h (by omega)
    have f1 : zFz (yQt x) M M1 := by rw [e1]; exact zFz_u (Or.inr ⟨rfl, rfl, rfl⟩)
    have w1 : M1.1 54 0 (12 * x + 1) = nI (ytie (lt a)) := by rw [e1, zuI, if_pos ⟨rfl, rfl, rfl⟩]
    have fin : ∀ (d : Nat) (v : Int32), v = nI d → a + d = yend lt a → wp_X9_readsNode_b272 K 0 s 0 (M1.1 9 0 11) v M1 := fun d v ev ed => by
      unfold wp_X9_readsNode_b272
      intro M2 e2
      rw [z1.2.1, ev, nI_add, ed] at e2
      have z2 : zpm lt len (yend lt a) st cd M2 := by rw [e2]; exact zpm_at z1
      have f2 : zFz (yQt x) M M2 := zFz_trans f1 (by rw [e2]; exact zFz_u (Or.inl ⟨rfl, rfl, rfl⟩))
      have w2 : M2.1 54 0 (12 * x + 1) = nI (ytie (lt a)) := by rw [e2, zuI, if_neg (by omega)]; exact w1
      rw [z2.2.1, z2.1]
      by_cases c1 : yend lt a = len
      · rw [if_pos (by rw [c1])]
        exact k1 (Or.inl c1) M2 z2 w2 f2
      · rw [if_neg (fun q => c1 ((nI_eq (by omega) (by omega)).mp q))]
        refine zy_letter z2.1 z2.2.2.1 hl (by omega) ?_
        by_cases c2 : lt (yend lt a) = 59
        · rw [if_pos (show zlI lt len (yend lt a) = 59 from (zlI_eq (n := 59) hl rfl (by omega) (by omega)).mpr c2)]
          exact k1 (Or.inr c2) M2 z2 w2 f2
        · rw [if_neg (show ¬ zlI lt len (yend lt a) = 59 from fun z => c2 ((zlI_eq (n := 59) hl rfl (by omega) (by omega)).mp z))]
          refine zy_wrong (fun M' q0 q1 q2 f => ?_)
          rw [if_pos (by decide)]
          exact k0 (fun q => q.elim c1 c2) M' q0 (q1.trans z2.2.1) q2 (zFz_trans (zFz_w f2 (fun k o i q => yQr_x k o i (yQt_r k o i q))) (zFz_w f yQw_x))
    by_cases c : ytie (lt a) = 0
    · rw [if_pos (show nI (ytie (lt a)) ≤ 0 by rw [c]; decide)]
      exact fin 0 0 rfl (by unfold yend; rw [if_pos c]; rfl)
    · rw [if_neg (zk_nle2 (c := 0) (a := 0) rfl (by omega) (by omega))]
      exact fin 1 1 rfl (by unfold yend; rw [if_neg c])
  unfold wp_X9_readsNode_b190
  rw [h.2.1]
  refine zy_letter h.1 h.2.2.1 hl (by omega) ?_
  by_cases c1 : lt a = 94
  · rw [if_pos (show zlI lt len a = 94 from (zlI_eq (n := 94) hl rfl (by omega) (by omega)).mpr c1)]
    exact step 1 (by rw [c1]; rfl)
  rw [if_neg (show ¬ zlI lt len a = 94 from fun z => c1 ((zlI_eq (n := 94) hl rfl (by omega) (by omega)).mp z)), h.2.1]
  refine zy_letter h.1 h.2.2.1 hl (by omega) ?_
  by_cases c2 : lt a = 37
  · rw [if_pos (show zlI lt len a = 37 from (zlI_eq (n := 37) hl rfl (by omega) (by omega)).mpr c2)]
    exact step 2 (by rw [c2]; rfl)
  rw [if_neg (show ¬ zlI lt len a = 37 from fun z => c2 ((zlI_eq (n := 37) hl rfl (by omega) (by omega)).mp z)), h.2.1]
  refine zy_letter h.1 h.2.2.1 hl (by omega) ?_
  by_cases c3 : lt a = 38
  · rw [if_pos (show zlI lt len a = 38 from (zlI_eq (n := 38) hl rfl (by omega) (by omega)).mpr c3)]
    exact step 3 (by rw [c3]; rfl)
  rw [if_neg (show ¬ zlI lt len a = 38 from fun z => c3 ((zlI_eq (n := 38) hl rfl (by omega) (by omega)).mp z))]
  exact step 0 (by unfold ytie; rw [if_neg c1, if_neg c2, if_neg c3]; rfl)
theorem yshp_no {lt : Nat → Nat} {x a : Nat} (h : x = 0 ∨ lt a ≠ 64) : yshp lt x a = (1, a, 0, 0) := by
  unfold yshp
  rw [if_pos h]
theorem zy_rest {lt : Nat → Nat} {len a x : Nat} {cd : List Nat} {s : Int32} {M : gM} {K : Int32 → gM → Prop} {P : Nat × Nat × Nat × List Nat} {Q : Nat × Nat × Nat × Nat} (eP : yprog lt a cd = P) (eQ : yshp lt x P.2.1 = Q) (hl : zlok lt len) (hx : x < 12) (h : zpm lt len a [] cd (g_uI M 9 0 17 0)) (ha : a ≤ len) (hc : cd.length ≤ a)
    (k0 : P.1 = 0 → ∀ M', M'.1 52 0 0 = s → M'.1 52 0 1 = nI a → M'.1 52 0 2 = nI P.2.1 → zFz yQx M M' → K 0 M')
    (k1 : P.1 = 1 → Q.1 = 0 → ∀ M', M'.1 52 0 0 = s → M'.1 52 0 1 = nI P.2.1 → M'.1 52 0 2 = nI Q.2.1 → zFz yQx M M' → K 0 M')
    (k2 : P.1 = 1 → Q.1 = 1 → ¬ yendok lt len Q.2.1 → ∀ M', M'.1 52 0 0 = s → M'.1 52 0 1 = nI (yend lt Q.2.1) → M'.1 52 0 2 = -1 → zFz yQx M M' → K 0 M')
    (k3 : P.1 = 1 → Q.1 = 1 → yendok lt len Q.2.1 → ∀ M', zpm lt len (yend lt Q.2.1) [] P.2.2.2 M' → M'.1 54 0 (12 * x + 1) = nI (ytie (lt Q.2.1)) → M'.1 54 0 (12 * x + 2) = nI Q.2.2.1 → M'.1 54 0 (12 * x + 3) = nI Q.2.2.2 → M'.1 54 0 (12 * x + 7) = nI cd.length → M'.1 54 0 (12 * x + 8) = nI (P.2.2.1 - cd.length) → M'.1 54 0 (12 * x + 9) = nI P.2.2.1 → M'.1 54 0 (12 * x + 10) = nI (P.2.2.2.length - P.2.2.1) → zFz (yQr x) M M' → K 1 M') : wp_X9_readsNode_b85 K 0 (nI x) s M := by
  subst eP
  subst eQ
  have hlen := hl.1
  have i2 : 12 * nI x + 2 = nI (12 * x + 2) := zix54 x 2
  have i3 : 12 * nI x + 3 = nI (12 * x + 3) := zix54 x 3
  obtain ⟨q1, q2⟩ := yprog_keep hl ha hc
  obtain ⟨q3, q4, q5, q6, q7⟩ := yshp_le (x := x) hl q1
  have fJ : zFz (yQr x) M (g_uI M 9 0 17 0) := zFz_u (Or.inl (Or.inl ⟨rfl, rfl, Or.inr (Or.inr rfl)⟩))
  have h11 : M.1 9 0 11 = nI a := by
    have := h.2.1
    rw [zuI, if_neg (by omega)] at this
    exact this
  unfold wp_X9_readsNode_b85
  intro n89 e89
  rw [h11] at e89
  subst e89
  generalize eM : g_uI M 9 0 17 0 = M0 at h fJ
  refine zy_progJ ?_
  rw [eM]
  refine zy_prog hl hx h ha hc (fun t M1 v11 f1 => ?_) (fun t M1 z1 w7 w8 w9 w10 f1 => ?_)
  · rw [if_pos rfl]
    refine zy_wrong (fun M' r0 r1 r2 f => ?_)
    rw [if_pos (by decide)]
    exact k0 t M' r0 r1 (r2.trans v11) (zFz_trans (zFz_w (zFz_trans fJ (zFz_w f1 yQp_r)) yQr_x) (zFz_w f yQw_x))
  · rw [if_neg (by decide), i2, i3]
    refine ⟨vp_in_nI (by omega) (by omega), ?_⟩
    intro M2 e2
    refine ⟨vp_in_nI (by omega) (by omega), ?_⟩
    intro M3 e3
    rw [nI_clamp (by omega)] at e2 e3
    have z3 : zpm lt len (yprog lt a cd).2.1 [] (yprog lt a cd).2.2.2 M3 := by
      rw [e3]
      exact zpm_u (by rw [e2]; exact zpm_u z1 (by omega)) (by omega)
    have f3 : zFz (yQr x) M M3 := by
      refine zFz_trans (zFz_trans fJ (zFz_w f1 yQp_r)) (zFz_trans (M1 := M2) ?_ ?_)
      · rw [e2]; exact zFz_u (Or.inr ⟨rfl, rfl, by omega⟩)
      · rw [e3]; exact zFz_u (Or.inr ⟨rfl, rfl, by omega⟩)
    have s3 : ∀ j, j ≠ 12 * x + 2 → j ≠ 12 * x + 3 → M3.1 54 0 j = M1.1 54 0 j := fun j j2 j3 => by rw [e3, zuI, if_neg (by omega), e2, zuI, if_neg (by omega)]
    have b2 : M3.1 54 0 (12 * x + 2) = nI 0 := by rw [e3, zuI, if_neg (by omega), e2, zuI, if_pos ⟨rfl, rfl, rfl⟩]; rfl
    have b3 : M3.1 54 0 (12 * x + 3) = nI 0 := by rw [e3, zuI, if_pos ⟨rfl, rfl, rfl⟩]; rfl
    intro n145 e145
    rw [z3.2.1] at e145
    subst e145
    have ne7 : ¬ yQs x 54 0 (12 * x + 7) := by unfold yQs yQe; omega
    have ne8 : ¬ yQs x 54 0 (12 * x + 8) := by unfold yQs yQe; omega
    have ne9 : ¬ yQs x 54 0 (12 * x + 9) := by unfold yQs yQe; omega
    have ne10 : ¬ yQs x 54 0 (12 * x + 10) := by unfold yQs yQe; omega
    have nt : ∀ j, 2 ≤ j → ¬ yQt x 54 0 (12 * x + j) := fun j hj => by unfold yQt; omega
    have tail : ∀ M4, (yshp lt x (yprog lt a cd).2.1).1 = 1 → zpm lt len (yshp lt x (yprog lt a cd).2.1).2.1 [] (yprog lt a cd).2.2.2 M4 → M4.1 54 0 (12 * x + 2) = nI (yshp lt x (yprog lt a cd).2.1).2.2.1 → M4.1 54 0 (12 * x + 3) = nI (yshp lt x (yprog lt a cd).2.1).2.2.2 → M4.1 54 0 (12 * x + 7) = nI cd.length → M4.1 54 0 (12 * x + 8) = nI ((yprog lt a cd).2.2.1 - cd.length) → M4.1 54 0 (12 * x + 9) = nI (yprog lt a cd).2.2.1 → M4.1 54 0 (12 * x + 10) = nI ((yprog lt a cd).2.2.2.length - (yprog lt a cd).2.2.1) → zFz (yQr x) M M4 → wp_X9_readsNode_b190 K 0 (nI x) s M4 := fun M4 u z4 a2 a3 a7 a8 a9 a10 f4 => by
      refine zy_end hl hx z4 q3 (fun c M' r0 r1 r2 f => ?_) (fun c M' z w1 f => ?_)
      · exact k2 t u c M' r0 r1 r2 (zFz_trans (zFz_w f4 yQr_x) f)
      · refine k3 t u c M' z w1 ?_ ?_ ?_ ?_ ?_ ?_ (zFz_trans f4 (zFz_w f yQt_r))
        · rw [f.1 54 0 (12 * x + 2) (nt 2 (by omega))]; exact a2
        · rw [f.1 54 0 (12 * x + 3) (nt 3 (by omega))]; exact a3
        · rw [f.1 54 0 (12 * x + 7) (nt 7 (by omega))]; exact a7
        · rw [f.1 54 0 (12 * x + 8) (nt 8 (by omega))]; exact a8
        · rw [f.1 54 0 (12 * x + 9) (nt 9 (by omega))]; exact a9
        · rw [f.1 54 0 (12 * x + 10) (nt 10 (by omega))]; exact a10
    have c7 := (s3 (12 * x + 7) (by omega) (by omega)).trans w7
    have c8 := (s3 (12 * x + 8) (by omega) (by omega)).trans w8
    have c9 := (s3 (12 * x + 9) (by omega) (by omega)).trans w9
    have c10 := (s3 (12 * x + 10) (by omega) (by omega)).trans w10
    have none : x = 0 ∨ lt (yprog lt a cd).2.1 ≠ 64 → wp_X9_readsNode_b190 K 0 (nI x) s M3 := fun q => by
      have es := yshp_no (lt := lt) (x := x) (a := (yprog lt a cd).2.1) q
      rw [es] at tail
      exact tail M3 rfl z3 b2 b3 c7 c8 c9 c10 f3
    by_cases c0 : x = 0
    · rw [if_pos (show nI x ≤ 0 by rw [c0]; decide)]
      exact none (Or.inl c0)
    · rw [if_neg (zk_nle2 (c := 0) (a := 0) rfl (by omega) (by omega)), z3.2.1]
      refine zy_letter z3.1 z3.2.2.1 hl (by omega) ?_
      by_cases c1 : lt (yprog lt a cd).2.1 = 64
      · rw [if_pos (show zlI lt len (yprog lt a cd).2.1 = 64 from (zlI_eq (n := 64) hl rfl (by omega) (by omega)).mpr c1)]
        refine zy_shp hl hx c0 c1 z3 (fun u M4 v11 f4 => ?_) (fun u M4 z4 a2 a3 f4 => ?_)
        · rw [if_pos rfl]
          refine zy_wrong (fun M' r0 r1 r2 f => ?_)
          rw [if_pos (by decide)]
          exact k1 t u M' r0 r1 (r2.trans v11) (zFz_trans (zFz_w (zFz_trans f3 (zFz_w f4 yQs_r)) yQr_x) (zFz_w f yQw_x))
        · rw [if_neg (by decide)]
          refine tail M4 u z4 a2 a3 ?_ ?_ ?_ ?_ (zFz_trans f3 (zFz_w f4 yQs_r))
          · rw [f4.1 54 0 (12 * x + 7) ne7]; exact c7
          · rw [f4.1 54 0 (12 * x + 8) ne8]; exact c8
          · rw [f4.1 54 0 (12 * x + 9) ne9]; exact c9
          · rw [f4.1 54 0 (12 * x + 10) ne10]; exact c10
      · rw [if_neg (show ¬ zlI lt len (yprog lt a cd).2.1 = 64 from fun z => c1 ((zlI_eq (n := 64) hl rfl (by omega) (by omega)).mp z))]
        exact none (Or.inr c1)
theorem zpm_J {lt : Nat → Nat} {len a : Nat} {st cd : List Nat} {M : gM} (h : zpm lt len a st cd M) : zpm lt len a [] cd (g_uI M 9 0 17 0) := by
  obtain ⟨h1, h2, h3, h4, h5, h6, h7⟩ := h
  refine ⟨?_, ?_, fun j hj => ?_, ?_, trivial, ?_, h7⟩
  · rw [zuI, if_neg (by omega)]; exact h1
  · rw [zuI, if_neg (by omega)]; exact h2
  · rw [zuI, if_neg (by omega)]; exact h3 j hj
  · rw [zuI, if_pos ⟨rfl, rfl, rfl⟩]; rfl
  · rw [zuI, if_neg (by omega)]; exact h6
/-- from where the parent is known -/
theorem zy_nodeR {lt : Nat → Nat} {len a x : Nat} {cd : List Nat} {M M1 : gM} {v : Int32} {K : Int32 → gM → Prop} (hl : zlok lt len) (ha : a ≤ len) (hc : cd.length ≤ a)
    (k0 : (ynode lt len x a cd).1 = 0 → ∀ M', M'.1 52 0 0 = (ynode lt len x a cd).2.2.2.2.1 → M'.1 52 0 1 = (ynode lt len x a cd).2.2.2.2.2.1 → M'.1 52 0 2 = (ynode lt len x a cd).2.2.2.2.2.2 → zFz yQx M M' → K 0 M')
    (k1 : (ynode lt len x a cd).1 = 1 → ∀ M', zpm lt len (ynode lt len x a cd).2.1 [] (ynode lt len x a cd).2.2.1 M' → yNm x (ynode lt len x a cd).2.2.2.1 M' → zFz (yQn x) M M' → K 1 M')
    (hx : x < 12) (hp : (ypar lt x a).1 = 1) (hv : v = (if x = 0 then -1 else nI (ypar lt x a).2.2)) (z1 : zpm lt len (ypar lt x a).2.1 [] cd (g_uI M1 9 0 17 0)) (f1 : zFz (yQn x) M M1) : wp_X9_readsNode_b50 K 0 (nI x) (nI a) 0 (12 * nI x + 0) v M1 := by
  have hlen := hl.1
  obtain ⟨p1, p2, p3⟩ := ypar_le (x := x) hl ha
  have i0 : 12 * nI x + 0 = nI (12 * x) := zix54 x 0
  unfold wp_X9_readsNode_b50
  rw [i0]
  refine ⟨vp_in_nI (by omega) (by omega), ?_⟩
  intro M2 e2
  rw [nI_clamp (by omega)] at e2 ⊢
  have w0 : M2.1 54 0 (12 * x) = v := by rw [e2, zuI, if_pos ⟨rfl, rfl, rfl⟩]
  have f2 : zFz (yQn x) M M2 := zFz_trans f1 (by rw [e2]; exact zFz_u (Or.inr ⟨rfl, rfl, by omega, by omega⟩))
  have z2 : zpm lt len (ypar lt x a).2.1 [] cd (g_uI M2 9 0 17 0) := by
    have e : g_uI M2 9 0 17 0 = g_uI (g_uI M1 9 0 17 0) 54 0 (12 * x) v := by
      rw [e2]
      refine gM_ext (fun a b c => ?_) rfl
      rw [zuI, zuI, zuI, zuI]
      by_cases c1 : a = 9 ∧ b = 0 ∧ c = 17
      · rw [if_pos c1, if_neg (by omega), if_pos c1]
      · rw [if_neg c1, if_neg c1]
    rw [e]
    exact zpm_u z1 (by omega)
  have n0 : ¬ yQr x 54 0 (12 * x) := by unfold yQr yQe; omega
  have go : wp_X9_readsNode_b85 K 0 (nI x) (nI a) M2 := by
    unfold ynode at k0 k1
    rw [if_neg (show ¬ 12 ≤ x by omega), if_neg (show ¬ (ypar lt x a).1 = 0 by omega)] at k0 k1
    refine zy_rest rfl rfl hl hx z2 p1 (by omega) (fun t M' v4 v5 v6 f => ?_) (fun t u M' v4 v5 v6 f => ?_) (fun t u c M' v4 v5 v6 f => ?_) (fun t u c M' z w1 w2 w3 w7 w8 w9 w10 f => ?_)
    · rw [if_pos t] at k0
      exact k0 rfl M' v4 v5 v6 (zFz_trans (zFz_w f2 yQn_x) f)
    · rw [if_neg (show ¬ (yprog lt (ypar lt x a).2.1 cd).1 = 0 by omega), if_pos u] at k0
      exact k0 rfl M' v4 v5 v6 (zFz_trans (zFz_w f2 yQn_x) f)
    · rw [if_neg (show ¬ (yprog lt (ypar lt x a).2.1 cd).1 = 0 by omega), if_neg (show ¬ (yshp lt x (yprog lt (ypar lt x a).2.1 cd).2.1).1 = 0 by omega), if_pos c] at k0
      exact k0 rfl M' v4 v5 v6 (zFz_trans (zFz_w f2 yQn_x) f)
    · rw [if_neg (show ¬ (yprog lt (ypar lt x a).2.1 cd).1 = 0 by omega), if_neg (show ¬ (yshp lt x (yprog lt (ypar lt x a).2.1 cd).2.1).1 = 0 by omega), if_neg (fun q => q c)] at k1
      refine k1 rfl M' z ⟨?_, w1, w2, w3, w7, w8, w9, w10⟩ (zFz_trans f2 (zFz_w f yQr_n))
      rw [f.1 54 0 (12 * x) n0, w0]; exact hv
  by_cases c0 : x = 0
  · rw [if_pos (show nI x ≤ 0 by rw [c0]; decide)]
    exact go
  · rw [if_neg (zk_nle2 (c := 0) (a := 0) rfl (by omega) (by omega))]
    refine ⟨vp_in_nI (by omega) (by omega), ?_⟩
    rw [if_neg c0] at hv
    have := ypar_lt hp (by omega)
    rw [w0, hv, if_pos (nI_pos' (by omega))]
    exact go
theorem zy_node {lt : Nat → Nat} {len a x : Nat} {st cd : List Nat} {M : gM} {K : Int32 → gM → Prop} (hl : zlok lt len) (hx : x ≤ 12) (hz : (0 < x ∧ zpm lt len a st cd M) ∨ (x = 0 ∧ zpm lt len a [] cd (g_uI M 9 0 17 0))) (ha : a ≤ len) (hc : cd.length ≤ a)
    (k0 : (ynode lt len x a cd).1 = 0 → ∀ M', M'.1 52 0 0 = (ynode lt len x a cd).2.2.2.2.1 → M'.1 52 0 1 = (ynode lt len x a cd).2.2.2.2.2.1 → M'.1 52 0 2 = (ynode lt len x a cd).2.2.2.2.2.2 → zFz yQx M M' → K 0 M')
    (k1 : (ynode lt len x a cd).1 = 1 → ∀ M', zpm lt len (ynode lt len x a cd).2.1 [] (ynode lt len x a cd).2.2.1 M' → yNm x (ynode lt len x a cd).2.2.2.1 M' → zFz (yQn x) M M' → K 1 M') : wp_X9_readsNode 0 (nI x) M K := by
  have hlen := hl.1
  have h11 : M.1 9 0 11 = nI a := by
    rcases hz with ⟨_, h⟩ | ⟨_, h⟩
    · exact h.2.1
    · have := h.2.1
      rw [zuI, if_neg (by omega)] at this
      exact this
  unfold wp_X9_readsNode
  intro n4 e4
  rw [h11] at e4
  subst e4
  by_cases c12 : x = 12
  · rw [if_pos (show nI x = 12 by rw [c12]; rfl)]
    refine zy_wrong (fun M' r0 r1 r2 f => ?_)
    rw [if_pos (by decide)]
    unfold ynode at k0
    rw [if_pos (show 12 ≤ x by omega)] at k0
    exact k0 rfl M' r0 r1 r2 (zFz_w f yQw_x)
  rw [if_neg (zk_ne (c := 12) (a := 12) rfl c12 (by omega) (by omega))]
  rcases hz with ⟨hx0, h⟩ | ⟨rfl, h⟩
  · rw [if_neg (nI_ne0 (by omega) (by omega))]
    unfold wp_X9_readsParent
    have ep : ypar lt x a = if lt (zrd lt 2 a 0).1 = 60 ∧ (zrd lt 2 a 0).1 ≠ a ∧ (zrd lt 2 a 0).2 < x then (1, (zrd lt 2 a 0).1 + 1, (zrd lt 2 a 0).2) else (0, a, 0) := by
      unfold ypar
      rw [if_neg (by omega)]
    refine ⟨2 + 1, zy_parL hl (by omega) ha h 2 0 a 0 (by omega) (by omega) (by omega) (fun c M1 z1 f1 => ?_) (fun c => ?_)⟩
    · rw [if_pos c] at ep
      refine zy_nodeR hl ha hc k0 k1 (by omega) (by rw [ep]) (by rw [ep, if_neg (by omega)]) (by rw [ep]; exact zpm_J z1) (zFm_z f1 (fun k o i q => Or.inl q))
    · rw [if_neg c] at ep
      unfold wp_X9_readsNode_b50
      have i0 : 12 * nI x + 0 = nI (12 * x) := zix54 x 0
      rw [i0]
      refine ⟨vp_in_nI (by omega) (by omega), ?_⟩
      intro M2 e2
      rw [nI_clamp (by omega)] at e2 ⊢
      rw [if_neg (zk_nle2 (c := 0) (a := 0) rfl (by omega) (by omega))]
      refine ⟨vp_in_nI (by omega) (by omega), ?_⟩
      have w0 : M2.1 54 0 (12 * x) = -1 := by rw [e2, zuI, if_pos ⟨rfl, rfl, rfl⟩]
      rw [w0, if_neg (by decide)]
      refine zy_wrong (fun M' r0 r1 r2 f => ?_)
      rw [if_pos (by decide)]
      unfold ynode at k0
      rw [if_neg (show ¬ 12 ≤ x by omega), if_pos (show (ypar lt x a).1 = 0 by rw [ep])] at k0
      refine k0 rfl M' r0 r1 r2 (zFz_trans (M1 := M2) ?_ (zFz_w f yQw_x))
      rw [e2]; exact zFz_u (Or.inr (Or.inr (Or.inl ⟨rfl, rfl⟩)))
  · rw [if_pos (by decide)]
    have ep : ypar lt 0 a = (1, a, 0) := by unfold ypar; rw [if_pos rfl]
    exact zy_nodeR hl ha hc k0 k1 (by omega) (by rw [ep]) (by rw [if_pos rfl]) (by rw [ep]; exact h) zFz_refl
