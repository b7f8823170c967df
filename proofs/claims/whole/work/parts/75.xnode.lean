/-! one node, the class: all of it -/
def yNc (x : Nat) (n : yNd) (M : gM) : Prop := M.1 32 5 x = (if x = 0 then -1 else nI n.1) ∧ M.1 34 5 x = nI n.2.1 ∧ M.1 35 5 x = nI n.2.2.1 ∧ (0 < n.2.2.1 → M.1 36 5 x = nI n.2.2.2.1) ∧ M.1 37 5 x = nI n.2.2.2.2.1 ∧ M.1 38 5 x = nI n.2.2.2.2.2.1 ∧ M.1 39 5 x = nI n.2.2.2.2.2.2
def yrestb (R : Nat → Int32 → gM → Prop) (K : Int32 → gM → Prop) (x1 : Int32) (M : gM) : Prop := wp_X6_readProgram 0 x1 M (fun r30 M30 => (if r30 = 0 then wp_X6_readTree_b56 R K 0 x1 M30 else wp_X6_readShaper 0 x1 M30 (fun r38 M38 => (if r38 = 0 then wp_X6_readTree_b56 R K 0 x1 M38 else wp_X6_readEnd 0 x1 M38 (fun r46 M46 => (if r46 = 0 then wp_X6_readTree_b56 R K 0 x1 M46 else wp_X6_readTree_b57 R K 0 x1 1 M46))))))
def ybody (R : Nat → Int32 → gM → Prop) (K : Int32 → gM → Prop) (x1 : Int32) (M : gM) : Prop := wp_X6_readStart 0 x1 M (fun r22 M22 => (if r22 = 0 then wp_X6_readTree_b56 R K 0 x1 M22 else yrestb R K x1 M22))
theorem ybody_eq {K : Int32 → gM → Prop} {f : Nat} {x1 : Int32} {M : gM} : wp_X6_readTree_L14 K (f + 1) 0 x1 M = (if 12 < x1 then K 0 M else ybody (fun o0 x1 M => wp_X6_readTree_L14 K f o0 x1 M) K x1 M) := rfl
theorem gM_ext {M M' : gM} (h : ∀ a b c, M.1 a b c = M'.1 a b c) (h2 : M.2 = M'.2) : M = M' := Prod.ext (funext fun a => funext fun b => funext fun c => h a b c) h2
theorem zx_progJ {x1 : Int32} {M : gM} {K : Int32 → gM → Prop} (h : wp_X6_readProgram 0 x1 (g_uI M 6 0 8 0) K) : wp_X6_readProgram 0 x1 M K := by
  unfold wp_X6_readProgram at h ⊢
  intro M1 e1
  have h2 := h (g_uI M1 6 0 8 0) (by
    rw [e1]
    refine gM_ext (fun a b c => ?_) rfl
    rw [zuI, zuI, zuI, zuI, zuI, if_neg (show ¬ (6 = 6 ∧ 0 = 0 ∧ 3 = 8) by omega)]
    by_cases c1 : a = 6 ∧ b = 0 ∧ c = 8
    · rw [if_pos c1, if_neg (by omega), if_pos c1]
    · rw [if_neg c1, if_neg c1])
  unfold wp_X6_readExpression at h2 ⊢
  intro M2 e2
  refine h2 M2 ?_
  rw [e2]
  refine gM_ext (fun a b c => ?_) rfl
  rw [zuI, zuI, zuI]
  by_cases c1 : a = 6 ∧ b = 0 ∧ c = 8
  · rw [if_pos c1, if_pos c1]
  · rw [if_neg c1, if_neg c1]
def yPr (x k o i : Nat) : Prop := yPe k o i ∨ (k = 6 ∧ o = 0 ∧ (i = 3 ∨ i = 5 ∨ i = 6)) ∨ ((k = 34 ∨ k = 35 ∨ k = 36 ∨ k = 38 ∨ k = 39) ∧ o = 5 ∧ i = x)
theorem yPp_r {x : Nat} : ∀ k o i, yPp x k o i → yPr x k o i := fun k o i h => by
  rcases h with h | ⟨a, b, c⟩ | ⟨a, b, c⟩
  · exact Or.inl h
  · exact Or.inr (Or.inl ⟨a, b, by omega⟩)
  · exact Or.inr (Or.inr ⟨by omega, b, c⟩)
theorem yPs_r {x : Nat} : ∀ k o i, yPs x k o i → yPr x k o i := fun k o i h => by
  rcases h with h | ⟨a, b, c⟩ | ⟨a, b, c⟩
  · exact Or.inl h
  · exact Or.inr (Or.inl ⟨a, b, by omega⟩)
  · exact Or.inr (Or.inr ⟨by omega, b, c⟩)
theorem yPt_r {x : Nat} : ∀ k o i, yPt x k o i → yPr x k o i := fun k o i h => by
  rcases h with ⟨a, b, c⟩ | ⟨a, b, c⟩
  · exact Or.inr (Or.inl ⟨a, b, by omega⟩)
  · exact Or.inr (Or.inr ⟨by omega, b, c⟩)
theorem yPr_n {x : Nat} : ∀ k o i, yPr x k o i → yPn x k o i := fun k o i h => by
  rcases h with h | ⟨a, b, c⟩ | ⟨a, b, c⟩
  · exact yPe_n k o i h
  · exact Or.inl ⟨a, b, by omega, by omega⟩
  · exact Or.inr (Or.inr (Or.inr (Or.inr (Or.inr ⟨by omega, by omega, b, c⟩))))
theorem zx_rest {lt : Nat → Nat} {len a s x : Nat} {cd : List Nat} {M : gM} {R : Nat → Int32 → gM → Prop} {K : Int32 → gM → Prop} {P : Nat × Nat × Nat × List Nat} {Q : Nat × Nat × Nat × Nat} (eP : yprog lt a cd = P) (eQ : yshp lt x P.2.1 = Q) (hl : zlok lt len) (hx : x < 12) (h : zpc lt len a [] cd (g_uI M 6 0 8 0)) (ha : a ≤ len) (hc : cd.length ≤ a) (h4 : M.1 6 0 4 = nI s) (h6 : M.1 6 0 6 = -1) (hr : M.1 35 5 x = 0)
    (k0 : P.1 = 0 → ∀ M', M'.1 6 0 4 = nI s → M'.1 6 0 5 = nI a → M'.1 6 0 6 = nI P.2.1 → zFy (yPr x) M M' → K 0 M')
    (k1 : P.1 = 1 → Q.1 = 0 → ∀ M', M'.1 6 0 4 = nI s → M'.1 6 0 5 = nI P.2.1 → M'.1 6 0 6 = nI Q.2.1 → zFy (yPr x) M M' → K 0 M')
    (k2 : P.1 = 1 → Q.1 = 1 → ¬ yendok lt len Q.2.1 → ∀ M', M'.1 6 0 4 = nI s → M'.1 6 0 5 = nI (yend lt Q.2.1) → M'.1 6 0 6 = -1 → zFy (yPr x) M M' → K 0 M')
    (k3 : P.1 = 1 → Q.1 = 1 → yendok lt len Q.2.1 → ∀ M', zpc lt len (yend lt Q.2.1) [] P.2.2.2 M' → M'.1 34 5 x = nI (ytie (lt Q.2.1)) → M'.1 35 5 x = nI Q.2.2.1 → (0 < Q.2.2.1 → M'.1 36 5 x = nI Q.2.2.2) → M'.1 38 5 x = nI P.2.2.1 → M'.1 39 5 x = nI P.2.2.2.length → zFy (yPr x) M M' → wp_X6_readTree_b57 R K 0 (nI x) 1 M') : yrestb R K (nI x) M := by
  subst eP
  subst eQ
  have b56 : ∀ M', K 0 M' → wp_X6_readTree_b56 R K 0 (nI x) M' := fun M' q => by
    unfold wp_X6_readTree_b56 wp_X6_readTree_b57
    rw [if_pos rfl]; exact q
  have fJ : zFy (yPr x) M (g_uI M 6 0 8 0) := zFy_u (Or.inl (Or.inl ⟨rfl, rfl, Or.inr rfl⟩))
  have j4 : (g_uI M 6 0 8 0).1 6 0 4 = nI s := by rw [zuI, if_neg (by omega)]; exact h4
  have j6 : (g_uI M 6 0 8 0).1 6 0 6 = -1 := by rw [zuI, if_neg (by omega)]; exact h6
  have j35 : (g_uI M 6 0 8 0).1 35 5 x = 0 := by rw [zuI, if_neg (by omega)]; exact hr
  have p4 : ¬ yPp x 6 0 4 := by unfold yPp yPe; omega
  have s4 : ¬ yPs x 6 0 4 := by unfold yPs yPe; omega
  have t4 : ¬ yPt x 6 0 4 := by unfold yPt; omega
  have t6 : ¬ yPt x 6 0 6 := by unfold yPt; omega
  have p35 : ¬ yPp x 35 5 x := by unfold yPp yPe; omega
  have s38 : ¬ yPs x 38 5 x := by unfold yPs yPe; omega
  have s39 : ¬ yPs x 39 5 x := by unfold yPs yPe; omega
  have t35 : ¬ yPt x 35 5 x := by unfold yPt; omega
  have t36 : ¬ yPt x 36 5 x := by unfold yPt; omega
  have t38 : ¬ yPt x 38 5 x := by unfold yPt; omega
  have t39 : ¬ yPt x 39 5 x := by unfold yPt; omega
  obtain ⟨q1, q2⟩ := yprog_keep hl ha hc
  obtain ⟨q3, q4, q5, q6, q7⟩ := yshp_le (x := x) hl q1
  generalize M' : g_uI M 6 0 8 0 = M0 at h fJ j4 j6 j35
  refine zx_progJ ?_
  rw [M']
  refine zx_prog hl hx h ha hc (fun t M1 v5 v6 f1 => ?_) (fun t M1 z1 w38 w39 v6 f1 => ?_)
  · rw [if_pos rfl]
    exact b56 M1 (k0 t M1 (by rw [f1.2 6 0 4 p4]; exact j4) v5 v6 (zFy_trans fJ (zFy_w f1 yPp_r)))
  · rw [if_neg (by decide)]
    have a4 : M1.1 6 0 4 = nI s := by rw [f1.2 6 0 4 p4]; exact j4
    have f1' := zFy_trans fJ (zFy_w f1 yPp_r)
    refine zx_shp hl hx z1 q1 (by rw [f1.2 35 5 x p35]; exact j35) (fun u M2 v5 v6' f2 => ?_) (fun u M2 z2 w35 w36 v6' f2 => ?_)
    · rw [if_pos rfl]
      exact b56 M2 (k1 t u M2 (by rw [f2.2 6 0 4 s4]; exact a4) v5 v6' (zFy_trans f1' (zFy_w f2 yPs_r)))
    · rw [if_neg (by decide)]
      have a4' : M2.1 6 0 4 = nI s := by rw [f2.2 6 0 4 s4]; exact a4
      have a6' : M2.1 6 0 6 = -1 := v6'.trans (v6.trans j6)
      have f2' := zFy_trans f1' (zFy_w f2 yPs_r)
      refine zx_end hl hx z2 q3 (fun c M3 v5 f3 => ?_) (fun c M3 z3 w34 f3 => ?_)
      · rw [if_pos rfl]
        exact b56 M3 (k2 t u c M3 (by rw [f3.2 6 0 4 t4]; exact a4') v5 (by rw [f3.2 6 0 6 t6]; exact a6') (zFy_trans f2' (zFy_w f3 yPt_r)))
      · rw [if_neg (by decide)]
        refine k3 t u c M3 z3 w34 ?_ (fun g => ?_) ?_ ?_ (zFy_trans f2' (zFy_w f3 yPt_r))
        · rw [f3.2 35 5 x t35]; exact w35
        · rw [f3.2 36 5 x t36]; exact w36 g
        · rw [f3.2 38 5 x t38, f2.2 38 5 x s38]; exact w38
        · rw [f3.2 39 5 x t39, f2.2 39 5 x s39]; exact w39
/-- the root's beginning: the stack may hold anything -/
def yPz (k o i : Nat) : Prop := (k = 6 ∧ o = 0 ∧ (i = 4 ∨ i = 5 ∨ i = 6)) ∨ yPa 0 k o i
theorem zx_start0 {M : gM} {K : Int32 → gM → Prop} (h3 : M.1 6 0 3 = nI 0) (hn : M.1 5 5 0 = nI 0) (h10 : M.1 5 5 10 = nI 0) (hK : ∀ M', M'.1 6 0 4 = nI 0 → M'.1 6 0 6 = -1 → M'.1 32 5 0 = -1 → M'.1 35 5 0 = 0 → M'.1 37 5 0 = nI 0 → M'.1 5 5 0 = nI 1 → M'.1 33 5 0 = nI 0 → zFy yPz M M' → K 1 M') : wp_X6_readStart 0 (nI 0) M K := by
  unfold wp_X6_readStart
  intro M1 e1 M2 e2 M3 e3
  rw [h3] at e1
  rw [if_pos (zk_lt (c := 12) (a := 12) rfl (by omega) (by omega)), if_pos (by decide)]
  unfold wp_X5_addNode
  have hn3 : M3.1 5 5 0 = nI 0 := by rw [e3, zuI, if_neg (by omega), e2, zuI, if_neg (by omega), e1, zuI, if_neg (by omega)]; exact hn
  intro n4 e4
  rw [hn3] at e4
  subst e4
  rw [if_neg (nI_pos (by omega)), if_pos (zk_lt (c := 12) (a := 12) rfl (by omega) (by omega))]
  have hin : vp_in (nI 0) 12 := vp_in_nI (by omega) (by omega)
  refine ⟨hin, ?_⟩
  intro M4 e4
  refine ⟨hin, ?_⟩
  intro M5 e5
  refine ⟨hin, ?_⟩
  intro M6 e6
  refine ⟨hin, ?_⟩
  intro M7 e7
  rw [nI_clamp (by omega)] at e4 e5 e6 e7
  have g10 : M6.1 5 5 10 = nI 0 := by rw [e6, zuI, if_neg (by omega), e5, zuI, if_neg (by omega), e4, zuI, if_neg (by omega), e3, zuI, if_neg (by omega), e2, zuI, if_neg (by omega), e1, zuI, if_neg (by omega)]; exact h10
  rw [g10] at e7
  unfold wp_X5_hasNode
  rw [if_pos (show (-1 : Int32) < 0 by decide)]
  show (if (0 : Int32) = 0 then _ else _)
  rw [if_pos rfl]
  unfold wp_X5_addNode_b65
  intro M8 e8
  have g5 : M7.1 5 5 0 = nI 0 := by rw [e7, zuI, if_neg (by omega), e6, zuI, if_neg (by omega), e5, zuI, if_neg (by omega), e4, zuI, if_neg (by omega)]; exact hn3
  rw [g5, nI_1] at e8
  refine hK M8 ?_ ?_ ?_ ?_ ?_ ?_ ?_ ?_
  · rw [e8, zuI, if_neg (by omega), e7, zuI, if_neg (by omega), e6, zuI, if_neg (by omega), e5, zuI, if_neg (by omega), e4, zuI, if_neg (by omega), e3, zuI, if_neg (by omega), e2, zuI, if_neg (by omega), e1, zuI, if_pos ⟨rfl, rfl, rfl⟩]
  · rw [e8, zuI, if_neg (by omega), e7, zuI, if_neg (by omega), e6, zuI, if_neg (by omega), e5, zuI, if_neg (by omega), e4, zuI, if_neg (by omega), e3, zuI, if_pos ⟨rfl, rfl, rfl⟩]
  · rw [e8, zuI, if_neg (by omega), e7, zuI, if_neg (by omega), e6, zuI, if_neg (by omega), e5, zuI, if_neg (by omega), e4, zuI, if_pos ⟨rfl, rfl, rfl⟩]
  · rw [e8, zuI, if_neg (by omega), e7, zuI, if_neg (by omega), e6, zuI, if_pos ⟨rfl, rfl, rfl⟩]
  · rw [e8, zuI, if_neg (by omega), e7, zuI, if_pos ⟨rfl, rfl, rfl⟩]
  · rw [e8, zuI, if_pos ⟨rfl, rfl, rfl⟩]
  · rw [e8, zuI, if_neg (by omega), e7, zuI, if_neg (by omega), e6, zuI, if_neg (by omega), e5, zuI, if_pos ⟨rfl, rfl, rfl⟩]; rfl
  · rw [e8, e7, e6, e5, e4, e3, e2, e1]
    exact zFy_trans (zFy_trans (zFy_trans (zFy_trans (zFy_trans (zFy_trans (zFy_trans (zFy_u (Or.inl ⟨rfl, rfl, Or.inl rfl⟩)) (zFy_u (Or.inl ⟨rfl, rfl, Or.inr (Or.inl rfl)⟩))) (zFy_u (Or.inl ⟨rfl, rfl, Or.inr (Or.inr rfl)⟩))) (zFy_u (Or.inr (Or.inr (Or.inr ⟨Or.inl rfl, rfl, rfl⟩))))) (zFy_u (Or.inr (Or.inr (Or.inl ⟨rfl, rfl⟩))))) (zFy_u (Or.inr (Or.inr (Or.inr ⟨Or.inr (Or.inl rfl), rfl, rfl⟩))))) (zFy_u (Or.inr (Or.inr (Or.inr ⟨Or.inr (Or.inr rfl), rfl, rfl⟩))))) (zFy_u (Or.inr (Or.inl ⟨rfl, rfl, rfl⟩)))
theorem zpc_J {lt : Nat → Nat} {len a : Nat} {st cd : List Nat} {M : gM} (h : zpc lt len a st cd M) : zpc lt len a [] cd (g_uI M 6 0 8 0) := by
  obtain ⟨h1, h2, h3, h4, h5, h6, h7⟩ := h
  refine ⟨?_, ?_, fun j hj => ?_, ?_, trivial, ?_, fun j c hc => ?_⟩
  · rw [zuI, if_neg (by omega)]; exact h1
  · rw [zuI, if_neg (by omega)]; exact h2
  · rw [zuI, if_neg (by omega)]; exact h3 j hj
  · rw [zuI, if_pos ⟨rfl, rfl, rfl⟩]; rfl
  · rw [zuI, if_neg (by omega)]; exact h6
  · rw [zuI, if_neg (by omega)]; exact h7 j c hc
/-- one node: from where it begins -/
theorem zx_nodeR {lt : Nat → Nat} {len a x : Nat} {cc : Nat → Nat} {cd : List Nat} {M M1 : gM} {R : Nat → Int32 → gM → Prop} {K : Int32 → gM → Prop} (hl : zlok lt len) (ha : a ≤ len) (hc : cd.length ≤ a)
    (k0 : (ynode lt len x a cd).1 = 0 → ∀ M', M'.1 6 0 4 = (ynode lt len x a cd).2.2.2.2.1 → M'.1 6 0 5 = (ynode lt len x a cd).2.2.2.2.2.1 → M'.1 6 0 6 = (ynode lt len x a cd).2.2.2.2.2.2 → zFy (yPn x) M M' → K 0 M')
    (k1 : (ynode lt len x a cd).1 = 1 → ∀ M', zpc lt len (ynode lt len x a cd).2.1 [] (ynode lt len x a cd).2.2.1 M' → yNc x (ynode lt len x a cd).2.2.2.1 M' → M'.1 5 5 0 = nI (x + 1) → (∀ i, i < x + 1 → M'.1 33 5 i = nI (if i = x then 0 else if i = (if x = 0 then 12 else (ynode lt len x a cd).2.2.2.1.1) then cc i + 1 else cc i)) → zFy (yPn x) M M' → wp_X6_readTree_b57 R K 0 (nI x) 1 M')
    (hx : x < 12) (hp : (ypar lt x a).1 = 1) (z1 : zpc lt len (ypar lt x a).2.1 [] cd (g_uI M1 6 0 8 0)) (w4 : M1.1 6 0 4 = nI a) (w6 : M1.1 6 0 6 = -1) (w32 : M1.1 32 5 x = (if x = 0 then -1 else nI (ypar lt x a).2.2)) (w35 : M1.1 35 5 x = 0) (w37 : M1.1 37 5 x = nI cd.length) (w5 : M1.1 5 5 0 = nI (x + 1)) (w33 : ∀ i, i < x + 1 → M1.1 33 5 i = nI (if i = x then 0 else if i = (if x = 0 then 12 else (ypar lt x a).2.2) then cc i + 1 else cc i)) (f1 : zFy (yPn x) M M1) : yrestb R K (nI x) M1 := by
  unfold ynode at k0 k1
  rw [if_neg (show ¬ 12 ≤ x by omega), if_neg (show ¬ (ypar lt x a).1 = 0 by omega)] at k0 k1
  obtain ⟨p1, p2, p3⟩ := ypar_le (x := x) hl ha
  have r32 : ¬ yPr x 32 5 x := by unfold yPr yPe; omega
  have r37 : ¬ yPr x 37 5 x := by unfold yPr yPe; omega
  have r5 : ¬ yPr x 5 5 0 := by unfold yPr yPe; omega
  have r33 : ∀ i, ¬ yPr x 33 5 i := fun i => by unfold yPr yPe; omega
  refine zx_rest rfl rfl hl hx z1 p1 (by omega) w4 w6 w35 (fun t M' v4 v5 v6 f => ?_) (fun t u M' v4 v5 v6 f => ?_) (fun t u c M' v4 v5 v6 f => ?_) (fun t u c M' z w34 w35' w36 w38 w39 f => ?_)
  · rw [if_pos t] at k0
    exact k0 rfl M' v4 v5 v6 (zFy_trans f1 (zFy_w f yPr_n))
  · rw [if_neg (show ¬ (yprog lt (ypar lt x a).2.1 cd).1 = 0 by omega), if_pos u] at k0
    exact k0 rfl M' v4 v5 v6 (zFy_trans f1 (zFy_w f yPr_n))
  · rw [if_neg (show ¬ (yprog lt (ypar lt x a).2.1 cd).1 = 0 by omega), if_neg (show ¬ (yshp lt x (yprog lt (ypar lt x a).2.1 cd).2.1).1 = 0 by omega), if_pos c] at k0
    exact k0 rfl M' v4 v5 v6 (zFy_trans f1 (zFy_w f yPr_n))
  · rw [if_neg (show ¬ (yprog lt (ypar lt x a).2.1 cd).1 = 0 by omega), if_neg (show ¬ (yshp lt x (yprog lt (ypar lt x a).2.1 cd).2.1).1 = 0 by omega), if_neg (fun q => q c)] at k1
    refine k1 rfl M' z ⟨?_, w34, w35', w36, ?_, w38, w39⟩ ?_ (fun i hi => ?_) (zFy_trans f1 (zFy_w f yPr_n))
    · rw [f.2 32 5 x r32]; exact w32
    · rw [f.2 37 5 x r37]; exact w37
    · rw [f.2 5 5 0 r5]; exact w5
    · rw [f.2 33 5 i (r33 i)]; exact w33 i hi
theorem zx_node {lt : Nat → Nat} {len a x : Nat} {cc : Nat → Nat} {st cd : List Nat} {M : gM} {R : Nat → Int32 → gM → Prop} {K : Int32 → gM → Prop} (hl : zlok lt len) (hx : x ≤ 12) (hz : (0 < x ∧ zpc lt len a st cd M) ∨ (x = 0 ∧ a = 0 ∧ cd = [] ∧ zpc lt len 0 [] [] (g_uI M 6 0 8 0))) (ha : a ≤ len) (hc : cd.length ≤ a) (hn : M.1 5 5 0 = nI x) (hch : ∀ i, i < x → M.1 33 5 i = nI (cc i))
    (k0 : (ynode lt len x a cd).1 = 0 → ∀ M', M'.1 6 0 4 = (ynode lt len x a cd).2.2.2.2.1 → M'.1 6 0 5 = (ynode lt len x a cd).2.2.2.2.2.1 → M'.1 6 0 6 = (ynode lt len x a cd).2.2.2.2.2.2 → zFy (yPn x) M M' → K 0 M')
    (k1 : (ynode lt len x a cd).1 = 1 → ∀ M', zpc lt len (ynode lt len x a cd).2.1 [] (ynode lt len x a cd).2.2.1 M' → yNc x (ynode lt len x a cd).2.2.2.1 M' → M'.1 5 5 0 = nI (x + 1) → (∀ i, i < x + 1 → M'.1 33 5 i = nI (if i = x then 0 else if i = (if x = 0 then 12 else (ynode lt len x a cd).2.2.2.1.1) then cc i + 1 else cc i)) → zFy (yPn x) M M' → wp_X6_readTree_b57 R K 0 (nI x) 1 M') : ybody R K (nI x) M := by
  unfold ybody
  rcases hz with ⟨hx0, h⟩ | ⟨rfl, rfl, rfl, h⟩
  · refine zx_start (cc := cc) hl hx h ha hn hch (fun t M1 v4 v5 v6 f1 => ?_) (fun t u M1 z1 v4 v6 w32 w35 w37 w5 w33 f1 => ?_)
    · rw [if_pos rfl]
      unfold wp_X6_readTree_b56 wp_X6_readTree_b57
      rw [if_pos rfl]
      unfold ynode at k0
      by_cases c : 12 ≤ x
      · rw [if_pos c] at k0
        exact k0 rfl M1 v4 v5 v6 (zFy_w f1 yPb_n)
      · rw [if_neg c, if_pos (show (ypar lt x a).1 = 0 by omega)] at k0
        exact k0 rfl M1 v4 v5 v6 (zFy_w f1 yPb_n)
    · rw [if_neg (by decide)]
      exact zx_nodeR (cc := cc) hl ha hc k0 k1 t u (zpc_J z1) v4 v6 w32 w35 w37 w5 w33 (zFy_w f1 yPb_n)
  · obtain ⟨h1, h2, h3, h4, h5, h6, h7⟩ := h
    have hw : ∀ k o i, yPz k o i → yPn 0 k o i := fun k o i q => by
      rcases q with ⟨q1, q2, q3⟩ | q
      · exact Or.inl ⟨q1, q2, by omega, by omega⟩
      · exact yPa_n k o i q
    have n41 : ∀ i, ¬ yPz 41 0 i := fun i => by unfold yPz yPa; omega
    have n40 : ∀ i, ¬ yPz 40 5 i := fun i => by unfold yPz yPa; omega
    have n62 : ¬ yPz 6 0 2 := by unfold yPz yPa; omega
    have n63 : ¬ yPz 6 0 3 := by unfold yPz yPa; omega
    have n510 : ¬ yPz 5 5 10 := by unfold yPz yPa; omega
    rw [zuI, if_neg (by omega)] at h1 h2 h6
    refine zx_start0 h2 hn h6 (fun M1 v4 v6 w32 w35 w37 w5 w33 f1 => ?_)
    rw [if_neg (by decide)]
    have ep : ypar lt 0 0 = (1, 0, 0) := by unfold ypar; rw [if_pos rfl]
    refine zx_nodeR (cc := cc) hl ha hc k0 k1 (by omega) (by rw [ep]) ?_ v4 v6 w32 w35 w37 w5 (fun i hi => ?_) (zFy_w f1 hw)
    · rw [ep]
      refine ⟨?_, ?_, fun j hj => ?_, ?_, trivial, ?_, fun j c hc => ?_⟩
      · rw [zuI, if_neg (by omega), f1.2 6 0 2 n62]; exact h1
      · rw [zuI, if_neg (by omega), f1.2 6 0 3 n63]; exact h2
      · have := h3 j hj
        rw [zuI, if_neg (by omega)] at this
        rw [zuI, if_neg (by omega), f1.2 41 0 j (n41 j)]; exact this
      · rw [zuI, if_pos ⟨rfl, rfl, rfl⟩]; rfl
      · rw [zuI, if_neg (by omega), f1.2 5 5 10 n510]; exact h6
      · simp at hc
    · have : i = 0 := by omega
      subst this
      rw [if_pos rfl]; exact w33
