/-! loadTree -/
def yeok (e : Int32 × Int32 × Int32) : Prop := ∃ p, p ≤ 120 ∧ e.2.1 = nI p ∧ (e.2.2 = -1 ∨ ∃ q, q ≤ 120 ∧ e.2.2 = nI q)
theorem ynode_err {lt : Nat → Nat} {len x a : Nat} {cd : List Nat} (hl : zlok lt len) (ha : a ≤ len) (hc : cd.length ≤ a) : (ynode lt len x a cd).1 = 0 → yeok (ynode lt len x a cd).2.2.2.2 := by
  have hlen := hl.1
  unfold ynode
  by_cases c1 : 12 ≤ x
  · rw [if_pos c1]; exact fun _ => ⟨a, by omega, rfl, Or.inl rfl⟩
  rw [if_neg c1]
  obtain ⟨p1, p2, p3⟩ := ypar_le (x := x) hl ha
  by_cases c2 : (ypar lt x a).1 = 0
  · rw [if_pos c2]; exact fun _ => ⟨a, by omega, rfl, Or.inl rfl⟩
  rw [if_neg c2]
  generalize ypar lt x a = pa at p1 p2 p3 c2 ⊢
  obtain ⟨q1, q2⟩ := yprog_keep (cd := cd) hl p1 (by omega)
  by_cases c3 : (yprog lt pa.2.1 cd).1 = 0
  · rw [if_pos c3]; exact fun _ => ⟨pa.2.1, by omega, rfl, Or.inr ⟨_, by omega, rfl⟩⟩
  rw [if_neg c3]
  generalize yprog lt pa.2.1 cd = pr at q1 c3 ⊢
  obtain ⟨s1, s2, s3, s4, s5⟩ := yshp_le (x := x) hl q1
  by_cases c4 : (yshp lt x pr.2.1).1 = 0
  · rw [if_pos c4]; exact fun _ => ⟨pr.2.1, by omega, rfl, Or.inr ⟨_, by omega, rfl⟩⟩
  rw [if_neg c4]
  generalize yshp lt x pr.2.1 = sh at s1 c4 ⊢
  by_cases c5 : yendok lt len sh.2.1
  · rw [if_neg (fun q => q c5)]
    exact fun q => absurd q (by show ¬ (1 = 0); decide)
  · rw [if_pos c5]
    obtain ⟨e1, e2⟩ := yend_le hl s1
    exact fun _ => ⟨_, by omega, rfl, Or.inl rfl⟩
theorem ytree_err {lt : Nat → Nat} {len : Nat} (hl : zlok lt len) : ∀ (f a : Nat) (cd : List Nat) (nd : List yNd), nd.length + f = 13 → nd.length ≤ 12 → a ≤ len → cd.length ≤ a → yok nd cd → (ytree lt len f nd.length a cd nd).1 = 0 → yeok (ytree lt len f nd.length a cd nd).2.2.2
  | 0, a, cd, nd, _, _, _, _, _ => by omega
  | f + 1, a, cd, nd, hf, h12, ha, hc, hk => by
    rw [ytree_succ]
    have hE := ynode_err (x := nd.length) hl ha hc
    rcases ynode_keep hl ha hc hk with k | ⟨k1, k2, k3, k4, k5, k6⟩
    · rw [if_pos k]
      exact fun _ => hE k
    · rw [if_neg (by omega)]
      by_cases c : (ynode lt len nd.length a cd).2.1 = len
      · rw [if_pos c]
        exact fun q => absurd q (by show ¬ (1 = 0); decide)
      · rw [if_neg c]
        rcases k5 with k5 | k5
        · exact absurd k5 c
        have al := zlok_lt hl (i := (ynode lt len nd.length a cd).2.1) (by omega)
        have ih := ytree_err hl f ((ynode lt len nd.length a cd).2.1 + 1) (ynode lt len nd.length a cd).2.2.1 (nd ++ [(ynode lt len nd.length a cd).2.2.2.1]) (by rw [List.length_append, List.length_singleton]; omega) (by rw [List.length_append, List.length_singleton]; omega) al (by omega) k6
        rw [List.length_append, List.length_singleton] at ih
        exact ih
theorem yneg : ∀ r, r < 121 → (-1 : Int32) - nI r < 0 := by decide +kernel
theorem yerr_neg {e : Int32 × Int32 × Int32} (h : yeok e) : yerr e < 0 := by
  obtain ⟨p, hp, h5, h6⟩ := h
  unfold yerr
  rcases h6 with h6 | ⟨q, hq, h6⟩
  · rw [h6, if_pos (by decide), h5]; exact yneg p (by omega)
  · rw [h6, if_neg (nI_pos (by omega))]; exact yneg q (by omega)
/-- the class has read -/
def yPA (k o _i : Nat) : Prop := ((k = 6 ∨ k = 41 ∨ k = 42 ∨ k = 45) ∧ o = 0) ∨ ((k = 5 ∨ (32 ≤ k ∧ k ≤ 40)) ∧ o = 5)
theorem yPk_A : ∀ k o i, yPk k o i → yPA k o i := fun k o i h => by
  rcases h with ⟨a, b, _⟩ | ⟨a, b⟩
  · exact Or.inl ⟨Or.inl a, b⟩
  · exact Or.inl ⟨Or.inr (Or.inl a), b⟩
theorem yPT_A : ∀ k o i, yPT k o i → yPA k o i := fun k o i h => by
  rcases h with ⟨a, b, _⟩ | ⟨a, b⟩ | ⟨a, b⟩ | ⟨a, b, c⟩
  · exact Or.inl ⟨Or.inl a, b⟩
  · exact Or.inl ⟨Or.inr (Or.inr (Or.inl a)), b⟩
  · exact Or.inr ⟨Or.inl a, b⟩
  · exact Or.inr ⟨Or.inr ⟨a, b⟩, c⟩
theorem zA_row {M M' : gM} (f : zFy yPA M M') {k o : Nat} (h : ∀ i, ¬ yPA k o i) : M'.1 k o = M.1 k o ∧ M'.2 k o = M.2 k o := ⟨funext fun i => f.2 k o i (h i), by rw [f.1]⟩
theorem zTc_A {M M' : gM} {S : zW} {ks : List zW} {tx : List Nat} {er er' : Nat → Int32} {c : Nat} (hp : zTp S ks tx c) (h : zTc M S ks tx er) (f : zFy yPA M M') (he : ∀ i, i < 3 → M'.1 45 0 i = er' i) : zTc M' S ks tx er' := by
  obtain ⟨h1, h2, h3, h4, h5, h6⟩ := h
  have r8 := (zA_row f (k := 8) (o := 0) (fun i => by unfold yPA; omega)).1
  have r44 := (zA_row f (k := 44) (o := 0) (fun i => by unfold yPA; omega)).1
  have hk3 := hp.2.2.1
  refine ⟨zC_cong (zOK_n hp.1).1 h1 (fun k o a b q => zA_row f (fun i => ?_)), fun i T hT => zC_cong (zOK_n (hp.2.1 i T hT)).1 (h2 i T hT) (fun k o a b q => zA_row f (fun j => ?_)), ?_, ?_, fun i a ha => ?_, he⟩
  · unfold zin at q
    unfold yPA
    omega
  · have := (List.getElem?_eq_some_iff.mp hT).1
    unfold zin at q
    unfold yPA
    omega
  · rw [r8]; exact h3
  · rw [r8]; exact h4
  · rw [r44]; exact h5 i a ha
theorem zsM_A {M M' : gM} (f : zFy yPA M M') : zsM M M' := fun k o q => zA_row f (fun i => by unfold yPA; omega)
/-- the reference has read -/
def yQA (k o i : Nat) : Prop := (k = 9 ∧ o = 0 ∧ i ≠ 3 ∧ i ≠ 7) ∨ ((k = 52 ∨ k = 53 ∨ k = 54 ∨ k = 56) ∧ o = 0)
theorem yQk_A : ∀ k o i, yQk k o i → yQA k o i := fun k o i h => by
  rcases h with ⟨a, b, c⟩ | ⟨a, b⟩
  · exact Or.inl ⟨a, b, by omega, by omega⟩
  · exact Or.inr ⟨Or.inr (Or.inl a), b⟩
theorem yQx_A : ∀ k o i, yQx k o i → yQA k o i := fun k o i h => by
  rcases h with ⟨a, b, c⟩ | ⟨a, b⟩ | ⟨a, b⟩ | ⟨a, b⟩
  · exact Or.inl ⟨a, b, by omega, by omega⟩
  · exact Or.inr ⟨Or.inr (Or.inr (Or.inr a)), b⟩
  · exact Or.inr ⟨Or.inr (Or.inr (Or.inl a)), b⟩
  · exact Or.inr ⟨Or.inl a, b⟩
theorem zQ_row {M M' : gM} (f : zFz yQA M M') {k o : Nat} (h : ∀ i, ¬ yQA k o i) : M'.1 k o = M.1 k o := funext fun i => f.1 k o i (h i)
theorem zTm_A {M M' : gM} {S : zW} {ks : List zW} {tx : List Nat} {er er' : Nat → Int32} (h : zTm M S ks tx er) (f : zFz yQA M M') (he : ∀ i, i < 3 → M'.1 52 0 i = er' i) : zTm M' S ks tx er' := by
  obtain ⟨h1, h2, h3, h4, h5, h6, h7⟩ := h
  refine ⟨?_, fun i T hT => ?_, ?_, ?_, fun i a ha => ?_, he, ?_⟩
  · rw [f.2 47 0 (by omega)]; exact h1
  · rw [f.2 49 0 (by omega)]; exact h2 i T hT
  · rw [f.1 9 0 3 (by unfold yQA; omega)]; exact h3
  · rw [f.1 9 0 7 (by unfold yQA; omega)]; exact h4
  · rw [f.1 51 0 i (by unfold yQA; omega)]; exact h5 i a ha
  · rw [zQ_row f (k := 50) (o := 0) (fun i => by unfold yQA; omega)]; exact h7
theorem zsC_A {M M' : gM} (f : zFz yQA M M') : zsC M M' := fun k o q => ⟨zQ_row f (fun i => by unfold yQA; omega), f.2 k o (by omega)⟩
/-- the class keeps where it went wrong -/
def yP45 (k o _i : Nat) : Prop := k = 45 ∧ o = 0
theorem yP45_A : ∀ k o i, yP45 k o i → yPA k o i := fun k o i h => Or.inl ⟨Or.inr (Or.inr (Or.inr h.1)), h.2⟩
theorem zx_errL {x1 : Int32} {M0 : gM} {e : Nat → Int32} {K : Int32 → gM → Prop} (h0 : x1 = 0 → M0.1 6 0 4 = e 0 ∧ M0.1 6 0 5 = e 1 ∧ M0.1 6 0 6 = e 2) (h1 : x1 ≠ 0 → ∀ i, e i = -1) (hK : ∀ M', (∀ i, i < 3 → M'.1 45 0 i = e i) → zFy yP45 M0 M' → (if x1 = 0 then wp_X6_lastError 0 M' (fun r71 M71 => K ((-1) - r71) M71) else ∀ M78 : gM, M78 = g_uI M' 8 0 1 0 → wp_X7_startWith 0 5 M78 (fun M92 => K (M92.1 5 0 0) M92))) : ∀ (n j : Nat) (M : gM), j + n = 3 → (∀ i, i < j → M.1 45 0 i = e i) → zFy yP45 M0 M → wp_X8_loadTree_L25 K (n + 1) 0 x1 (nI j) M
  | 0, j, M, ej, h, f => by
    unfold wp_X8_loadTree_L25
    rw [if_pos (zk_le2 (c := 3) (a := 3) rfl (by omega) (by omega))]
    have : j = 3 := by omega
    subst this
    exact hK M h f
  | n + 1, j, M, ej, h, f => by
    unfold wp_X8_loadTree_L25
    rw [if_neg (zk_nle (c := 3) (a := 3) rfl (by omega) (by omega))]
    have st : wp_X8_loadTree_b55 (fun o0 x1 x2 M => wp_X8_loadTree_L25 K (n + 1) o0 x1 x2 M) K 0 x1 (nI j) 0 (nI j) (e j) M := by
      unfold wp_X8_loadTree_b55
      refine ⟨vp_in_nI (by omega) (by omega), ?_⟩
      intro M1 e1 n56 e56
      rw [zn_p1] at e56
      subst e56
      rw [nI_clamp (by omega)] at e1
      refine zx_errL h0 h1 hK n (j + 1) M1 (by omega) (fun i hi => ?_) (zFy_trans f (by rw [e1]; exact zFy_u ⟨rfl, rfl⟩))
      rw [e1, zuI]
      by_cases c : i = j
      · rw [if_pos ⟨rfl, rfl, c⟩, c]
      · rw [if_neg (fun q => c q.2.2)]; exact h i (by omega)
    by_cases c : x1 = 0
    · rw [if_pos c]
      obtain ⟨a0, a1, a2⟩ := h0 c
      have n6 : ∀ i, ¬ yP45 6 0 i := fun i => by unfold yP45; omega
      unfold wp_X6_errorAt
      rw [f.2 6 0 4 (n6 4), f.2 6 0 5 (n6 5), f.2 6 0 6 (n6 6), a0, a1, a2]
      rcases (show j = 0 ∨ j = 1 ∨ j = 2 by omega) with rfl | rfl | rfl
      · rw [if_pos (by decide)]; exact st
      · rw [if_neg (by decide), if_pos (by decide)]; exact st
      · rw [if_neg (by decide), if_neg (by decide)]; exact st
    · rw [if_neg c]
      rw [h1 c j] at st
      exact st
def yt3 (t : Int32 × Int32 × Int32) (i : Nat) : Int32 := if i = 0 then t.1 else if i = 1 then t.2.1 else t.2.2
theorem ylok {tx : List Nat} (h1 : tx.length ≤ 120) (h2 : ∀ a ∈ tx, 32 ≤ a ∧ a ≤ 126) : zlok (fun i => tx.getD i 0) tx.length := by
  refine ⟨h1, fun i hi => ?_, fun i hi => ?_⟩
  · have e : tx.getD i 0 = tx[i] := by rw [List.getD_eq_getElem?_getD, List.getElem?_eq_getElem hi]; rfl
    show 32 ≤ tx.getD i 0 ∧ tx.getD i 0 ≤ 126
    rw [e]
    exact h2 _ (List.getElem_mem hi)
  · show tx.getD i 0 = 0
    rw [List.getD_eq_getElem?_getD, List.getElem?_eq_none hi]; rfl
theorem ytx_get {tx : List Nat} {i : Nat} (h : i < tx.length) : tx[i]? = some (tx.getD i 0) := by
  rw [List.getD_eq_getElem?_getD, List.getElem?_eq_getElem h]; rfl
/-- the reference's loadTree: from its text -/
theorem zm_loadTree {tx : List Nat} {F : Nat} {M : gM} {S : zW} {ks : List zW} {er : Nat → Int32} {K : Int32 → gM → Prop} (hF : F = 13) (hl : zlok (fun i => tx.getD i 0) tx.length) (h : zTm M S ks tx er)
    (k0 : (ytree (fun i => tx.getD i 0) tx.length F 0 0 [] []).1 = 0 → ∀ M', zTm M' S ks tx (yt3 (ytree (fun i => tx.getD i 0) tx.length F 0 0 [] []).2.2.2) → zsC M M' → M'.1 9 0 4 = 0 → K (yerr (ytree (fun i => tx.getD i 0) tx.length F 0 0 [] []).2.2.2) M')
    (k1 : (ytree (fun i => tx.getD i 0) tx.length F 0 0 [] []).1 = 1 → ∀ M', zM (ytree (fun i => tx.getD i 0) tx.length F 0 0 [] []).2.2.1.length 0 (M'.2 47 0) (ynew (zN S 3) (zN S 2 0) (yleaf (ytree (fun i => tx.getD i 0) tx.length F 0 0 [] []).2.2.1) (ytree (fun i => tx.getD i 0) tx.length F 0 0 [] []).2.2.1 (ytree (fun i => tx.getD i 0) tx.length F 0 0 [] []).2.1) → zTm M' (ynew (zN S 3) (zN S 2 0) (yleaf (ytree (fun i => tx.getD i 0) tx.length F 0 0 [] []).2.2.1) (ytree (fun i => tx.getD i 0) tx.length F 0 0 [] []).2.2.1 (ytree (fun i => tx.getD i 0) tx.length F 0 0 [] []).2.1) ks [] (fun _ => -1) → zsC M M' → M'.1 9 0 4 = 0 → K (nI (ytree (fun i => tx.getD i 0) tx.length F 0 0 [] []).2.2.1.length) M') : wp_X9_loadTree 0 M K := by
  have keep := ytree_keep hl F 0 [] [] (by simp; exact hF) (by omega) (by simp) yok_nil
  have err := ytree_err hl F 0 [] [] (by simp; exact hF) (by simp) (by omega) (by simp) yok_nil
  rw [List.length_nil] at keep err
  have c1 : (1 : Int32).toNatClampNeg = 1 := by decide
  have c2 : (2 : Int32).toNatClampNeg = 2 := by decide
  unfold wp_X9_loadTree
  intro M1 e1
  refine ⟨zvi (by omega) (by omega), ?_⟩
  intro M2 e2
  refine ⟨zvi (by omega) (by omega), ?_⟩
  intro M3 e3
  refine ⟨zvi (by omega) (by omega), ?_⟩
  intro M4 e4
  rw [zcl0] at e2
  rw [c1] at e3
  rw [c2] at e4
  have f4 : zFz yQA M M4 := by
    rw [e4, e3, e2, e1]
    exact zFz_trans (zFz_trans (zFz_trans (zFz_u (Or.inl ⟨rfl, rfl, by omega, by omega⟩)) (zFz_u (Or.inr ⟨Or.inl rfl, rfl⟩))) (zFz_u (Or.inr ⟨Or.inl rfl, rfl⟩))) (zFz_u (Or.inr ⟨Or.inl rfl, rfl⟩))
  have x4 : ∀ i, i < 3 → M4.1 52 0 i = -1 := fun i hi => by
    rcases (show i = 0 ∨ i = 1 ∨ i = 2 by omega) with rfl | rfl | rfl
    · rw [e4, zuI, if_neg (by omega), e3, zuI, if_neg (by omega), e2, zuI, if_pos ⟨rfl, rfl, rfl⟩]
    · rw [e4, zuI, if_neg (by omega), e3, zuI, if_pos ⟨rfl, rfl, rfl⟩]
    · rw [e4, zuI, if_pos ⟨rfl, rfl, rfl⟩]
  have t4 : M4.1 9 0 4 = 0 := by rw [e4, zuI, if_neg (by omega), e3, zuI, if_neg (by omega), e2, zuI, if_neg (by omega), e1, zuI, if_pos ⟨rfl, rfl, rfl⟩]
  have hm4 : zTm M4 S ks tx (fun _ => -1) := zTm_A h f4 x4
  refine zy_take hl hm4.2.2.2.1 (fun i hi => hm4.2.2.2.2.1 i _ (ytx_get hi)) (fun M5 b10 b53 f5 => ?_)
  have t5 : M5.1 9 0 4 = 0 := by rw [f5.1 9 0 4 (by unfold yQk; omega)]; exact t4
  refine zy_tree hF hl b10 b53 (fun t M6 q0 q1 q2 f6 => ?_) (fun t M6 q15 qc qN f6 => ?_)
  · rw [if_pos (yerr_neg (err t))]
    have f6' : zFz yQA M M6 := zFz_trans f4 (zFz_trans (zFz_w f5 yQk_A) (zFz_w f6 yQx_A))
    refine k0 t M6 (zTm_A h f6' (fun i hi => ?_)) (zsC_A f6') (by rw [f6.1 9 0 4 (by unfold yQx; omega)]; exact t5)
    rcases (show i = 0 ∨ i = 1 ∨ i = 2 by omega) with rfl | rfl | rfl
    · exact q0
    · exact q1
    · exact q2
  · rcases keep with keep | ⟨_, g2, g3, g4⟩
    · omega
    rw [if_neg (nI_pos (by omega))]
    have f56 : zFz yQA M4 M6 := zFz_trans (zFz_w f5 yQk_A) (zFz_w f6 (fun k o i q => yQx_A k o i (yQY_x k o i q)))
    have f6' : zFz yQA M M6 := zFz_trans f4 f56
    have x6 : ∀ i, i < 3 → M6.1 52 0 i = -1 := fun i hi => by
      rw [f6.1 52 0 i (by unfold yQY; omega), f5.1 52 0 i (by unfold yQk; omega)]; exact x4 i hi
    have hm6 : zTm M6 S ks tx (fun _ => -1) := zTm_A h f6' x6
    have v1 : M6.2 47 0 1 = lN (zN S 2 0) := hm6.1.1 2 0 (Or.inl ⟨by omega, rfl⟩)
    have v3 : ∀ f, f < 16 → M6.2 47 0 (10 + 7 * f) = lN (zN S 3 f) := fun f hf => hm6.1.1 3 f (Or.inr (Or.inl ⟨by omega, by omega, hf⟩))
    refine zy_loads v1 v3 qN q15 qc g4 g3 g2 (fun M7 f7 z7 => ?_)
    intro M8 e8
    have e2' : M8.2 = M7.2 := by rw [e8]; rfl
    have s8 : ∀ k o i, ¬ (k = 9 ∧ o = 0 ∧ i = 7) → M8.1 k o i = M6.1 k o i := fun k o i q => by rw [e8, zuI, if_neg q, f7.1]
    refine k1 t M8 (by rw [e2']; exact z7) ⟨by rw [e2']; exact z7, fun i T hT => ?_, ?_, ?_, fun i a ha => by simp at ha, fun i hi => ?_, ?_⟩ (fun k o q => ⟨?_, ?_⟩) ?_
    · rw [e2', f7.2 49 0 (by omega) (by omega)]; exact hm6.2.1 i T hT
    · rw [s8 9 0 3 (by omega)]; exact hm6.2.2.1
    · rw [e8, zuI, if_pos ⟨rfl, rfl, rfl⟩]; rfl
    · rw [s8 52 0 i (by omega)]; exact x6 i hi
    · have : M8.1 50 0 = M6.1 50 0 := funext fun i => s8 50 0 i (by omega)
      rw [this]; exact hm6.2.2.2.2.2.2
    · have : M8.1 k o = M6.1 k o := funext fun i => s8 k o i (by omega)
      rw [this]; exact (zsC_A f6' k o q).1
    · rw [e2', f7.2 k o (by omega) (by omega)]; exact (zsC_A f6' k o q).2
    · rw [s8 9 0 4 (by omega), f6.1 9 0 4 (by unfold yQY; omega)]; exact t5
theorem zq_loadTree {M : gM} {c : Nat} {Nx : gM → Prop} (h : zT M c) (hN : ∀ M', zT M' c → Nx M') : wp_X8_loadTree 0 M (fun r M1 => wp_X9_loadTree 0 M1 (fun rb M2 => if r = rb then Nx M2 else (0 : Int32) = 1)) := by
  obtain ⟨S, ks, tx, er, h1, h2, h3⟩ := h
  obtain ⟨F, hF⟩ : ∃ F : Nat, F = 13 := ⟨13, rfl⟩
  have hl := ylok h3.2.2.2.1 h3.2.2.2.2
  have keep := ytree_keep hl F 0 [] [] (by simp; exact hF) (by omega) (by simp) yok_nil
  rw [List.length_nil] at keep
  unfold wp_X8_loadTree
  rw [h1.2.2.2.1]
  refine zx_take hl (fun i hi => h1.2.2.2.2.1 i _ (ytx_get hi)) (fun M1 a2 a41 f1 => ?_)
  refine zx_tree hF hl a2 a41 (fun t M2 q4 q5 q6 f2 => ?_) (fun t M2 q10 qc qN f2 => ?_)
  · refine ⟨4, zx_errL (e := yt3 (ytree (fun i => tx.getD i 0) tx.length F 0 0 [] []).2.2.2) (M0 := M2) (fun _ => ⟨q4, q5, q6⟩) (fun q => absurd rfl q) (fun M3 e3 f3 => ?_) 3 0 M2 (by omega) (fun i hi => by omega) zFy_refl⟩
    rw [if_pos rfl]
    have f3' : zFy yPA M M3 := zFy_trans (zFy_w f1 yPk_A) (zFy_trans (zFy_w f2 yPT_A) (zFy_w f3 yP45_A))
    have hc3 := zTc_A h3 h1 f3' e3
    have hm3 := zTm_sM h2 (zsM_A f3')
    have n6 : ∀ i, ¬ yP45 6 0 i := fun i => by unfold yP45; omega
    have go : wp_X9_loadTree 0 M3 (fun rb M2 => if yerr (ytree (fun i => tx.getD i 0) tx.length F 0 0 [] []).2.2.2 = rb then Nx M2 else (0 : Int32) = 1) := by
      refine zm_loadTree hF hl hm3 (fun _ M4 hm4 s4 _ => ?_) (fun t' _ _ _ _ _ => by omega)
      rw [if_pos rfl]
      exact hN M4 ⟨S, ks, tx, _, zTc_sC h3 hc3 s4, hm4, h3⟩
    unfold wp_X6_lastError
    rw [f3.2 6 0 5 (n6 5), f3.2 6 0 6 (n6 6), q5, q6]
    unfold yerr at go
    by_cases cc : (ytree (fun i => tx.getD i 0) tx.length F 0 0 [] []).2.2.2.2.2 < 0
    · rw [if_pos cc]
      rw [if_pos cc] at go
      exact go
    · rw [if_neg cc]
      rw [if_neg cc] at go
      exact go
  · rcases keep with keep | ⟨_, g2, g3, g4⟩
    · omega
    refine ⟨4, zx_errL (e := fun _ => -1) (M0 := M2) (fun q => absurd q (by decide)) (fun _ _ => rfl) (fun M3 e3 f3 => ?_) 3 0 M2 (by omega) (fun i hi => by omega) zFy_refl⟩
    rw [if_neg (by decide)]
    intro M4 e4
    have f3' : zFy yPA M M3 := zFy_trans (zFy_w f1 yPk_A) (zFy_trans (zFy_w f2 yPT_A) (zFy_w f3 yP45_A))
    have hc3 := zTc_A h3 h1 f3' e3
    have s4 : ∀ k o, k ≠ 8 → M4.1 k o = M3.1 k o ∧ M4.2 k o = M3.2 k o := fun k o q => ⟨by
      rw [e4]
      show (if k = 8 ∧ o = 0 then _ else M3.1 k o) = _
      rw [if_neg (by omega)], by rw [e4]; rfl⟩
    have s42 : ∀ k o i, k ≠ 8 → k ≠ 45 → M4.1 k o i = M2.1 k o i := fun k o i q q2 => by
      rw [(s4 k o q).1]; exact f3.2 k o i (by unfold yP45; omega)
    have n7 : M4.1 7 0 1 = nI (zN S 2 0) := by
      rw [(s4 7 0 (by omega)).1]; exact hc3.1.1 2 0 (Or.inl ⟨by omega, rfl⟩)
    have n12 : ∀ f, f < 16 → M4.1 12 0 f = nI (zN S 3 f) := fun f hf => by
      rw [(s4 12 0 (by omega)).1]; exact hc3.1.1 3 f (Or.inr (Or.inl ⟨by omega, by omega, hf⟩))
    have qN4 : yNC (ytree (fun i => tx.getD i 0) tx.length F 0 0 [] []).2.2.1 M4 := by
      refine ⟨?_, fun i n hn => yNc_cong (qN.2.1 i n hn) (fun k k1 k2 k3 => s42 k 5 i (by omega) (by omega)), fun i hi => ?_⟩
      · rw [s42 5 5 0 (by omega) (by omega)]; exact qN.1
      · rw [s42 33 5 i (by omega) (by omega)]; exact qN.2.2 i hi
    refine zx_startWith n7 n12 qN4 (fun i a ha => by rw [s42 40 5 i (by omega) (by omega)]; exact qc i a ha) g3 g2 (fun M5 w5 w50 => ?_)
    rw [w50]
    have hsM : zsM M M5 := zsM_trans (zsM_A f3') (zsM_trans (M1 := M4) (fun k o q => s4 k o (by omega)) (zsM_F w5.1))
    have hm5 := zTm_sM h2 hsM
    have hok := ynew_OK (wt := zN S 3) (lk := zN S 2 0) c g4 g3 g2 (fun f hf => ⟨(h3.1.1.2.1.1 f hf).1, (h3.1.1.2.1.1 f hf).2.1⟩) h3.1.1.2.1.2.2
    have hp5 : zTp (ynew (zN S 3) (zN S 2 0) (yleaf (ytree (fun i => tx.getD i 0) tx.length F 0 0 [] []).2.2.1) (ytree (fun i => tx.getD i 0) tx.length F 0 0 [] []).2.2.1 (ytree (fun i => tx.getD i 0) tx.length F 0 0 [] []).2.1) ks [] c := ⟨hok, h3.2.1, h3.2.2.1, by simp, by simp⟩
    have r8 := (w5.1 8 0 (by unfold zin; omega)).1
    have r45 := (w5.1 45 0 (by unfold zin; omega)).1
    have hc5 : zTc M5 (ynew (zN S 3) (zN S 2 0) (yleaf (ytree (fun i => tx.getD i 0) tx.length F 0 0 [] []).2.2.1) (ytree (fun i => tx.getD i 0) tx.length F 0 0 [] []).2.2.1 (ytree (fun i => tx.getD i 0) tx.length F 0 0 [] []).2.1) ks [] (fun _ => -1) := by
      refine ⟨w5.2, fun i T hT => ?_, ?_, ?_, fun i a ha => by simp at ha, fun i hi => ?_⟩
      · have h12 := (zOK_n (h3.2.1 i T hT)).1
        exact zC_F h12 (by omega) (zC_cong (M' := M4) h12 (hc3.2.1 i T hT) (fun k o a b q => s4 k o (by unfold zin at q; omega))) w5.1
      · rw [r8, e4, zuI, if_neg (by omega)]; exact hc3.2.2.1
      · rw [r8, e4, zuI, if_pos ⟨rfl, rfl, rfl⟩]; rfl
      · rw [r45, (s4 45 0 (by omega)).1]; exact e3 i hi
    refine zm_loadTree hF hl hm5 (fun t' _ _ _ _ => by omega) (fun _ M6 _ hm6 s6 _ => ?_)
    rw [if_pos rfl]
    exact hN M6 ⟨_, ks, [], _, zTc_sC hp5 hc5 s6, hm6, hp5⟩
