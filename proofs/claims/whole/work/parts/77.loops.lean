/-! all nodes, the class -/
def yNC (nd : List yNd) (M : gM) : Prop := M.1 5 5 0 = nI nd.length ∧ (∀ i n, nd[i]? = some n → yNc i n M) ∧ ∀ i, i < nd.length → M.1 33 5 i = nI (ycc nd i)
def yPT (k o i : Nat) : Prop := (k = 6 ∧ o = 0 ∧ 3 ≤ i ∧ i ≤ 8) ∨ (k = 42 ∧ o = 0) ∨ (k = 5 ∧ o = 5) ∨ (32 ≤ k ∧ k ≤ 40 ∧ o = 5)
theorem yPn_T {x : Nat} : ∀ k o i, yPn x k o i → yPT k o i := fun k o i h => by
  rcases h with h | h | ⟨a, b, c⟩ | ⟨a, b⟩ | ⟨a, b⟩ | ⟨a, b, c, d⟩
  · exact Or.inl h
  · exact Or.inr (Or.inl h)
  · exact Or.inr (Or.inr (Or.inl ⟨a, b⟩))
  · exact Or.inr (Or.inr (Or.inr ⟨by omega, by omega, b⟩))
  · exact Or.inr (Or.inr (Or.inr ⟨by omega, by omega, b⟩))
  · exact Or.inr (Or.inr (Or.inr ⟨by omega, by omega, c⟩))
theorem yNc_cong {x : Nat} {n : yNd} {M M' : gM} (h : yNc x n M) (e : ∀ k, 32 ≤ k → k ≤ 39 → k ≠ 33 → M'.1 k 5 x = M.1 k 5 x) : yNc x n M' := by
  obtain ⟨h1, h2, h3, h4, h5, h6, h7⟩ := h
  refine ⟨?_, ?_, ?_, fun q => ?_, ?_, ?_, ?_⟩
  · rw [e 32 (by omega) (by omega) (by omega)]; exact h1
  · rw [e 34 (by omega) (by omega) (by omega)]; exact h2
  · rw [e 35 (by omega) (by omega) (by omega)]; exact h3
  · rw [e 36 (by omega) (by omega) (by omega)]; exact h4 q
  · rw [e 37 (by omega) (by omega) (by omega)]; exact h5
  · rw [e 38 (by omega) (by omega) (by omega)]; exact h6
  · rw [e 39 (by omega) (by omega) (by omega)]; exact h7
theorem yNC_snoc {nd : List yNd} {cd : List Nat} {n : yNd} {M M' : gM} (hok : yok nd cd) (hN : yNC nd M) (fr : zFy (yPn nd.length) M M') (hn : yNc nd.length n M') (h5 : M'.1 5 5 0 = nI (nd.length + 1)) (h33 : ∀ i, i < nd.length + 1 → M'.1 33 5 i = nI (if i = nd.length then 0 else if i = (if nd.length = 0 then 12 else n.1) then ycc nd i + 1 else ycc nd i)) (hp : 0 < nd.length → n.1 < nd.length) : yNC (nd ++ [n]) M' := by
  refine ⟨by rw [List.length_append, List.length_singleton]; exact h5, fun i m hm => ?_, fun i hi => ?_⟩
  · rcases yget hm with q | q
    · refine yNc_cong (hN.2.1 i m q.2) (fun k k1 k2 k3 => fr.2 k 5 i ?_)
      intro z
      rcases z with ⟨z1, _⟩ | ⟨z1, _⟩ | ⟨z1, _⟩ | ⟨z1, _⟩ | ⟨z1, _⟩ | ⟨_, _, _, z4⟩ <;> omega
    · rw [q.1, q.2]; exact hn
  · rw [List.length_append, List.length_singleton] at hi
    rw [h33 i hi, ycc_step hok hp hi]
theorem yNC_63 {nd : List yNd} {M : gM} {v : Int32} (h : yNC nd M) : yNC nd (g_uI M 6 0 3 v) := by
  have e : ∀ k o i, k ≠ 6 → (g_uI M 6 0 3 v).1 k o i = M.1 k o i := fun k o i hk => by rw [zuI, if_neg (by omega)]
  refine ⟨by rw [e 5 5 0 (by omega)]; exact h.1, fun i n hn => yNc_cong (h.2.1 i n hn) (fun k k1 k2 k3 => e k 5 i (by omega)), fun i hi => by rw [e 33 5 i (by omega)]; exact h.2.2 i hi⟩
theorem zx_treeL {lt : Nat → Nat} {len : Nat} {K : Int32 → gM → Prop} (hl : zlok lt len) : ∀ (f a : Nat) (cd : List Nat) (nd : List yNd) (st : List Nat) (M : gM), nd.length + f = 13 → nd.length ≤ 12 → a ≤ len → cd.length ≤ a → yok nd cd → ((0 < nd.length ∧ zpc lt len a st cd M) ∨ (nd.length = 0 ∧ a = 0 ∧ cd = [] ∧ zpc lt len 0 [] [] (g_uI M 6 0 8 0))) → yNC nd M → ((ytree lt len f nd.length a cd nd).1 = 0 → ∀ M', M'.1 6 0 4 = (ytree lt len f nd.length a cd nd).2.2.2.1 → M'.1 6 0 5 = (ytree lt len f nd.length a cd nd).2.2.2.2.1 → M'.1 6 0 6 = (ytree lt len f nd.length a cd nd).2.2.2.2.2 → zFy yPT M M' → K 0 M') → ((ytree lt len f nd.length a cd nd).1 = 1 → ∀ M', M'.1 5 5 10 = nI (ytree lt len f nd.length a cd nd).2.1.length → (∀ i c, (ytree lt len f nd.length a cd nd).2.1[i]? = some c → M'.1 40 5 i = zcst c) → yNC (ytree lt len f nd.length a cd nd).2.2.1 M' → zFy yPT M M' → K 1 M') → wp_X6_readTree_L14 K f 0 (nI nd.length) M
  | 0, a, cd, nd, st, M, hf, h12, _, _, _, _, _, _, _ => by omega
  | f + 1, a, cd, nd, st, M, hf, h12, ha, hc, hk, hz, hN, k0, k1 => by
    rw [ytree_succ] at k0 k1
    rw [ybody_eq, if_neg (show ¬ (12 : Int32) < nI nd.length from by
      have e : (12 : Int32) = nI 12 := rfl
      rw [e]; exact nI_nlt (by omega) (by omega))]
    have hkeep := ynode_keep hl ha hc hk
    refine zx_node (cc := ycc nd) hl h12 hz ha hc hN.1 hN.2.2 (fun t M' v4 v5 v6 fr => ?_) (fun t M' z n5 w5 w33 fr => ?_)
    · rw [if_pos t] at k0
      exact k0 rfl M' v4 v5 v6 (zFy_w fr yPn_T)
    · rcases hkeep with q | ⟨_, q2, q3, q4, q5, q6⟩
      · omega
      have t0 : ¬ (ynode lt len nd.length a cd).1 = 0 := by omega
      rw [if_neg t0] at k0 k1
      generalize ynode lt len nd.length a cd = r at z n5 w33 q3 q4 q5 q6 k0 k1
      have hN' : yNC (nd ++ [r.2.2.2.1]) M' := yNC_snoc hk hN fr n5 w5 w33 (fun q => by
        have := q6 nd.length r.2.2.2.1 (by simp)
        exact this.1 q)
      unfold wp_X6_readTree_b57
      rw [if_neg (by decide)]
      refine zx_sign z hl q3 ?_
      have hb := zlt_b (i := r.2.1) hl
      by_cases c : r.2.1 = len
      · have e0 : lt r.2.1 = 0 := hl.2.2 _ (by omega)
        rw [e0, if_pos (by decide)]
        rw [if_pos c] at k1
        exact k1 rfl M' z.2.2.2.2.2.1 z.2.2.2.2.2.2 hN' (zFy_w fr yPn_T)
      · have e59 : lt r.2.1 = 59 := q5.elim (fun z => absurd z c) id
        rw [if_neg (nI_ne0 (by omega) (by omega))]
        have al := zlok_lt hl (i := r.2.1) (by omega)
        intro M1 e1 n83 e83
        rw [z.2.1, nI_1] at e1
        rw [zn_p1] at e83
        subst e83
        rw [if_neg c] at k0 k1
        have el : (nd ++ [r.2.2.2.1]).length = nd.length + 1 := by rw [List.length_append, List.length_singleton]
        have f1 : zFy yPT M M1 := zFy_trans (zFy_w fr yPn_T) (by rw [e1]; exact zFy_u (Or.inl ⟨rfl, rfl, by omega, by omega⟩))
        have ih := zx_treeL (K := K) hl f (r.2.1 + 1) r.2.2.1 (nd ++ [r.2.2.2.1]) [] M1 (by omega) (by omega) al (by omega) q6 (Or.inl ⟨by omega, by rw [e1]; exact zpc_at z⟩) (by rw [e1]; exact yNC_63 hN')
        rw [el] at ih
        exact ih (fun t' M'' a1 a2 a3 f => k0 t' M'' a1 a2 a3 (zFy_trans f1 f)) (fun t' M'' a1 a2 a3 f => k1 t' M'' a1 a2 a3 (zFy_trans f1 f))
/-! all nodes, the reference -/
def yNM (nd : List yNd) (M : gM) : Prop := M.1 9 0 13 = nI nd.length ∧ ∀ i n, nd[i]? = some n → yNm i n M
def yQY (k o i : Nat) : Prop := (k = 9 ∧ o = 0 ∧ (i = 11 ∨ i = 13 ∨ i = 15 ∨ i = 17)) ∨ (k = 56 ∧ o = 0) ∨ (k = 54 ∧ o = 0)
def yerr (t : Int32 × Int32 × Int32) : Int32 := if t.2.2 < 0 then -1 - t.2.1 else -1 - t.2.2
theorem yQY_x : ∀ k o i, yQY k o i → yQx k o i := fun k o i h => by
  rcases h with h | h | h
  · exact Or.inl h
  · exact Or.inr (Or.inl h)
  · exact Or.inr (Or.inr (Or.inl h))
theorem yQn_Y {x : Nat} : ∀ k o i, yQn x k o i → yQY k o i := fun k o i h => by
  rcases h with (⟨a, b, c⟩ | h) | ⟨a, b, c⟩
  · exact Or.inl ⟨a, b, by omega⟩
  · exact Or.inr (Or.inl h)
  · exact Or.inr (Or.inr ⟨a, b⟩)
theorem yNm_cong {x : Nat} {n : yNd} {M M' : gM} (h : yNm x n M) (e : ∀ j, j ≤ 10 → M'.1 54 0 (12 * x + j) = M.1 54 0 (12 * x + j)) : yNm x n M' := by
  obtain ⟨h1, h2, h3, h4, h5, h6, h7, h8⟩ := h
  refine ⟨?_, ?_, ?_, ?_, ?_, ?_, ?_, ?_⟩
  · have := e 0 (by omega)
    rw [Nat.add_zero] at this
    rw [this]; exact h1
  · rw [e 1 (by omega)]; exact h2
  · rw [e 2 (by omega)]; exact h3
  · rw [e 3 (by omega)]; exact h4
  · rw [e 7 (by omega)]; exact h5
  · rw [e 8 (by omega)]; exact h6
  · rw [e 9 (by omega)]; exact h7
  · rw [e 10 (by omega)]; exact h8
theorem yNM_snoc {nd : List yNd} {n : yNd} {M M' M1 : gM} {v : Int32} (hN : yNM nd M) (fr : zFz (yQn nd.length) M M') (hn : yNm nd.length n M') (e1 : M1 = g_uI M' 9 0 13 (nI (nd.length + 1))) : yNM (nd ++ [n]) (g_uI M1 9 0 11 v) := by
  have e : ∀ j, (g_uI M1 9 0 11 v).1 54 0 j = M'.1 54 0 j := fun j => by rw [zuI, if_neg (by omega), e1, zuI, if_neg (by omega)]
  refine ⟨by rw [List.length_append, List.length_singleton, zuI, if_neg (by omega), e1, zuI, if_pos ⟨rfl, rfl, rfl⟩], fun i m hm => ?_⟩
  rcases yget hm with q | q
  · refine yNm_cong (hN.2 i m q.2) (fun j hj => ?_)
    rw [e]
    refine fr.1 54 0 (12 * i + j) (fun z => ?_)
    rcases z with (⟨z1, _⟩ | ⟨z1, _⟩) | ⟨_, _, z3, z4⟩ <;> omega
  · rw [q.1, q.2]
    exact yNm_cong hn (fun j _ => e _)
theorem zy_treeL {lt : Nat → Nat} {len : Nat} {K : Int32 → gM → Prop} (hl : zlok lt len) : ∀ (f a : Nat) (cd : List Nat) (nd : List yNd) (st : List Nat) (M : gM), nd.length + f = 13 → nd.length ≤ 12 → a ≤ len → cd.length ≤ a → yok nd cd → ((0 < nd.length ∧ zpm lt len a st cd M) ∨ (nd.length = 0 ∧ zpm lt len a [] cd (g_uI M 9 0 17 0))) → yNM nd M → ((ytree lt len f nd.length a cd nd).1 = 0 → ∀ M', M'.1 52 0 0 = (ytree lt len f nd.length a cd nd).2.2.2.1 → M'.1 52 0 1 = (ytree lt len f nd.length a cd nd).2.2.2.2.1 → M'.1 52 0 2 = (ytree lt len f nd.length a cd nd).2.2.2.2.2 → zFz yQx M M' → K (yerr (ytree lt len f nd.length a cd nd).2.2.2) M') → ((ytree lt len f nd.length a cd nd).1 = 1 → ∀ M', M'.1 9 0 15 = nI (ytree lt len f nd.length a cd nd).2.1.length → (∀ i c, (ytree lt len f nd.length a cd nd).2.1[i]? = some c → M'.2 55 0 i = zmst c) → yNM (ytree lt len f nd.length a cd nd).2.2.1 M' → zFz yQY M M' → K (nI (ytree lt len f nd.length a cd nd).2.2.1.length) M') → wp_X9_reads_L17 K (f + 1) 0 1 M
  | 0, a, cd, nd, st, M, hf, h12, _, _, _, _, _, _, _ => by omega
  | f + 1, a, cd, nd, st, M, hf, h12, ha, hc, hk, hz, hN, k0, k1 => by
    have hlen := hl.1
    rw [ytree_succ] at k0 k1
    show (if (1 : Int32) = 0 then _ else _)
    rw [if_neg (by decide), hN.1]
    have hkeep := ynode_keep hl ha hc hk
    refine zy_node hl h12 hz ha hc (fun t M' v4 v5 v6 fr => ?_) (fun t M' z n5 fr => ?_)
    · rw [if_pos t] at k0
      have k0 := k0 rfl M' v4 v5 v6 fr
      have c1 : (1 : Int32).toNatClampNeg = 1 := by decide
      have c2 : (2 : Int32).toNatClampNeg = 2 := by decide
      rw [if_pos rfl, c1, c2, v5, v6]
      refine ⟨zvi (by omega) (by omega), ?_⟩
      unfold yerr at k0
      by_cases c : (ynode lt len nd.length a cd).2.2.2.2.2.2 < 0
      · rw [if_pos c]
        have k0' : K (if (ynode lt len nd.length a cd).2.2.2.2.2.2 < 0 then -1 - (ynode lt len nd.length a cd).2.2.2.2.2.1 else -1 - (ynode lt len nd.length a cd).2.2.2.2.2.2) M' := k0
        rw [if_pos c] at k0'
        exact ⟨zvi (by omega) (by omega), k0'⟩
      · rw [if_neg c]
        have k0' : K (if (ynode lt len nd.length a cd).2.2.2.2.2.2 < 0 then -1 - (ynode lt len nd.length a cd).2.2.2.2.2.1 else -1 - (ynode lt len nd.length a cd).2.2.2.2.2.2) M' := k0
        rw [if_neg c] at k0'
        exact ⟨zvi (by omega) (by omega), k0'⟩
    · rcases hkeep with q | ⟨_, q2, q3, q4, q5, q6⟩
      · omega
      have t0 : ¬ (ynode lt len nd.length a cd).1 = 0 := by omega
      rw [if_neg t0] at k0 k1
      generalize ynode lt len nd.length a cd = r at z n5 q3 q4 q5 q6 k0 k1
      have n13 : ¬ yQn nd.length 9 0 13 := by unfold yQn yQe; omega
      rw [if_neg (by decide)]
      intro M1 e1
      rw [fr.1 9 0 13 n13, hN.1, nI_1] at e1
      have z1 : zpm lt len r.2.1 [] r.2.2.1 M1 := by rw [e1]; exact zpm_u z (by omega)
      have f1 : zFz yQY M M1 := zFz_trans (zFz_w fr yQn_Y) (by rw [e1]; exact zFz_u (Or.inl ⟨rfl, rfl, Or.inr (Or.inl rfl)⟩))
      rw [z1.1, z1.2.1]
      have el : (nd ++ [r.2.2.2.1]).length = nd.length + 1 := by rw [List.length_append, List.length_singleton]
      by_cases c : r.2.1 = len
      · rw [if_pos (nI_le (by omega) (by omega))]
        unfold wp_X9_reads_b87
        intro M2 e2
        rw [z1.2.1, nI_1] at e2
        have z2 : zpm lt len (r.2.1 + 1) [] r.2.2.1 M2 := by rw [e2]; exact zpm_at z1
        have hN2 : yNM (nd ++ [r.2.2.2.1]) M2 := by rw [e2]; exact yNM_snoc hN fr n5 e1
        rw [if_pos c] at k1
        show (if (0 : Int32) = 0 then _ else _)
        rw [if_pos rfl, hN2.1]
        exact k1 rfl M2 z2.2.2.2.2.2.1 z2.2.2.2.2.2.2 hN2 (zFz_trans f1 (by rw [e2]; exact zFz_u (Or.inl ⟨rfl, rfl, Or.inl rfl⟩)))
      · have e59 : lt r.2.1 = 59 := q5.elim (fun z => absurd z c) id
        have al := zlok_lt hl (i := r.2.1) (by omega)
        rw [if_neg (nI_ge al (by omega))]
        unfold wp_X9_reads_b87
        intro M2 e2
        rw [z1.2.1, nI_1] at e2
        have z2 : zpm lt len (r.2.1 + 1) [] r.2.2.1 M2 := by rw [e2]; exact zpm_at z1
        have hN2 : yNM (nd ++ [r.2.2.2.1]) M2 := by rw [e2]; exact yNM_snoc hN fr n5 e1
        have f2 : zFz yQY M M2 := zFz_trans f1 (by rw [e2]; exact zFz_u (Or.inl ⟨rfl, rfl, Or.inl rfl⟩))
        rw [if_neg c] at k0 k1
        have ih := zy_treeL (K := K) hl f (r.2.1 + 1) r.2.2.1 (nd ++ [r.2.2.2.1]) [] M2 (by omega) (by omega) al (by omega) q6 (Or.inl ⟨by omega, z2⟩) hN2
        rw [el] at ih
        exact ih (fun t' M'' a1 a2 a3 f => k0 t' M'' a1 a2 a3 (zFz_trans (zFz_w f2 yQY_x) f)) (fun t' M'' a1 a2 a3 f => k1 t' M'' a1 a2 a3 (zFz_trans f2 f))
