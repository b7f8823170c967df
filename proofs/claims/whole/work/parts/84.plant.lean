/-! a template is planted, the class -/
theorem zx_takeTL {i1 : Nat} {lt : Nat → Nat} {len : Nat} {M0 : gM} {K : gM → Prop} (hi : i1 < g_nS) (hs : g_sLen.getD i1 0 = len) (hch : ∀ j, j < len → vp_nar .char (g_sCh i1 j) = nI (lt j)) (hlen : len ≤ 120) (hK : ∀ M', M'.1 6 0 2 = nI len → (∀ i, i < len → M'.1 41 0 i = nI (lt i)) → zFy yPk M0 M' → K M') : ∀ (n j : Nat) (M : gM), j + n = len → M.1 6 0 2 = nI j → (∀ i, i < j → M.1 41 0 i = nI (lt i)) → zFy yPk M0 M → wp_X6_takeTemplate_L7 K (n + 1) 0 i1 (nI j) M
  | 0, j, M, e, h2, h41, f => by
    unfold wp_X6_takeTemplate_L7 wp_S_length
    refine ⟨hi, ?_⟩
    show (if nI (g_sLen.getD i1 0) ≤ nI j then _ else _)
    rw [hs, if_pos (nI_le (by omega) (by omega))]
    have : j = len := by omega
    subst this
    exact hK M h2 h41 f
  | n + 1, j, M, e, h2, h41, f => by
    unfold wp_X6_takeTemplate_L7 wp_S_length
    refine ⟨hi, ?_⟩
    show (if nI (g_sLen.getD i1 0) ≤ nI j then _ else _)
    rw [hs, if_neg (nI_ge (by omega) (by omega)), if_neg (zk_nle (c := 120) (a := 120) rfl (by omega) (by omega))]
    unfold wp_S_charAt
    rw [hs]
    refine ⟨hi, vp_in_nI (by omega) (by omega), vp_in_nI (by omega) (by omega), ?_⟩
    intro M1 e1 M2 e2 n45 e45
    rw [zn_p1] at e45
    subst e45
    rw [nI_clamp (by omega), hch j (by omega)] at e1
    have e5 : M1.1 6 0 2 = nI j := by rw [e1, zuI, if_neg (by omega)]; exact h2
    rw [e5, nI_1] at e2
    refine zx_takeTL hi hs hch hlen hK n (j + 1) M2 (by omega) ?_ (fun i hi => ?_) (zFy_trans f (zFy_trans (M1 := M1) ?_ ?_))
    · rw [e2, zuI, if_pos ⟨rfl, rfl, rfl⟩]
    · rw [e2, zuI, if_neg (by omega), e1, zuI]
      by_cases c : i = j
      · rw [if_pos ⟨rfl, rfl, c⟩, c]
      · rw [if_neg (fun q => c q.2.2)]; exact h41 i (by omega)
    · rw [e1]; exact zFy_u (Or.inr ⟨rfl, rfl⟩)
    · rw [e2]; exact zFy_u (Or.inl ⟨rfl, rfl, rfl⟩)
theorem zx_takeT {i1 : Nat} {lt : Nat → Nat} {len : Nat} {M : gM} {K : gM → Prop} (hi : i1 < g_nS) (hs : g_sLen.getD i1 0 = len) (hch : ∀ j, j < len → vp_nar .char (g_sCh i1 j) = nI (lt j)) (hlen : len ≤ 120) (hK : ∀ M', M'.1 6 0 2 = nI len → (∀ i, i < len → M'.1 41 0 i = nI (lt i)) → zFy yPk M M' → K M') : wp_X6_takeTemplate 0 i1 M K := by
  unfold wp_X6_takeTemplate
  intro M2 e2
  have f2 : zFy yPk M M2 := by rw [e2]; exact zFy_u (Or.inl ⟨rfl, rfl, rfl⟩)
  have r := zx_takeTL (K := K) (M0 := M2) hi hs hch hlen (fun M' a b c => hK M' a b (zFy_trans f2 c)) len 0 M2 (by omega) (by rw [e2, zuI, if_pos ⟨rfl, rfl, rfl⟩]; rfl) (fun i hi => by omega) zFy_refl
  exact ⟨len + 1, r⟩
theorem zx_tplText {x : Nat} (hx : x < 6) {M : gM} {K : Nat → gM → Prop} (h : K (ysi x) M) : wp_X8_templateText (nI x) M K := by
  unfold wp_X8_templateText
  rcases (show x = 0 ∨ x = 1 ∨ x = 2 ∨ x = 3 ∨ x = 4 ∨ x = 5 by omega) with rfl | rfl | rfl | rfl | rfl | rfl
  · rw [if_neg (by decide), if_neg (by decide), if_neg (by decide), if_neg (by decide), if_neg (by decide)]; exact h
  · rw [if_pos (by decide)]; exact h
  · rw [if_neg (by decide), if_pos (by decide)]; exact h
  · rw [if_neg (by decide), if_neg (by decide), if_pos (by decide)]; exact h
  · rw [if_neg (by decide), if_neg (by decide), if_neg (by decide), if_pos (by decide)]; exact h
  · rw [if_neg (by decide), if_neg (by decide), if_neg (by decide), if_neg (by decide), if_pos (by decide)]; exact h
/-- the tree of a template -/
def ytt (x : Nat) : Nat × List Nat × List yNd × (Int32 × Int32 × Int32) := ytree (fun i => (ytp x).getD i 0) (ytp x).length 13 0 0 [] []
def ynt (wt : Nat → Nat) (lk x : Nat) : zW := ynew wt lk (yleaf (ytt x).2.2.1) (ytt x).2.2.1 (ytt x).2.1
theorem ytt_ok {x : Nat} (hx : x < 6) : (ytt x).1 = 1 ∧ (ytt x).2.1.length ≤ 120 ∧ (1 ≤ (ytt x).2.2.1.length ∧ (ytt x).2.2.1.length ≤ 12) ∧ yok (ytt x).2.2.1 (ytt x).2.1 := by
  have hl := ylok (ytp_ok x hx).1 (ytp_ok x hx).2
  have keep := ytree_keep hl 13 0 [] [] rfl (by omega) (by simp) yok_nil
  rw [List.length_nil] at keep
  have h1 := ytp_tree x hx
  unfold ytt
  generalize ytree (fun i => (ytp x).getD i 0) (ytp x).length 13 0 0 [] [] = r at keep h1 ⊢
  rcases keep with keep | keep
  · omega
  · exact keep
theorem zx_plant {x : Nat} (hx : x < 6) {wt : Nat → Nat} {lk : Nat} {M : gM} {K : gM → Prop} (hlk : M.1 7 0 1 = nI lk) (hwt : ∀ f, f < 16 → M.1 12 0 f = nI (wt f)) (hK : ∀ M1 M', zFy yPA M M1 → (∀ i, M1.1 45 0 i = M.1 45 0 i) → zCW M1 0 (ytt x).2.2.1.length 0 (ynt wt lk x) M' → M'.1 5 0 0 = nI (ytt x).2.2.1.length → K M') : wp_X8_plant 0 (nI x) M K := by
  have hl := ylok (ytp_ok x hx).1 (ytp_ok x hx).2
  obtain ⟨t1, t2, t3, t4⟩ := ytt_ok hx
  obtain ⟨s1, s2⟩ := ytp_len x hx
  unfold wp_X8_plant
  refine zx_tplText hx ?_
  refine zx_takeT (lt := fun i => (ytp x).getD i 0) s1 s2 (ytp_ch x hx) (ytp_ok x hx).1 (fun M1 a2 a41 f1 => ?_)
  refine zx_tree (F := 13) rfl hl a2 a41 (fun t M2 _ _ _ _ => ?_) (fun t M2 q10 qc qN f2 => ?_)
  · have t : (ytt x).1 = 0 := t
    omega
  · rw [if_neg (by decide)]
    have f2' : zFy yPA M M2 := zFy_trans (zFy_w f1 yPk_A) (zFy_w f2 yPT_A)
    refine zx_startWith (nd := (ytt x).2.2.1) (cd := (ytt x).2.1) (by rw [f2'.2 7 0 1 (by unfold yPA; omega)]; exact hlk) (fun f hf => by rw [f2'.2 12 0 f (by unfold yPA; omega)]; exact hwt f hf) qN qc t3 t2 (fun M3 w3 w30 => ?_)
    exact hK M2 M3 f2' (fun i => by rw [f2.2 45 0 i (by unfold yPT; omega), f1.2 45 0 i (by unfold yPk; omega)]) w3 w30
/-! a template is planted, the reference -/
theorem zy_takeTL {x : Nat} {M0 : gM} {K : gM → Prop} (hx : x < 6) (h50 : M0.1 50 0 = k_tpl) : ∀ (r : List Nat) (j s : Nat) (acc : List Nat) (M : gM), ytl.drop j = r → j + r.length = 93 → s + r.length ≤ 93 → acc.length + r.length ≤ 93 → M.1 9 0 10 = nI acc.length → (∀ i c, acc[i]? = some c → M.1 53 0 i = nI c) → zFz yQk M0 M → (∀ M', M'.1 9 0 10 = nI (ysp x r s acc).length → (∀ i c, (ysp x r s acc)[i]? = some c → M'.1 53 0 i = nI c) → zFz yQk M0 M' → K M') → wp_X9_takesTemplate_L9 K (r.length + 1) 0 (nI x) (nI s) (nI j) M
  | [], j, s, acc, M, hr, hj, hs, ha, h10, h53, f, hK => by
    unfold wp_X9_takesTemplate_L9
    rw [if_pos (zk_le2 (c := 93) (a := 93) rfl (by simp at hj; omega) (by simp at hj; omega))]
    exact hK M h10 h53 f
  | a :: r, j, s, acc, M, hr, hj, hs, ha, h10, h53, f, hK => by
    simp only [List.length_cons] at hj hs ha ⊢
    have ea : ytl[j]? = some a := by
      have : (ytl.drop j)[0]? = some a := by rw [hr]; rfl
      rw [List.getElem?_drop] at this
      exact this
    have eg : ytl.getD j 0 = a := by rw [List.getD_eq_getElem?_getD, ea]; rfl
    have hab : a < 127 := ytl_b a (List.mem_of_getElem? ea)
    have hr' : ytl.drop (j + 1) = r := by
      have : (ytl.drop j).drop 1 = r := by rw [hr]; rfl
      rw [List.drop_drop] at this
      exact this
    have e50 : M.1 50 0 j = nI a := by
      rw [f.1 50 0 j (by unfold yQk; omega), h50, ytl_k j (by omega), eg]
    unfold wp_X9_takesTemplate_L9
    rw [if_neg (zk_nle (c := 93) (a := 93) rfl (by omega) (by omega)), nI_clamp (by omega), e50]
    refine ⟨vp_in_nI (by omega) (by omega), ?_⟩
    unfold ysp at hK
    by_cases c : a = 32
    · rw [if_pos c] at hK
      rw [if_pos (show nI a = 32 by rw [c]; rfl)]
      intro n29 e29 n65 e65
      rw [zn_p1] at e29 e65
      subst e29; subst e65
      exact zy_takeTL hx h50 r (j + 1) (s + 1) acc M hr' (by omega) (by omega) (by omega) h10 h53 f hK
    · rw [if_neg c] at hK
      rw [if_neg (zk_ne (c := 32) (a := 32) rfl c (by omega) (by omega))]
      by_cases c2 : s = x
      · rw [if_pos c2] at hK
        rw [if_pos (show nI s = nI x by rw [c2]), h10]
        refine ⟨vp_in_nI (by omega) (by omega), vp_in_nI (by omega) (by omega), ?_⟩
        intro M1 e1 M2 e2 n65 e65
        rw [zn_p1] at e65
        subst e65
        rw [nI_clamp (by omega)] at e1
        have g10 : M1.1 9 0 10 = nI acc.length := by rw [e1, zuI, if_neg (by omega)]; exact h10
        rw [g10, nI_1] at e2
        refine zy_takeTL hx h50 r (j + 1) s (acc ++ [a]) M2 hr' (by omega) (by omega) (by rw [List.length_append, List.length_singleton]; omega) ?_ (fun i d hd => ?_) (zFz_trans f (zFz_trans (M1 := M1) ?_ ?_)) hK
        · rw [e2, zuI, if_pos ⟨rfl, rfl, rfl⟩, List.length_append, List.length_singleton]
        · rw [e2, zuI, if_neg (by omega), e1, zuI]
          rcases yget hd with q | q
          · rw [if_neg (by omega)]; exact h53 i d q.2
          · rw [if_pos ⟨rfl, rfl, q.1⟩, q.2]
        · rw [e1]; exact zFz_u (Or.inr ⟨rfl, rfl⟩)
        · rw [e2]; exact zFz_u (Or.inl ⟨rfl, rfl, rfl⟩)
      · rw [if_neg c2] at hK
        rw [if_neg (fun q => c2 ((nI_eq (by omega) (by omega)).mp q))]
        intro n65 e65
        rw [zn_p1] at e65
        subst e65
        exact zy_takeTL hx h50 r (j + 1) s acc M hr' (by omega) (by omega) (by omega) h10 h53 f hK
theorem zy_takeT {x : Nat} {M : gM} {K : gM → Prop} (hx : x < 6) (h50 : M.1 50 0 = k_tpl) (hK : ∀ M', M'.1 9 0 10 = nI (ytp x).length → (∀ i, i < (ytp x).length → M'.1 53 0 i = nI ((ytp x).getD i 0)) → zFz yQk M M' → K M') : wp_X9_takesTemplate 0 (nI x) M K := by
  unfold wp_X9_takesTemplate
  intro M1 e1
  have f1 : zFz yQk M M1 := by rw [e1]; exact zFz_u (Or.inl ⟨rfl, rfl, rfl⟩)
  have r := zy_takeTL (K := K) (M0 := M) hx h50 ytl 0 0 [] M1 rfl (by rw [ytl_len]) (by rw [ytl_len]; omega) (by rw [ytl_len]; simp) (by rw [e1, zuI, if_pos ⟨rfl, rfl, rfl⟩]; rfl) (fun i c h => by simp at h) f1 (fun M' a b c => by
    rw [ysp_ok x hx] at a b
    exact hK M' a (fun i hi => b i _ (ytx_get hi)) c)
  exact ⟨_, r⟩
def yQB (k o i : Nat) : Prop := (k = 9 ∧ o = 0 ∧ i ≠ 3 ∧ i ≠ 4 ∧ i ≠ 7) ∨ ((k = 53 ∨ k = 54 ∨ k = 56) ∧ o = 0)
theorem yQk_B : ∀ k o i, yQk k o i → yQB k o i := fun k o i h => by
  rcases h with ⟨a, b, c⟩ | ⟨a, b⟩
  · exact Or.inl ⟨a, b, by omega, by omega, by omega⟩
  · exact Or.inr ⟨Or.inl a, b⟩
theorem yQY_B : ∀ k o i, yQY k o i → yQB k o i := fun k o i h => by
  rcases h with ⟨a, b, c⟩ | ⟨a, b⟩ | ⟨a, b⟩
  · exact Or.inl ⟨a, b, by omega, by omega, by omega⟩
  · exact Or.inr ⟨Or.inr (Or.inr a), b⟩
  · exact Or.inr ⟨Or.inr (Or.inl a), b⟩
/-- what planting leaves as it was -/
def zFp (M0 M : gM) : Prop := (∀ k o i, ¬ yQB k o i → M.1 k o i = M0.1 k o i) ∧ ∀ k o, ¬ (k = 55 ∧ o = 0) → ¬ (k = 47 ∧ o = 0) → ¬ (k = 48 ∧ o = 0) → M.2 k o = M0.2 k o
theorem zm_plant {x : Nat} (hx : x < 6) {wt : Nat → Nat} {lk : Nat} {M : gM} {K : Int32 → gM → Prop} (h50 : M.1 50 0 = k_tpl) (hlk : M.2 47 0 1 = lN lk) (hwt : ∀ f, f < 16 → M.2 47 0 (10 + 7 * f) = lN (wt f)) (hK : ∀ M', zFp M M' → zM (ytt x).2.2.1.length 0 (M'.2 47 0) (ynt wt lk x) → K (nI (ytt x).2.2.1.length) M') : wp_X9_takesTemplate 0 (nI x) M (fun M25 => wp_X9_reads 0 M25 (fun r29 M29 => wp_X9_loads 0 M29 (fun M34 => K r29 M34))) := by
  have hl := ylok (ytp_ok x hx).1 (ytp_ok x hx).2
  obtain ⟨t1, t2, t3, t4⟩ := ytt_ok hx
  refine zy_takeT hx h50 (fun M1 b10 b53 f1 => ?_)
  refine zy_tree (F := 13) rfl hl b10 b53 (fun t M2 _ _ _ _ => ?_) (fun t M2 q15 qc qN f2 => ?_)
  · have t : (ytt x).1 = 0 := t
    omega
  · have f2' : zFz yQB M M2 := zFz_trans (zFz_w f1 yQk_B) (zFz_w f2 yQY_B)
    refine zy_loads (nd := (ytt x).2.2.1) (cd := (ytt x).2.1) (by rw [f2'.2 47 0 (by omega)]; exact hlk) (fun f hf => by rw [f2'.2 47 0 (by omega)]; exact hwt f hf) qN q15 qc t4 t3 t2 (fun M3 f3 z3 => ?_)
    refine hK M3 ⟨fun k o i q => ?_, fun k o a b c => ?_⟩ z3
    · rw [f3.1]; exact f2'.1 k o i q
    · rw [f3.2 k o b c]; exact f2'.2 k o a
