/-! the text is taken -/
def yPk (k o i : Nat) : Prop := (k = 6 ∧ o = 0 ∧ i = 2) ∨ (k = 41 ∧ o = 0)
theorem zx_takeL {lt : Nat → Nat} {len : Nat} {M0 : gM} {K : gM → Prop} (hl : zlok lt len) (ht : ∀ i, i < len → M0.1 44 0 i = nI (lt i)) (hK : ∀ M', M'.1 6 0 2 = nI len → (∀ i, i < len → M'.1 41 0 i = nI (lt i)) → zFy yPk M0 M' → K M') : ∀ (n j : Nat) (M : gM), j + n = len → M.1 6 0 2 = nI j → (∀ i, i < j → M.1 41 0 i = nI (lt i)) → zFy yPk M0 M → wp_X6_takeText_L7 K (n + 1) 0 0 (nI len) (nI j) M
  | 0, j, M, e, h2, h41, f => by
    have hlen := hl.1
    unfold wp_X6_takeText_L7
    rw [if_pos (nI_le (by omega) (by omega))]
    have : j = len := by omega
    subst this
    exact hK M h2 h41 f
  | n + 1, j, M, e, h2, h41, f => by
    have hlen := hl.1
    have n44 : ¬ yPk 44 0 j := by unfold yPk; omega
    have hb := hl.2.1 j (by omega)
    unfold wp_X6_takeText_L7
    rw [if_neg (nI_ge (by omega) (by omega)), if_neg (zk_nle (c := 120) (a := 120) rfl (by omega) (by omega)), if_neg (zk_nle (c := 120) (a := 120) rfl (by omega) (by omega))]
    refine ⟨vp_in_nI (by omega) (by omega), vp_in_nI (by omega) (by omega), ?_⟩
    intro M1 e1 M2 e2 n46 e46
    rw [zn_p1] at e46
    subst e46
    rw [nI_clamp (by omega), f.2 44 0 j n44, ht j (by omega), (znar (by omega)).2] at e1
    have e5 : M1.1 6 0 2 = nI j := by rw [e1, zuI, if_neg (by omega)]; exact h2
    rw [e5, nI_1] at e2
    refine zx_takeL hl ht hK n (j + 1) M2 (by omega) ?_ (fun i hi => ?_) (zFy_trans f (zFy_trans (M1 := M1) ?_ ?_))
    · rw [e2, zuI, if_pos ⟨rfl, rfl, rfl⟩]
    · rw [e2, zuI, if_neg (by omega), e1, zuI]
      by_cases c : i = j
      · rw [if_pos ⟨rfl, rfl, c⟩, c]
      · rw [if_neg (fun q => c q.2.2)]; exact h41 i (by omega)
    · rw [e1]; exact zFy_u (Or.inr ⟨rfl, rfl⟩)
    · rw [e2]; exact zFy_u (Or.inl ⟨rfl, rfl, rfl⟩)
theorem zx_take {lt : Nat → Nat} {len : Nat} {M : gM} {K : gM → Prop} (hl : zlok lt len) (ht : ∀ i, i < len → M.1 44 0 i = nI (lt i)) (hK : ∀ M', M'.1 6 0 2 = nI len → (∀ i, i < len → M'.1 41 0 i = nI (lt i)) → zFy yPk M M' → K M') : wp_X6_takeText 0 0 (nI len) M K := by
  unfold wp_X6_takeText
  intro M2 e2
  have f2 : zFy yPk M M2 := by rw [e2]; exact zFy_u (Or.inl ⟨rfl, rfl, rfl⟩)
  have n44 : ∀ i, ¬ yPk 44 0 i := fun i => by unfold yPk; omega
  have r := zx_takeL (K := K) (M0 := M2) hl (fun i hi => by rw [f2.2 44 0 i (n44 i)]; exact ht i hi) (fun M' a b c => hK M' a b (zFy_trans f2 c)) len 0 M2 (by omega) (by rw [e2, zuI, if_pos ⟨rfl, rfl, rfl⟩]; rfl) (fun i hi => by omega) zFy_refl
  exact ⟨len + 1, r⟩
def yQk (k o i : Nat) : Prop := (k = 9 ∧ o = 0 ∧ i = 10) ∨ (k = 53 ∧ o = 0)
theorem zy_takeL {lt : Nat → Nat} {len : Nat} {M0 : gM} {K : gM → Prop} (hl : zlok lt len) (h7 : M0.1 9 0 7 = nI len) (ht : ∀ i, i < len → M0.1 51 0 i = nI (lt i)) (hK : ∀ M', M'.1 9 0 10 = nI len → (∀ i, i < len → M'.1 53 0 i = nI (lt i)) → zFz yQk M0 M' → K M') : ∀ (n j : Nat) (M : gM), j + n = len → (∀ i, i < j → M.1 53 0 i = nI (lt i)) → zFz yQk M0 M → wp_X9_takesText_L2 K (n + 1) 0 (nI j) M
  | 0, j, M, e, h53, f => by
    have hlen := hl.1
    have n7 : ¬ yQk 9 0 7 := by unfold yQk; omega
    unfold wp_X9_takesText_L2
    rw [f.1 9 0 7 n7, h7, if_pos (nI_le (by omega) (by omega))]
    intro M1 e1
    refine hK M1 (by rw [e1, zuI, if_pos ⟨rfl, rfl, rfl⟩]) (fun i hi => ?_) (zFz_trans f ?_)
    · rw [e1, zuI, if_neg (by omega)]; exact h53 i (by omega)
    · rw [e1]; exact zFz_u (Or.inl ⟨rfl, rfl, rfl⟩)
  | n + 1, j, M, e, h53, f => by
    have hlen := hl.1
    have n7 : ¬ yQk 9 0 7 := by unfold yQk; omega
    have n51 : ¬ yQk 51 0 j := by unfold yQk; omega
    unfold wp_X9_takesText_L2
    rw [f.1 9 0 7 n7, h7, if_neg (nI_ge (by omega) (by omega))]
    refine ⟨vp_in_nI (by omega) (by omega), vp_in_nI (by omega) (by omega), ?_⟩
    intro M1 e1 n22 e22
    rw [zn_p1] at e22
    subst e22
    rw [nI_clamp (by omega), f.1 51 0 j n51, ht j (by omega)] at e1
    refine zy_takeL hl h7 ht hK n (j + 1) M1 (by omega) (fun i hi => ?_) (zFz_trans f ?_)
    · rw [e1, zuI]
      by_cases c : i = j
      · rw [if_pos ⟨rfl, rfl, c⟩, c]
      · rw [if_neg (fun q => c q.2.2)]; exact h53 i (by omega)
    · rw [e1]; exact zFz_u (Or.inr ⟨rfl, rfl⟩)
theorem zy_take {lt : Nat → Nat} {len : Nat} {M : gM} {K : gM → Prop} (hl : zlok lt len) (h7 : M.1 9 0 7 = nI len) (ht : ∀ i, i < len → M.1 51 0 i = nI (lt i)) (hK : ∀ M', M'.1 9 0 10 = nI len → (∀ i, i < len → M'.1 53 0 i = nI (lt i)) → zFz yQk M M' → K M') : wp_X9_takesText 0 M K := by
  unfold wp_X9_takesText
  exact ⟨len + 1, zy_takeL hl h7 ht hK len 0 M (by omega) (fun i hi => by omega) zFz_refl⟩
/-! the tree is read -/
theorem yok_nil {cd : List Nat} : yok [] cd := fun i n h => by simp at h
theorem zx_tree {lt : Nat → Nat} {len F : Nat} {M : gM} {K : Int32 → gM → Prop} (hF : F = 13) (hl : zlok lt len) (h2 : M.1 6 0 2 = nI len) (h41 : ∀ i, i < len → M.1 41 0 i = nI (lt i))
    (k0 : (ytree lt len F 0 0 [] []).1 = 0 → ∀ M', M'.1 6 0 4 = (ytree lt len F 0 0 [] []).2.2.2.1 → M'.1 6 0 5 = (ytree lt len F 0 0 [] []).2.2.2.2.1 → M'.1 6 0 6 = (ytree lt len F 0 0 [] []).2.2.2.2.2 → zFy yPT M M' → K 0 M')
    (k1 : (ytree lt len F 0 0 [] []).1 = 1 → ∀ M', M'.1 5 5 10 = nI (ytree lt len F 0 0 [] []).2.1.length → (∀ i c, (ytree lt len F 0 0 [] []).2.1[i]? = some c → M'.1 40 5 i = zcst c) → yNC (ytree lt len F 0 0 [] []).2.2.1 M' → zFy yPT M M' → K 1 M') : wp_X6_readTree 0 M K := by
  unfold wp_X6_readTree wp_X5_empty
  intro M2 e2 M7 e7 M9 e9
  refine ⟨F, ?_⟩
  have f9 : zFy yPT M M9 := by
    rw [e9, e7, e2]
    exact zFy_trans (zFy_trans (zFy_u (Or.inr (Or.inr (Or.inl ⟨rfl, rfl⟩)))) (zFy_u (Or.inr (Or.inr (Or.inl ⟨rfl, rfl⟩))))) (zFy_u (Or.inl ⟨rfl, rfl, by omega, by omega⟩))
  have n2 : ¬ yPT 6 0 2 := by unfold yPT; omega
  have n41 : ∀ i, ¬ yPT 41 0 i := fun i => by unfold yPT; omega
  have z : zpc lt len 0 [] [] (g_uI M9 6 0 8 0) := by
    refine ⟨?_, ?_, fun i hi => ?_, ?_, trivial, ?_, fun i c hc => by simp at hc⟩
    · rw [zuI, if_neg (by omega), f9.2 6 0 2 n2]; exact h2
    · rw [zuI, if_neg (by omega), e9, zuI, if_pos ⟨rfl, rfl, rfl⟩]; rfl
    · rw [zuI, if_neg (by omega), f9.2 41 0 i (n41 i)]; exact h41 i hi
    · rw [zuI, if_pos ⟨rfl, rfl, rfl⟩]; rfl
    · rw [zuI, if_neg (by omega), e9, zuI, if_neg (by omega), e7, zuI, if_pos ⟨rfl, rfl, rfl⟩]; rfl
  have hN : yNC [] M9 := ⟨by rw [e9, zuI, if_neg (by omega), e7, zuI, if_neg (by omega), e2, zuI, if_pos ⟨rfl, rfl, rfl⟩]; rfl, fun i n h => by simp at h, fun i hi => by simp at hi⟩
  exact zx_treeL (K := K) hl F 0 [] [] [] M9 (by simp; exact hF) (by simp) (by omega) (by simp) yok_nil (Or.inr ⟨rfl, rfl, rfl, z⟩) hN (fun t M' a b c f => k0 t M' a b c (zFy_trans f9 f)) (fun t M' a b c f => k1 t M' a b c (zFy_trans f9 f))
theorem zy_tree {lt : Nat → Nat} {len F : Nat} {M : gM} {K : Int32 → gM → Prop} (hF : F = 13) (hl : zlok lt len) (h2 : M.1 9 0 10 = nI len) (h53 : ∀ i, i < len → M.1 53 0 i = nI (lt i))
    (k0 : (ytree lt len F 0 0 [] []).1 = 0 → ∀ M', M'.1 52 0 0 = (ytree lt len F 0 0 [] []).2.2.2.1 → M'.1 52 0 1 = (ytree lt len F 0 0 [] []).2.2.2.2.1 → M'.1 52 0 2 = (ytree lt len F 0 0 [] []).2.2.2.2.2 → zFz yQx M M' → K (yerr (ytree lt len F 0 0 [] []).2.2.2) M')
    (k1 : (ytree lt len F 0 0 [] []).1 = 1 → ∀ M', M'.1 9 0 15 = nI (ytree lt len F 0 0 [] []).2.1.length → (∀ i c, (ytree lt len F 0 0 [] []).2.1[i]? = some c → M'.2 55 0 i = zmst c) → yNM (ytree lt len F 0 0 [] []).2.2.1 M' → zFz yQY M M' → K (nI (ytree lt len F 0 0 [] []).2.2.1.length) M') : wp_X9_reads 0 M K := by
  unfold wp_X9_reads
  intro M2 e2 M7 e7 M9 e9
  refine ⟨F + 1, ?_⟩
  have f9 : zFz yQY M M9 := by
    rw [e9, e7, e2]
    exact zFz_trans (zFz_trans (zFz_u (Or.inl ⟨rfl, rfl, Or.inl rfl⟩)) (zFz_u (Or.inl ⟨rfl, rfl, Or.inr (Or.inr (Or.inl rfl))⟩))) (zFz_u (Or.inl ⟨rfl, rfl, Or.inr (Or.inl rfl)⟩))
  have n2 : ¬ yQY 9 0 10 := by unfold yQY; omega
  have n53 : ∀ i, ¬ yQY 53 0 i := fun i => by unfold yQY; omega
  have z : zpm lt len 0 [] [] (g_uI M9 9 0 17 0) := by
    refine ⟨?_, ?_, fun i hi => ?_, ?_, trivial, ?_, fun i c hc => by simp at hc⟩
    · rw [zuI, if_neg (by omega), f9.1 9 0 10 n2]; exact h2
    · rw [zuI, if_neg (by omega), e9, zuI, if_neg (by omega), e7, zuI, if_neg (by omega), e2, zuI, if_pos ⟨rfl, rfl, rfl⟩]; rfl
    · rw [zuI, if_neg (by omega), f9.1 53 0 i (n53 i)]; exact h53 i hi
    · rw [zuI, if_pos ⟨rfl, rfl, rfl⟩]; rfl
    · rw [zuI, if_neg (by omega), e9, zuI, if_neg (by omega), e7, zuI, if_pos ⟨rfl, rfl, rfl⟩]; rfl
  have hN : yNM [] M9 := ⟨by rw [e9, zuI, if_pos ⟨rfl, rfl, rfl⟩]; rfl, fun i n h => by simp at h⟩
  exact zy_treeL (K := K) hl F 0 [] [] [] M9 (by simp; exact hF) (by simp) (by omega) (by simp) yok_nil (Or.inr ⟨rfl, z⟩) hN (fun t M' a b c f => k0 t M' a b c (zFz_trans (zFz_w f9 yQY_x) f)) (fun t M' a b c f => k1 t M' a b c (zFz_trans f9 f))
