theorem zrd_le {lt : Nat → Nat} {len f a v : Nat} (hl : zlok lt len) (ha : a ≤ len) : (zrd lt f a v).1 ≤ len := by
  obtain ⟨r1, r2, r3⟩ := zrd_lt lt f a v
  by_cases c : (zrd lt f a v).1 = a
  · omega
  · have := r3 ((zrd lt f a v).1 - 1) (by omega) (by omega)
    have := zlok_lt hl (i := (zrd lt f a v).1 - 1) (by omega)
    omega
theorem ynum_le {lt : Nat → Nat} {len a : Nat} (hl : zlok lt len) (ha : a ≤ len) : (ynum lt a).2.1 ≤ len ∧ (ynum lt a).2.2 < 10000 ∧ a ≤ (ynum lt a).2.1 ∧ ((ynum lt a).1 = 0 ∨ (ynum lt a).1 = 1) := by
  have r1 := zrd_le (f := 4) (v := 0) hl ha
  have r2 := zrd_val lt 4 a 0
  have r3 := (zrd_lt lt 4 a 0).1
  unfold ynum
  split
  · exact ⟨r1, by show 0 < 10000; omega, r3, Or.inl rfl⟩
  · exact ⟨r1, by show (zrd lt 4 a 0).2 < 10000; omega, r3, Or.inr rfl⟩
theorem zx_num4 {lt : Nat → Nat} {len a : Nat} {st cd : List Nat} {M : gM} {K : Int32 → gM → Prop} (hl : zlok lt len) (ha : a ≤ len) (h : zpc lt len a st cd M) (h0 : (ynum lt a).1 = 0 → ∀ M', zpc lt len (ynum lt a).2.1 st cd M' → zFe M M' → K (-1) M') (h1 : (ynum lt a).1 = 1 → ∀ M', zpc lt len (ynum lt a).2.1 st cd M' → zFe M M' → K (nI (ynum lt a).2.2) M') : wp_X6_readNumber 0 4 M K := by
  refine zx_num (m := 4) hl (by omega) ha h (fun M' z f => ?_)
  unfold ynum at h0 h1
  by_cases c : 48 ≤ lt (zrd lt 4 a 0).1 ∧ lt (zrd lt 4 a 0).1 ≤ 57
  · rw [if_pos (Or.inl c)] at h0
    rw [if_pos c]
    exact h0 rfl M' z f
  · rw [if_neg c]
    by_cases c2 : (zrd lt 4 a 0).1 = a
    · rw [if_pos (Or.inr c2)] at h0
      rw [if_pos c2]
      exact h0 rfl M' z f
    · rw [if_neg (fun q => q.elim c c2)] at h1
      rw [if_neg c2]
      exact h1 rfl M' z f
def yPs (x k o i : Nat) : Prop := yPe k o i ∨ (k = 6 ∧ o = 0 ∧ (i = 5 ∨ i = 6)) ∨ ((k = 35 ∨ k = 36) ∧ o = 5 ∧ i = x)
theorem zx_shp {lt : Nat → Nat} {len a x : Nat} {st cd : List Nat} {M : gM} {K : Int32 → gM → Prop} (hl : zlok lt len) (hx : x < 12) (h : zpc lt len a st cd M) (ha : a ≤ len) (hr : M.1 35 5 x = 0) (h0 : (yshp lt x a).1 = 0 → ∀ M', M'.1 6 0 5 = nI a → M'.1 6 0 6 = nI (yshp lt x a).2.1 → zFy (yPs x) M M' → K 0 M') (h1 : (yshp lt x a).1 = 1 → ∀ M', zpc lt len (yshp lt x a).2.1 st cd M' → M'.1 35 5 x = nI (yshp lt x a).2.2.1 → (0 < (yshp lt x a).2.2.1 → M'.1 36 5 x = nI (yshp lt x a).2.2.2) → M'.1 6 0 6 = M.1 6 0 6 → zFy (yPs x) M M' → K 1 M') : wp_X6_readShaper 0 (nI x) M K := by
  have hlen := hl.1
  have hb := zlt_b (i := a) hl
  have hpe : ∀ k o i, yPe k o i → yPs x k o i := fun _ _ _ z => Or.inl z
  have ne5 : ¬ yPe 6 0 5 := by unfold yPe; omega
  have ne6 : ¬ yPe 6 0 6 := by unfold yPe; omega
  unfold wp_X6_readShaper
  unfold yshp at h0 h1
  by_cases c0 : x = 0
  · subst c0
    rw [if_pos (Or.inl rfl)] at h1
    rw [if_pos (by decide)]
    exact h1 rfl M h hr (fun q => absurd q (Nat.lt_irrefl 0)) rfl zFy_refl
  rw [if_neg (nI_ne0 (by omega) (by omega))]
  refine zx_sign h hl ha ?_
  by_cases c1 : lt a = 64
  · rw [if_neg (fun q => q.elim c0 (fun z => z c1))] at h0 h1
    have al := zlok_lt hl (i := a) (by omega)
    rw [if_pos (show nI (lt a) = 64 by rw [c1]; decide)]
    intro M1 e1 M2 e2 n37 e37
    rw [h.2.1] at e1
    have z1 : zpc lt len a st cd M1 := by rw [e1]; exact zpc_u h (by omega)
    rw [z1.2.1, nI_1] at e2
    have z2 : zpc lt len (a + 1) st cd M2 := by rw [e2]; exact zpc_at z1
    rw [z2.2.1] at e37
    subst e37
    have f2 : zFy (yPs x) M M2 := zFy_trans (M1 := M1) (by rw [e1]; exact zFy_u (Or.inr (Or.inl ⟨rfl, rfl, Or.inl rfl⟩))) (by rw [e2]; exact zFy_u (Or.inl (Or.inl ⟨rfl, rfl, Or.inl rfl⟩)))
    have t2' : M2.1 6 0 6 = M.1 6 0 6 := by rw [e2, zuI, if_neg (by omega), e1, zuI, if_neg (by omega)]
    have v2 : M2.1 6 0 5 = nI a := by rw [e2, zuI, if_neg (by omega), e1, zuI, if_pos ⟨rfl, rfl, rfl⟩]
    obtain ⟨n1, n2, n3, n4⟩ := ynum_le (a := a + 1) hl al
    have bad : ∀ (p : Nat) (v : Int32) (M4 M5 : gM), v = nI p → (∀ M', M'.1 6 0 5 = nI a → M'.1 6 0 6 = nI p → zFy (yPs x) M M' → K 0 M') → M4.1 6 0 5 = nI a → zFy (yPs x) M M4 → M5 = g_uI M4 6 0 6 v → K 0 M5 := fun p v M4 M5 ev kk v4 f4 e5 => by
      refine kk M5 ?_ ?_ (zFy_trans f4 ?_)
      · rw [e5, zuI, if_neg (by omega)]; exact v4
      · rw [e5, zuI, if_pos ⟨rfl, rfl, rfl⟩]; exact ev
      · rw [e5]; exact zFy_u (Or.inr (Or.inl ⟨rfl, rfl, Or.inr rfl⟩))
    refine zx_num4 (a := a + 1) hl al z2 (fun t M3 z3 f3 => ?_) (fun t M3 z3 f3 => ?_)
    · rw [if_pos t] at h0
      rw [if_neg (by decide), if_pos (by decide)]
      unfold wp_X6_readShaper_b68
      intro M4 e4
      exact bad _ _ M3 M4 z3.2.1 (h0 rfl) (by rw [f3.2 6 0 5 ne5]; exact v2) (zFy_trans f2 (zFe_y f3 hpe)) e4
    · rw [if_neg (show ¬ (ynum lt (a + 1)).1 = 0 by omega)] at h0 h1
      have v3 : M3.1 6 0 5 = nI a := by rw [f3.2 6 0 5 ne5]; exact v2
      have f3' : zFy (yPs x) M M3 := zFy_trans f2 (zFe_y f3 hpe)
      by_cases c2 : (ynum lt (a + 1)).2.2 = 0
      · rw [if_pos c2] at h0
        rw [if_pos (by rw [c2]; decide)]
        intro M4 e4
        exact bad (a + 1) _ M3 M4 rfl (h0 rfl) v3 f3' e4
      · rw [if_neg c2] at h0 h1
        rw [if_neg (nI_ne0 (by omega) (by omega)), if_neg (nI_pos (by omega))]
        refine zx_sign z3 hl n1 ?_
        have hb2 := zlt_b (i := (ynum lt (a + 1)).2.1) hl
        by_cases c3 : lt (ynum lt (a + 1)).2.1 = 44
        · rw [if_neg (fun q => q c3)] at h0 h1
          rw [if_pos (show nI (lt (ynum lt (a + 1)).2.1) = 44 by rw [c3]; decide)]
          have al2 := zlok_lt hl (i := (ynum lt (a + 1)).2.1) (by omega)
          intro M4 e4
          rw [z3.2.1, nI_1] at e4
          have z4 : zpc lt len ((ynum lt (a + 1)).2.1 + 1) st cd M4 := by rw [e4]; exact zpc_at z3
          have f4 : zFy (yPs x) M M4 := zFy_trans f3' (by rw [e4]; exact zFy_u (Or.inl (Or.inl ⟨rfl, rfl, Or.inl rfl⟩)))
          have v4 : M4.1 6 0 5 = nI a := by rw [e4, zuI, if_neg (by omega)]; exact v3
          obtain ⟨q1, q2, q3, q4⟩ := ynum_le (a := (ynum lt (a + 1)).2.1 + 1) hl al2
          refine zx_num4 (a := (ynum lt (a + 1)).2.1 + 1) hl al2 z4 (fun t2 M5 z5 f5 => ?_) (fun t2 M5 z5 f5 => ?_)
          · rw [if_neg (by decide)]
            intro M6 e6
            exact bad _ _ M5 M6 z5.2.1 (h0 t2) (by rw [f5.2 6 0 5 ne5]; exact v4) (zFy_trans f4 (zFe_y f5 hpe)) e6
          · rw [if_pos (nI_pos' (by omega))]
            refine ⟨vp_in_nI hx (by omega), ?_⟩
            intro M6 e6
            refine ⟨vp_in_nI hx (by omega), ?_⟩
            intro M7 e7
            rw [nI_clamp (by omega)] at e6 e7
            refine h1 t2 M7 ?_ ?_ (fun _ => ?_) (by rw [e7, zuI, if_neg (by omega), e6, zuI, if_neg (by omega), f5.2 6 0 6 ne6, e4, zuI, if_neg (by omega), f3.2 6 0 6 ne6]; exact t2') ?_
            · rw [e7]
              exact zpc_u (by rw [e6]; exact zpc_u z5 (by omega)) (by omega)
            · rw [e7, zuI, if_neg (by omega), e6, zuI, if_pos ⟨rfl, rfl, rfl⟩]
            · rw [e7, zuI, if_pos ⟨rfl, rfl, rfl⟩]
            · refine zFy_trans f4 (zFy_trans (zFe_y f5 hpe) (zFy_trans (M1 := M6) ?_ ?_))
              · rw [e6]; exact zFy_u (Or.inr (Or.inr ⟨Or.inl rfl, rfl, rfl⟩))
              · rw [e7]; exact zFy_u (Or.inr (Or.inr ⟨Or.inr rfl, rfl, rfl⟩))
        · rw [if_pos c3] at h0
          rw [if_neg (zk_ne (c := 44) (a := 44) rfl c3 (by omega) (by omega))]
          unfold wp_X6_readShaper_b68
          intro M4 e4
          exact bad _ _ M3 M4 z3.2.1 (h0 rfl) v3 f3' e4
  · rw [if_pos (Or.inr c1)] at h1
    rw [if_neg (zk_ne (c := 64) (a := 64) rfl c1 (by omega) (by omega))]
    exact h1 rfl M h hr (fun q => absurd q (Nat.lt_irrefl 0)) rfl zFy_refl
theorem zix7 : ∀ c, c < 127 → g_sIx 7 (nI c) + 1 = nI (ytie c) := by decide +kernel
theorem ytie_le (c : Nat) : ytie c ≤ 3 := by
  unfold ytie
  repeat' split
  all_goals omega
def yPt (x k o i : Nat) : Prop := (k = 6 ∧ o = 0 ∧ (i = 3 ∨ i = 5)) ∨ (k = 34 ∧ o = 5 ∧ i = x)
theorem zx_end {lt : Nat → Nat} {len a x : Nat} {st cd : List Nat} {M : gM} {K : Int32 → gM → Prop} (hl : zlok lt len) (hx : x < 12) (h : zpc lt len a st cd M) (ha : a ≤ len) (h0 : ¬ yendok lt len a → ∀ M', M'.1 6 0 5 = nI (yend lt a) → zFy (yPt x) M M' → K 0 M') (h1 : yendok lt len a → ∀ M', zpc lt len (yend lt a) st cd M' → M'.1 34 5 x = nI (ytie (lt a)) → zFy (yPt x) M M' → K 1 M') : wp_X6_readEnd 0 (nI x) M K := by
  have hlen := hl.1
  have hb := zlt_b (i := a) hl
  have ht := ytie_le (lt a)
  unfold wp_X6_readEnd
  refine zx_sign h hl ha ?_
  refine ⟨by decide, by decide, nI_pos' (by omega), zk_lt (c := 128) (a := 128) rfl (by omega) (by omega), ?_⟩
  intro n11 e11
  rw [zix7 _ (by omega)] at e11
  subst e11
  have fin : ∀ M1, zpc lt len (yend lt a) st cd M1 → yend lt a ≤ len → zFy (yPt x) M M1 → wp_X6_readEnd_b26 K 0 (nI x) (nI (ytie (lt a))) M1 := fun M1 z1 he f1 => by
    unfold wp_X6_readEnd_b26
    refine ⟨vp_in_nI hx (by omega), ?_⟩
    intro M2 e2 M3 e3
    rw [nI_clamp (by omega)] at e2
    have z2 : zpc lt len (yend lt a) st cd M2 := by rw [e2]; exact zpc_u z1 (by omega)
    rw [z2.2.1] at e3
    have z3 : zpc lt len (yend lt a) st cd M3 := by rw [e3]; exact zpc_u z2 (by omega)
    have f3 : zFy (yPt x) M M3 := zFy_trans f1 (zFy_trans (M1 := M2) (by rw [e2]; exact zFy_u (Or.inr ⟨rfl, rfl, rfl⟩)) (by rw [e3]; exact zFy_u (Or.inl ⟨rfl, rfl, Or.inr rfl⟩)))
    have w3 : M3.1 34 5 x = nI (ytie (lt a)) := by rw [e3, zuI, if_neg (by omega), e2, zuI, if_pos ⟨rfl, rfl, rfl⟩]
    have v3 : M3.1 6 0 5 = nI (yend lt a) := by rw [e3, zuI, if_pos ⟨rfl, rfl, rfl⟩]
    have hb2 := zlt_b (i := yend lt a) hl
    refine zx_sign z3 hl he ?_
    by_cases c1 : yend lt a = len
    · have e0 : lt (yend lt a) = 0 := hl.2.2 _ (by omega)
      rw [e0, if_pos (by decide)]
      exact h1 (Or.inl c1) M3 z3 w3 f3
    · have := hl.2.1 (yend lt a) (by omega)
      rw [if_neg (nI_ne0 (by omega) (by omega))]
      refine zx_sign z3 hl he ?_
      by_cases c2 : lt (yend lt a) = 59
      · rw [if_pos (show nI (lt (yend lt a)) = 59 by rw [c2]; decide)]
        exact h1 (Or.inr c2) M3 z3 w3 f3
      · rw [if_neg (zk_ne (c := 59) (a := 59) rfl c2 (by omega) (by omega))]
        exact h0 (fun q => q.elim c1 c2) M3 v3 f3
  by_cases c : ytie (lt a) = 0
  · have ey : yend lt a = a := if_pos c
    rw [if_pos (show nI (ytie (lt a)) ≤ 0 by rw [c]; decide)]
    exact fin M (by rw [ey]; exact h) (by omega) zFy_refl
  · have ey : yend lt a = a + 1 := if_neg c
    have al := zlok_lt hl (i := a) (fun e => c (by rw [e]; rfl))
    rw [if_neg (zk_nle2 (c := 0) (a := 0) rfl (by omega) (by omega))]
    intro M1 e1
    rw [h.2.1, nI_1] at e1
    exact fin M1 (by rw [ey, e1]; exact zpc_at h) (by omega) (by rw [e1]; exact zFy_u (Or.inl ⟨rfl, rfl, Or.inl rfl⟩))
