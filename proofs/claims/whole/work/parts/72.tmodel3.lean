def yQs (x k o i : Nat) : Prop := yQe k o i ∨ (k = 54 ∧ o = 0 ∧ 12 * x + 2 ≤ i ∧ i ≤ 12 * x + 3)
theorem zy_shp {lt : Nat → Nat} {len a x : Nat} {st cd : List Nat} {M : gM} {K : Int32 → gM → Prop} (hl : zlok lt len) (hx : x < 12) (hx0 : x ≠ 0) (c1 : lt a = 64) (h : zpm lt len a st cd M) (h0 : (yshp lt x a).1 = 0 → ∀ M', M'.1 9 0 11 = nI (yshp lt x a).2.1 → zFz (yQs x) M M' → K 0 M') (h1 : (yshp lt x a).1 = 1 → ∀ M', zpm lt len (yshp lt x a).2.1 st cd M' → M'.1 54 0 (12 * x + 2) = nI (yshp lt x a).2.2.1 → M'.1 54 0 (12 * x + 3) = nI (yshp lt x a).2.2.2 → zFz (yQs x) M M' → K 1 M') : wp_X9_readsShaper 0 (nI x) M K := by
  have hlen := hl.1
  have hpe : ∀ k o i, yQe k o i → yQs x k o i := fun _ _ _ z => Or.inl z
  have i2 : 12 * nI x + 2 = nI (12 * x + 2) := zix54 x 2
  have i3 : 12 * nI x + 3 = nI (12 * x + 3) := zix54 x 3
  have al := zlok_lt hl (i := a) (by omega)
  unfold wp_X9_readsShaper
  unfold yshp at h0 h1
  rw [if_neg (fun q => q.elim hx0 (fun z => z c1))] at h0 h1
  intro M1 e1 n14 e14
  rw [h.2.1, nI_1] at e1
  have z1 : zpm lt len (a + 1) st cd M1 := by rw [e1]; exact zpm_at h
  rw [z1.2.1] at e14
  subst e14
  have f1 : zFz (yQs x) M M1 := by rw [e1]; exact zFz_u (Or.inl (Or.inl ⟨rfl, rfl, Or.inl rfl⟩))
  obtain ⟨n1, n2, n3, n4⟩ := ynum_le (a := a + 1) hl al
  refine zy_num4 (a := a + 1) hl al z1 (fun t M2 z2 f2 => ?_) (fun t M2 z2 f2 => ?_)
  · rw [if_pos t] at h0
    rw [if_neg (by decide)]
    exact h0 rfl M2 z2.2.1 (zFz_trans f1 (zFm_z f2 hpe))
  · rw [if_neg (show ¬ (ynum lt (a + 1)).1 = 0 by omega)] at h0 h1
    have f2' : zFz (yQs x) M M2 := zFz_trans f1 (zFm_z f2 hpe)
    rw [if_pos (nI_pos' (by omega))]
    by_cases c2 : (ynum lt (a + 1)).2.2 = 0
    · rw [if_pos c2] at h0
      rw [if_pos (by rw [c2]; decide)]
      intro M3 e3
      refine h0 rfl M3 ?_ (zFz_trans f2' (by rw [e3]; exact zFz_u (Or.inl (Or.inl ⟨rfl, rfl, Or.inl rfl⟩))))
      rw [e3, zuI, if_pos ⟨rfl, rfl, rfl⟩]
    · rw [if_neg c2] at h0 h1
      rw [if_neg (nI_ne0 (by omega) (by omega)), z2.2.1]
      refine zy_letter z2.1 z2.2.2.1 hl (by omega) ?_
      by_cases c3 : lt (ynum lt (a + 1)).2.1 = 44
      · rw [if_neg (fun q => q c3)] at h0 h1
        rw [if_pos (show zlI lt len (ynum lt (a + 1)).2.1 = 44 from (zlI_eq (n := 44) hl rfl (by omega) (by omega)).mpr c3)]
        have al2 := zlok_lt hl (i := (ynum lt (a + 1)).2.1) (by omega)
        intro M3 e3
        rw [z2.2.1, nI_1] at e3
        have z3 : zpm lt len ((ynum lt (a + 1)).2.1 + 1) st cd M3 := by rw [e3]; exact zpm_at z2
        have f3 : zFz (yQs x) M M3 := zFz_trans f2' (by rw [e3]; exact zFz_u (Or.inl (Or.inl ⟨rfl, rfl, Or.inl rfl⟩)))
        obtain ⟨q1, q2, q3, q4⟩ := ynum_le (a := (ynum lt (a + 1)).2.1 + 1) hl al2
        rw [i2, i3]
        have two : ∀ {v : Int32} {M4 M5 M6 : gM}, zpm lt len (ynum lt ((ynum lt (a + 1)).2.1 + 1)).2.1 st cd M4 → zFm M3 M4 → M5 = g_uI M4 54 0 (12 * x + 2) (nI (ynum lt (a + 1)).2.2) → M6 = g_uI M5 54 0 (12 * x + 3) v → zpm lt len (ynum lt ((ynum lt (a + 1)).2.1 + 1)).2.1 st cd M6 ∧ M6.1 54 0 (12 * x + 2) = nI (ynum lt (a + 1)).2.2 ∧ M6.1 54 0 (12 * x + 3) = v ∧ zFz (yQs x) M M6 := fun {v M4 M5 M6} z4 f4 e5 e6 => by
          refine ⟨?_, ?_, ?_, ?_⟩
          · rw [e6, e5]; exact zpm_u (zpm_u z4 (by omega)) (by omega)
          · rw [e6, zuI, if_neg (by omega), e5, zuI, if_pos ⟨rfl, rfl, rfl⟩]
          · rw [e6, zuI, if_pos ⟨rfl, rfl, rfl⟩]
          · refine zFz_trans f3 (zFz_trans (zFm_z f4 hpe) (zFz_trans (M1 := M5) ?_ ?_))
            · rw [e5]; exact zFz_u (Or.inr ⟨rfl, rfl, by omega⟩)
            · rw [e6]; exact zFz_u (Or.inr ⟨rfl, rfl, by omega⟩)
        refine zy_num4 (a := (ynum lt (a + 1)).2.1 + 1) hl al2 z3 (fun t2 M4 z4 f4 => ?_) (fun t2 M4 z4 f4 => ?_)
        · refine ⟨vp_in_nI (by omega) (by omega), ?_⟩
          intro M5 e5
          refine ⟨vp_in_nI (by omega) (by omega), ?_⟩
          intro M6 e6
          rw [nI_clamp (by omega)] at e5 e6
          obtain ⟨r1, r2, r3, r4⟩ := two z4 f4 e5 e6
          rw [if_pos (by decide)]
          exact h0 t2 M6 r1.2.1 r4
        · refine ⟨vp_in_nI (by omega) (by omega), ?_⟩
          intro M5 e5
          refine ⟨vp_in_nI (by omega) (by omega), ?_⟩
          intro M6 e6
          rw [nI_clamp (by omega)] at e5 e6
          obtain ⟨r1, r2, r3, r4⟩ := two z4 f4 e5 e6
          rw [if_neg (nI_pos (by omega))]
          exact h1 t2 M6 r1 r2 r3 r4
      · rw [if_pos c3] at h0
        rw [if_neg (show ¬ zlI lt len (ynum lt (a + 1)).2.1 = 44 from fun z => c3 ((zlI_eq (n := 44) hl rfl (by omega) (by omega)).mp z))]
        exact h0 rfl M2 z2.2.1 f2'
