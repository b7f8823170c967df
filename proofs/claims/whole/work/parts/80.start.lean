/-! the class: a world begins anew -/
def zFg (P : Nat → Nat → Prop) (M0 M : gM) : Prop := ∀ k o, ¬ P k o → M.1 k o = M0.1 k o ∧ M.2 k o = M0.2 k o
theorem zFg_refl {P : Nat → Nat → Prop} {M : gM} : zFg P M M := fun _ _ _ => ⟨rfl, rfl⟩
theorem zFg_trans {P : Nat → Nat → Prop} {M0 M1 M2 : gM} (h : zFg P M0 M1) (h2 : zFg P M1 M2) : zFg P M0 M2 := fun k o q => ⟨(h2 k o q).1.trans (h k o q).1, (h2 k o q).2.trans (h k o q).2⟩
theorem zFg_w {P Q : Nat → Nat → Prop} {M0 M : gM} (h : zFg P M0 M) (hq : ∀ k o, P k o → Q k o) : zFg Q M0 M := fun k o q => h k o (fun z => q (hq k o z))
theorem zFg_uI {P : Nat → Nat → Prop} {M : gM} {k o i : Nat} {v : Int32} (h : P k o) : zFg P M (g_uI M k o i v) := fun a b q => ⟨by
  show (if a = k ∧ b = o then _ else M.1 a b) = _
  rw [if_neg (fun z => q (by rw [z.1, z.2]; exact h))], rfl⟩
theorem zFg_uL {P : Nat → Nat → Prop} {M : gM} {k o i : Nat} {v : Int64} (h : P k o) : zFg P M (g_uL M k o i v) := fun a b q => ⟨rfl, by
  show (if a = k ∧ b = o then _ else M.2 a b) = _
  rw [if_neg (fun z => q (by rw [z.1, z.2]; exact h))]⟩
theorem zFg_F {P : Nat → Nat → Prop} {w : Nat} {M0 M : gM} (h : zFg P M0 M) (hp : ∀ k o, P k o → zin w k o) : zF w M0 M := fun k o q => h k o (fun z => q (hp k o z))
theorem zx_rsNL {o : Nat} {M0 : gM} {K : gM → Prop} (hK : ∀ M', M'.1 = M0.1 → (∀ j, j < 16 → M'.2 22 o j = 0) → (∀ k b, ¬ (k = 22 ∧ b = o) → M'.2 k b = M0.2 k b) → K M') : ∀ (n j : Nat) (M : gM), j + n = 16 → M.1 = M0.1 → (∀ i, i < j → M.2 22 o i = 0) → (∀ k b, ¬ (k = 22 ∧ b = o) → M.2 k b = M0.2 k b) → wp_X3_restart_L22 K (n + 1) o (nI j) M
  | 0, j, M, e, h1, h2, h3 => by
    unfold wp_X3_restart_L22
    rw [if_pos (zk_le2 (c := 16) (a := 16) rfl (by omega) (by omega))]
    have : j = 16 := by omega
    subst this
    exact hK M h1 h2 h3
  | n + 1, j, M, e, h1, h2, h3 => by
    unfold wp_X3_restart_L22
    rw [if_neg (zk_nle (c := 16) (a := 16) rfl (by omega) (by omega))]
    refine ⟨vp_in_nI (by omega) (by omega), ?_⟩
    intro M1 e1 n38 e38
    rw [zn_p1] at e38
    subst e38
    rw [nI_clamp (by omega)] at e1
    refine zx_rsNL hK n (j + 1) M1 (by omega) (by rw [e1]; exact h1) (fun i hi => ?_) (fun k b q => ?_)
    · rw [e1, zuL]
      by_cases c : i = j
      · rw [if_pos ⟨rfl, rfl, c⟩]
      · rw [if_neg (fun z => c z.2.2)]; exact h2 i (by omega)
    · rw [e1]
      show (if k = 22 ∧ b = o then _ else M.2 k b) = _
      rw [if_neg q]; exact h3 k b q
def yRN (x : Nat) (M : gM) : Prop := M.1 3 x 0 = 1 ∧ M.2 3 x 1 = 0 ∧ M.2 3 x 2 = 0 ∧ M.1 3 x 4 = 0 ∧ ∀ j, j < 16 → M.2 22 x j = 0
theorem zx_rsN {o : Nat} {M : gM} {K : gM → Prop} (hK : ∀ M', yRN o M' → zFg (fun k b => (k = 3 ∨ k = 22) ∧ b = o) M M' → K M') : wp_X3_restart o M K := by
  unfold wp_X3_restart
  intro M1 e1 M2 e2 M3 e3 M4 e4
  have f4 : zFg (fun k b => (k = 3 ∨ k = 22) ∧ b = o) M M4 := by
    rw [e4, e3, e2, e1]
    exact zFg_trans (zFg_trans (zFg_trans (zFg_uI ⟨Or.inl rfl, rfl⟩) (zFg_uL ⟨Or.inl rfl, rfl⟩)) (zFg_uL ⟨Or.inl rfl, rfl⟩)) (zFg_uI ⟨Or.inl rfl, rfl⟩)
  have a0 : M4.1 3 o 0 = 1 := by rw [e4, zuI, if_neg (by omega), e3, zuL1, e2, zuL1, e1, zuI, if_pos ⟨rfl, rfl, rfl⟩]
  have a1 : M4.2 3 o 1 = 0 := by rw [e4, zuI2, e3, zuL, if_neg (by omega), e2, zuL, if_pos ⟨rfl, rfl, rfl⟩]
  have a2 : M4.2 3 o 2 = 0 := by rw [e4, zuI2, e3, zuL, if_pos ⟨rfl, rfl, rfl⟩]
  have a4 : M4.1 3 o 4 = 0 := by rw [e4, zuI, if_pos ⟨rfl, rfl, rfl⟩]
  have r := zx_rsNL (o := o) (M0 := M4) (K := K) (fun M' m1 m2 m3 => hK M' ⟨by rw [m1]; exact a0, by rw [m3 3 o (by omega)]; exact a1, by rw [m3 3 o (by omega)]; exact a2, by rw [m1]; exact a4, m2⟩ (fun k b q => ⟨by rw [m1]; exact (f4 k b q).1, by rw [m3 k b (fun z => q ⟨Or.inr z.1, z.2⟩)]; exact (f4 k b q).2⟩)) 16 0 M4 (by omega) rfl (fun i hi => by omega) (fun _ _ _ => rfl)
  exact ⟨17, r⟩
theorem yRN_cong {x : Nat} {M M' : gM} (h : yRN x M) (e3 : M'.1 3 x = M.1 3 x ∧ M'.2 3 x = M.2 3 x) (e22 : M'.2 22 x = M.2 22 x) : yRN x M' := by
  obtain ⟨h1, h2, h3, h4, h5⟩ := h
  refine ⟨?_, ?_, ?_, ?_, fun j hj => ?_⟩
  · rw [e3.1]; exact h1
  · rw [e3.2]; exact h2
  · rw [e3.2]; exact h3
  · rw [e3.1]; exact h4
  · rw [e22]; exact h5 j hj
theorem zx_swL {M0 : gM} {K : gM → Prop} (hK : ∀ M', (∀ x, x < 12 → yRN x M') → zFg (fun k b => (k = 3 ∨ k = 22) ∧ b < 12) M0 M' → wp_X5_firstLeaf 0 M' (fun r63 M63 => wp_X1_restart 0 r63 M63 (fun M66 => K M66))) : ∀ (n j : Nat) (M : gM), j + n = 12 → (∀ x, x < j → yRN x M) → zFg (fun k b => (k = 3 ∨ k = 22) ∧ b < 12) M0 M → wp_X7_startWith_L31 K (n + 1) 0 (nI j) M
  | 0, j, M, e, h, f => by
    unfold wp_X7_startWith_L31
    rw [if_pos (zk_le2 (c := 12) (a := 12) rfl (by omega) (by omega))]
    have : j = 12 := by omega
    subst this
    exact hK M h f
  | n + 1, j, M, e, h, f => by
    unfold wp_X7_startWith_L31
    rw [if_neg (zk_nle (c := 12) (a := 12) rfl (by omega) (by omega))]
    refine ⟨vp_in_nI (by omega) (by omega), ?_⟩
    rw [nI_clamp (by omega), show 12 * 0 + j = j by omega]
    refine zx_rsN (fun M1 r1 f1 => ?_)
    intro n49 e49
    rw [zn_p1] at e49
    subst e49
    refine zx_swL hK n (j + 1) M1 (by omega) (fun x hx => ?_) (zFg_trans f (zFg_w f1 (fun k o q => ⟨q.1, by omega⟩)))
    by_cases c : x = j
    · rw [c]; exact r1
    · exact yRN_cong (h x (by omega)) (f1 3 x (fun z => c z.2)) (f1 22 x (fun z => c z.2)).2
theorem zx_flL {nn : Nat} {cc : Nat → Nat} {M : gM} {K : Int32 → gM → Prop} (h0 : M.1 5 0 0 = nI nn) (hn : nn ≤ 12) (h33 : ∀ i, i < nn → M.1 33 0 i = nI (cc i)) (hcc : ∀ i, i < nn → cc i ≤ 12) : ∀ (f x : Nat), x + f = nn → K (nI (yfl cc f x)) M → wp_X5_firstLeaf_L2 K (f + 1) 0 (nI x) M
  | 0, x, e, hK => by
    unfold wp_X5_firstLeaf_L2
    rw [h0, if_pos (nI_le (by omega) (by omega))]
    exact hK
  | f + 1, x, e, hK => by
    have := hcc x (by omega)
    unfold wp_X5_firstLeaf_L2
    rw [h0, if_neg (nI_ge (by omega) (by omega))]
    unfold wp_X5_isLeaf
    rw [if_neg (nI_pos (by omega)), h0, if_neg (nI_ge (by omega) (by omega)), if_neg (zk_nle (c := 12) (a := 12) rfl (by omega) (by omega))]
    refine ⟨vp_in_nI (by omega) (by omega), ?_⟩
    rw [nI_clamp (by omega), h33 x (by omega)]
    unfold yfl at hK
    by_cases c : cc x = 0
    · rw [if_pos c] at hK
      rw [if_pos (show nI (cc x) = 0 by rw [c]; rfl)]
      show (if (1 : Int32) = 0 then _ else _)
      rw [if_neg (by decide)]
      exact hK
    · rw [if_neg c] at hK
      rw [if_neg (nI_ne0 (by omega) (by omega))]
      show (if (0 : Int32) = 0 then _ else _)
      rw [if_pos rfl]
      intro n18 e18
      rw [zn_p1] at e18
      subst e18
      exact zx_flL h0 hn h33 hcc f (x + 1) (by omega) hK
def yRF (lf : Int32) (f : Nat) (M : gM) : Prop := M.1 13 0 f = lf ∧ M.1 14 0 f = 0 ∧ M.1 15 0 f = 0 ∧ M.2 16 0 f = 0 ∧ M.2 17 0 f = 0 ∧ M.1 18 0 f = 0
theorem zx_rsFL {lf : Int32} {M0 : gM} {K : gM → Prop} (hK : ∀ M', (∀ f, f < 16 → yRF lf f M') → zFg (fun k o => 13 ≤ k ∧ k ≤ 18 ∧ o = 0) M0 M' → K M') : ∀ (n j : Nat) (M : gM), j + n = 16 → (∀ f, f < j → yRF lf f M) → zFg (fun k o => 13 ≤ k ∧ k ≤ 18 ∧ o = 0) M0 M → wp_X1_restart_L2 K (n + 1) 0 lf (nI j) M
  | 0, j, M, e, h, f => by
    unfold wp_X1_restart_L2
    rw [if_pos (zk_le2 (c := 16) (a := 16) rfl (by omega) (by omega))]
    have : j = 16 := by omega
    subst this
    exact hK M h f
  | n + 1, j, M, e, h, f => by
    have hin : vp_in (nI j) 16 := vp_in_nI (by omega) (by omega)
    unfold wp_X1_restart_L2
    rw [if_neg (zk_nle (c := 16) (a := 16) rfl (by omega) (by omega)), nI_clamp (by omega)]
    refine ⟨hin, ?_⟩
    intro M1 e1
    refine ⟨hin, ?_⟩
    intro M2 e2
    refine ⟨hin, ?_⟩
    intro M3 e3
    refine ⟨hin, ?_⟩
    intro M4 e4
    refine ⟨hin, ?_⟩
    intro M5 e5
    refine ⟨hin, ?_⟩
    intro M6 e6 n50 e50
    rw [zn_p1] at e50
    subst e50
    refine zx_rsFL hK n (j + 1) M6 (by omega) (fun i hi => ?_) (zFg_trans f ?_)
    · by_cases c : i = j
      · subst c
        refine ⟨?_, ?_, ?_, ?_, ?_, ?_⟩
        · rw [e6, zuI, if_neg (by omega), e5, zuL1, e4, zuL1, e3, zuI, if_neg (by omega), e2, zuI, if_neg (by omega), e1, zuI, if_pos ⟨rfl, rfl, rfl⟩]
        · rw [e6, zuI, if_neg (by omega), e5, zuL1, e4, zuL1, e3, zuI, if_neg (by omega), e2, zuI, if_pos ⟨rfl, rfl, rfl⟩]
        · rw [e6, zuI, if_neg (by omega), e5, zuL1, e4, zuL1, e3, zuI, if_pos ⟨rfl, rfl, rfl⟩]
        · rw [e6, zuI2, e5, zuL, if_neg (by omega), e4, zuL, if_pos ⟨rfl, rfl, rfl⟩]
        · rw [e6, zuI2, e5, zuL, if_pos ⟨rfl, rfl, rfl⟩]
        · rw [e6, zuI, if_pos ⟨rfl, rfl, rfl⟩]
      · obtain ⟨q1, q2, q3, q4, q5, q6⟩ := h i (by omega)
        refine ⟨?_, ?_, ?_, ?_, ?_, ?_⟩
        · rw [e6, zuI, if_neg (by omega), e5, zuL1, e4, zuL1, e3, zuI, if_neg (by omega), e2, zuI, if_neg (by omega), e1, zuI, if_neg (by omega)]; exact q1
        · rw [e6, zuI, if_neg (by omega), e5, zuL1, e4, zuL1, e3, zuI, if_neg (by omega), e2, zuI, if_neg (by omega), e1, zuI, if_neg (by omega)]; exact q2
        · rw [e6, zuI, if_neg (by omega), e5, zuL1, e4, zuL1, e3, zuI, if_neg (by omega), e2, zuI, if_neg (by omega), e1, zuI, if_neg (by omega)]; exact q3
        · rw [e6, zuI2, e5, zuL, if_neg (by omega), e4, zuL, if_neg (by omega), e3, zuI2, e2, zuI2, e1, zuI2]; exact q4
        · rw [e6, zuI2, e5, zuL, if_neg (by omega), e4, zuL, if_neg (by omega), e3, zuI2, e2, zuI2, e1, zuI2]; exact q5
        · rw [e6, zuI, if_neg (by omega), e5, zuL1, e4, zuL1, e3, zuI, if_neg (by omega), e2, zuI, if_neg (by omega), e1, zuI, if_neg (by omega)]; exact q6
    · rw [e6, e5, e4, e3, e2, e1]
      exact zFg_trans (zFg_trans (zFg_trans (zFg_trans (zFg_trans (zFg_uI ⟨by omega, by omega, rfl⟩) (zFg_uI ⟨by omega, by omega, rfl⟩)) (zFg_uI ⟨by omega, by omega, rfl⟩)) (zFg_uL ⟨by omega, by omega, rfl⟩)) (zFg_uL ⟨by omega, by omega, rfl⟩)) (zFg_uI ⟨by omega, by omega, rfl⟩)
theorem zsum_le1 {f : Nat → Nat} (h : ∀ i, f i ≤ 1) : ∀ n : Nat, zsum f n ≤ n
  | 0 => Nat.le_refl _
  | n + 1 => by
    show zsum f n + f n ≤ n + 1
    have := zsum_le1 h n
    have := h n
    omega
theorem ycc_le {nd : List yNd} {i : Nat} : ycc nd i ≤ nd.length := zsum_le1 (fun y => by split <;> omega) _
/-- what the new world's cells hold -/
theorem yC_of {wt : Nat → Nat} {lk lf : Nat} {nd : List yNd} {cd : List Nat} {M M' : gM} (h12 : nd.length ≤ 12) (hcd : cd.length ≤ 120) (hN : yNC nd M) (hcode : ∀ i c, cd[i]? = some c → M.1 40 5 i = zcst c) (h1 : 1 ≤ nd.length)
    (pl : ∀ k j, 32 ≤ k → k ≤ 39 → j < 12 → M'.1 k 0 j = M.1 k 5 j) (p40 : ∀ j, j < 120 → M'.1 40 0 j = M.1 40 5 j) (p5 : M'.1 5 0 0 = M.1 5 5 0) (p4 : M'.1 4 0 0 = 0) (p7 : M'.1 7 0 1 = nI lk) (p70 : M'.2 7 0 0 = 0) (p2 : M'.1 2 0 0 = 0) (p12 : ∀ f, f < 16 → M'.1 12 0 f = nI (wt f)) (pF : ∀ f, f < 16 → yRF (nI lf) f M') (pN : ∀ x, x < 12 → yRN x M') : zC 0 nd.length 0 M' (ynew wt lk lf nd cd) := by
  have nc : ∀ j, j < nd.length → yNc j (ynd nd j) M := fun j hj => hN.2.1 j _ (ynd_get hj)
  refine ⟨fun i j ok => ?_, fun i j ok => ?_, ⟨?_, fun k hk => ?_⟩, fun x hx => ⟨?_, fun i e he => ?_⟩, ?_, fun i e he => ?_⟩
  · rcases ok with ⟨q1, q2⟩ | ⟨q1, q2, q3⟩ | ⟨q1, q2, q3, q4⟩ | ⟨q1, q2, q3⟩ | ⟨q1, q2, q3⟩ | ⟨q1, q2, q3⟩ | ⟨q1, q2⟩
    · subst q2
      rcases (show i = 0 ∨ i = 1 ∨ i = 2 by omega) with rfl | rfl | rfl
      · show M'.1 5 0 0 = nI nd.length
        rw [p5]; exact hN.1
      · show M'.1 4 0 0 = nI 0
        rw [p4]; rfl
      · exact p7
    · obtain ⟨f1, f2, f3, f4, f5, f6⟩ := pF j q3
      rcases (show i = 3 ∨ i = 4 ∨ i = 5 ∨ i = 6 ∨ i = 7 by omega) with rfl | rfl | rfl | rfl | rfl
      · exact p12 j q3
      · exact f1
      · show M'.1 14 0 j = nI 0
        rw [f2]; rfl
      · show M'.1 15 0 j = nI 0
        rw [f3]; rfl
      · show M'.1 18 0 j = nI 0
        rw [f6]; rfl
    · obtain ⟨n1, n2, n3, n4, n5, n6, n7⟩ := nc j q4
      rcases (show i = 8 ∨ i = 9 ∨ i = 11 ∨ i = 12 ∨ i = 13 ∨ i = 14 by omega) with rfl | rfl | rfl | rfl | rfl | rfl
      · show M'.1 34 0 j = _
        rw [pl 34 j (by omega) (by omega) (by omega)]; exact n2
      · show M'.1 35 0 j = _
        rw [pl 35 j (by omega) (by omega) (by omega)]; exact n3
      · show M'.1 37 0 j = _
        rw [pl 37 j (by omega) (by omega) (by omega)]; exact n5
      · show M'.1 38 0 j = _
        rw [pl 38 j (by omega) (by omega) (by omega)]; exact n6
      · show M'.1 39 0 j = _
        rw [pl 39 j (by omega) (by omega) (by omega)]; exact n7
      · show M'.1 3 (12 * 0 + j) 0 = nI 1
        rw [show 12 * 0 + j = j by omega, (pN j (by omega)).1]; rfl
    · subst q1
      obtain ⟨n1, n2, n3, n4, n5, n6, n7⟩ := nc j q2
      show M'.1 36 0 j = _
      rw [pl 36 j (by omega) (by omega) (by omega)]; exact n4 q3
    · exact absurd q3 (Nat.not_lt_zero _)
    · subst q1
      obtain ⟨n1, n2, n3, n4, n5, n6, n7⟩ := nc j q3
      show M'.1 32 0 j = _
      rw [pl 32 j (by omega) (by omega) (by omega), n1, if_neg (by omega)]; rfl
    · subst q1
      show M'.1 33 0 j = _
      rw [pl 33 j (by omega) (by omega) (by omega)]; exact hN.2.2 j q2
  · rcases ok with ⟨q1, q2⟩ | ⟨q1, q2, q3⟩ | ⟨q1, q2, q3⟩ | ⟨q1, q2⟩ | ⟨q1, q2, q3⟩
    · subst q1; subst q2
      exact p70
    · obtain ⟨f1, f2, f3, f4, f5, f6⟩ := pF j q3
      rcases (show i = 1 ∨ i = 2 by omega) with rfl | rfl
      · exact f4
      · exact f5
    · obtain ⟨r1, r2, r3, r4, r5⟩ := pN j (by omega)
      rcases (show i = 3 ∨ i = 4 by omega) with rfl | rfl
      · show M'.2 3 (12 * 0 + j) 2 = 0
        rw [show 12 * 0 + j = j by omega]; exact r3
      · show M'.2 3 (12 * 0 + j) 1 = 0
        rw [show 12 * 0 + j = j by omega]; exact r2
    · subst q1
      obtain ⟨r1, r2, r3, r4, r5⟩ := pN (j / 16) (by omega)
      show M'.2 22 (12 * 0 + j / 16) (j % 16) = 0
      rw [show 12 * 0 + j / 16 = j / 16 by omega]; exact r5 _ (by omega)
    · exact absurd q3 (Nat.not_lt_zero _)
  · rw [pl 32 0 (by omega) (by omega) (by omega), (nc 0 (by omega)).1, if_pos rfl]
  · have hk : k < cd.length := hk
    rw [p40 k (by omega), hcode k _ (List.getElem?_eq_getElem hk)]
    show zcst _ = zcst (cd.getD k 0)
    rw [List.getD_eq_getElem?_getD, List.getElem?_eq_getElem hk]; rfl
  · show M'.1 3 (12 * 0 + x) 4 = nI 0
    rw [show 12 * 0 + x = x by omega, (pN x (by omega)).2.2.2.1]; rfl
  · have he : ([] : List zE)[i]? = some e := he
    simp at he
  · show M'.1 2 0 0 = nI 0
    rw [p2]; rfl
  · have he : ([] : List zH)[i]? = some e := he
    simp at he
theorem zx_startWith {wt : Nat → Nat} {lk : Nat} {nd : List yNd} {cd : List Nat} {M : gM} {K : gM → Prop} (hlk : M.1 7 0 1 = nI lk) (hwt : ∀ f, f < 16 → M.1 12 0 f = nI (wt f)) (hN : yNC nd M) (hcode : ∀ i c, cd[i]? = some c → M.1 40 5 i = zcst c) (h1 : 1 ≤ nd.length ∧ nd.length ≤ 12) (hcd : cd.length ≤ 120) (hK : ∀ M', zCW M 0 nd.length 0 (ynew wt lk (yleaf nd) nd cd) M' → M'.1 5 0 0 = nI nd.length → K M') : wp_X7_startWith 0 5 M K := by
  unfold wp_X7_startWith
  refine zz_5 (w := 0) (w1 := 5) (by omega) zCP_refl (fun MA hA => ?_)
  intro M1 e1 M2 e2 M3 e3
  have fA : zF 0 M MA := fun k o q => ⟨funext fun c => zCP_s1 hA q, funext fun c => zCP_s2 hA q⟩
  have a5 : ∀ k o c, zP5 0 k o c → k ≠ 3 ∧ k < 22 ∨ 25 < k → MA.1 k o c = M.1 k 5 c := fun k o c q hk => by
    rw [hA.1 k o c (Or.inr q)]
    unfold zsrc
    rw [if_neg (by omega)]
  have fn : ∀ k o c, ¬ zP5 0 k o c → MA.1 k o c = M.1 k o c := fun k o c q => hA.2.1 k o c (fun z => z.elim id q)
  have fB : zFg (fun k o => (k = 7 ∨ k = 4 ∨ k = 2) ∧ o = 0) MA M3 := by
    rw [e3, e2, e1]
    exact zFg_trans (zFg_trans (zFg_uL ⟨Or.inl rfl, rfl⟩) (zFg_uI ⟨Or.inr (Or.inl rfl), rfl⟩)) (zFg_uI ⟨Or.inr (Or.inr rfl), rfl⟩)
  have b70 : M3.2 7 0 0 = 0 := by rw [e3, zuI2, e2, zuI2, e1, zuL, if_pos ⟨rfl, rfl, rfl⟩]
  have b7 : M3.1 7 0 1 = nI lk := by
    rw [e3, zuI, if_neg (by omega), e2, zuI, if_neg (by omega), e1, zuL1, fn 7 0 1 (by unfold zP5; omega)]; exact hlk
  have b4 : M3.1 4 0 0 = 0 := by rw [e3, zuI, if_neg (by omega), e2, zuI, if_pos ⟨rfl, rfl, rfl⟩]
  have b2 : M3.1 2 0 0 = 0 := by rw [e3, zuI, if_pos ⟨rfl, rfl, rfl⟩]
  refine ⟨13, zx_swL (M0 := M3) (K := K) (fun MC hC fC => ?_) 12 0 M3 (by omega) (fun x hx => by omega) zFg_refl⟩
  have c5 : MC.1 5 0 0 = nI nd.length := by
    rw [(fC 5 0 (by omega)).1, (fB 5 0 (by omega)).1, a5 5 0 0 ⟨rfl, Or.inl ⟨rfl, Or.inl rfl⟩⟩ (by omega)]; exact hN.1
  have c33 : ∀ i, i < nd.length → MC.1 33 0 i = nI (ycc nd i) := fun i hi => by
    rw [(fC 33 0 (by omega)).1, (fB 33 0 (by omega)).1, a5 33 0 i ⟨rfl, Or.inr (Or.inl ⟨by omega, by omega, by omega⟩)⟩ (by omega)]; exact hN.2.2 i hi
  unfold wp_X5_firstLeaf
  refine ⟨nd.length + 1, zx_flL (cc := ycc nd) c5 h1.2 c33 (fun i _ => by have := ycc_le (nd := nd) (i := i); omega) nd.length 0 (by omega) ?_⟩
  unfold wp_X1_restart
  refine ⟨17, zx_rsFL (M0 := MC) (fun MD hD fD => ?_) 16 0 MC (by omega) (fun x hx => by omega) zFg_refl⟩
  have g : ∀ k, k ≠ 3 → k ≠ 22 → k ≠ 7 → k ≠ 4 → k ≠ 2 → k < 13 ∨ 18 < k → MD.1 k 0 = MA.1 k 0 := fun k k1 k2 k3 k4 k5 k6 => by
    rw [(fD k 0 (by omega)).1, (fC k 0 (by omega)).1, (fB k 0 (by omega)).1]
  refine hK MD ⟨?_, yC_of (M := M) h1.2 hcd hN hcode h1.1 (fun k j k1 k2 hj => ?_) (fun j hj => ?_) ?_ ?_ ?_ ?_ ?_ (fun f hf => ?_) hD (fun x hx => ?_)⟩ ?_
  · refine zF_trans fA (zF_trans (zFg_F fB (fun k o q => ?_)) (zF_trans (zFg_F fC (fun k o q => ?_)) (zFg_F fD (fun k o q => ?_))))
    · unfold zin; omega
    · unfold zin; omega
    · unfold zin; omega
  · rw [g k (by omega) (by omega) (by omega) (by omega) (by omega) (by omega)]
    exact a5 k 0 j ⟨rfl, Or.inr (Or.inl ⟨k1, k2, hj⟩)⟩ (by omega)
  · rw [g 40 (by omega) (by omega) (by omega) (by omega) (by omega) (by omega)]
    exact a5 40 0 j ⟨rfl, Or.inr (Or.inr ⟨rfl, hj⟩)⟩ (by omega)
  · rw [g 5 (by omega) (by omega) (by omega) (by omega) (by omega) (by omega)]
    exact a5 5 0 0 ⟨rfl, Or.inl ⟨rfl, Or.inl rfl⟩⟩ (by omega)
  · rw [(fD 4 0 (by omega)).1, (fC 4 0 (by omega)).1]; exact b4
  · rw [(fD 7 0 (by omega)).1, (fC 7 0 (by omega)).1]; exact b7
  · rw [(fD 7 0 (by omega)).2, (fC 7 0 (by omega)).2]; exact b70
  · rw [(fD 2 0 (by omega)).1, (fC 2 0 (by omega)).1]; exact b2
  · rw [g 12 (by omega) (by omega) (by omega) (by omega) (by omega) (by omega), fn 12 0 f (by unfold zP5; omega)]; exact hwt f hf
  · exact yRN_cong (hC x hx) (fD 3 x (by omega)) (fD 22 x (by omega)).2
  · rw [g 5 (by omega) (by omega) (by omega) (by omega) (by omega) (by omega), a5 5 0 0 ⟨rfl, Or.inl ⟨rfl, Or.inl rfl⟩⟩ (by omega)]; exact hN.1
