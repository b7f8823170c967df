/-! the reference: a world begins anew -/
def yrow (wt : Nat → Nat) (lk lf : Nat) (nd : List yNd) (cd : List Nat) (v : Nat → Int64) : Prop := (v 0 = 0 ∧ v 3 = 0 ∧ v 4 = 0 ∧ v 5 = 0 ∧ v 7 = 0) ∧ (v 1 = lN lk ∧ v 2 = lN nd.length) ∧ (∀ f, f < 16 → v (10 + 7 * f) = lN (wt f) ∧ v (10 + 7 * f + 1) = lN lf ∧ ∀ j, 2 ≤ j → j < 7 → v (10 + 7 * f + j) = 0) ∧ (∀ i n, nd[i]? = some n → v (130 + 12 * i) = (if i = 0 then -1 else lN n.1) ∧ v (130 + 12 * i + 1) = lN n.2.1 ∧ v (130 + 12 * i + 2) = lN n.2.2.1 ∧ v (130 + 12 * i + 3) = lN n.2.2.2.1 ∧ v (130 + 12 * i + 4) = 0 ∧ v (130 + 12 * i + 5) = 1 ∧ v (130 + 12 * i + 6) = 0 ∧ v (130 + 12 * i + 7) = lN n.2.2.2.2.1 ∧ v (130 + 12 * i + 8) = lN (n.2.2.2.2.2.1 - n.2.2.2.2.1) ∧ v (130 + 12 * i + 9) = lN n.2.2.2.2.2.1 ∧ v (130 + 12 * i + 10) = lN (n.2.2.2.2.2.2 - n.2.2.2.2.2.1) ∧ v (130 + 12 * i + 11) = 0) ∧ (∀ j, j < 192 → v (280 + j) = 0) ∧ ∀ k c, cd[k]? = some c → v (480 + k) = zmst c
theorem yrow_M {wt : Nat → Nat} {lk lf : Nat} {nd : List yNd} {cd : List Nat} {v : Nat → Int64} (h12 : nd.length ≤ 12) (h1 : 1 ≤ nd.length) (hcd : cd.length ≤ 120) (h : yrow wt lk lf nd cd v) : zM nd.length 0 v (ynew wt lk lf nd cd) := by
  obtain ⟨⟨z0, z3, z4, z5, z7⟩, ⟨l1, l2⟩, hF, hN, hS, hC⟩ := h
  have nc := fun j (hj : j < nd.length) => hN j _ (ynd_get hj)
  have e0 : (0 : Int64) = lN 0 := rfl
  refine ⟨fun i j ok => ?_, fun i j ok => ?_, ⟨⟨?_, hcd⟩, fun x hx => ?_, fun k hk => ?_⟩, fun x hx => ⟨?_, fun i e he => ?_⟩, ?_, fun i e he => ?_⟩
  · rcases ok with ⟨q1, q2⟩ | ⟨q1, q2, q3⟩ | ⟨q1, q2, q3⟩ | ⟨q1, q2⟩ | ⟨q1, q2, q3⟩ | ⟨q1, q2, q3⟩ | ⟨q1, q2, q3⟩ | ⟨q1, q2⟩
    · subst q2
      rcases (show i = 0 ∨ i = 1 ∨ i = 2 by omega) with rfl | rfl | rfl
      · exact l2
      · show v 3 = lN 0
        rw [z3]; rfl
      · exact l1
    · obtain ⟨f1, f2, f3⟩ := hF j q3
      rcases (show i = 3 ∨ i = 4 ∨ i = 5 ∨ i = 6 ∨ i = 7 by omega) with rfl | rfl | rfl | rfl | rfl
      · exact f1
      · exact f2
      · show v (10 + 7 * j + 2) = lN 0
        rw [f3 2 (by omega) (by omega)]; rfl
      · show v (10 + 7 * j + 3) = lN 0
        rw [f3 3 (by omega) (by omega)]; rfl
      · show v (10 + 7 * j + 6) = lN 0
        rw [f3 6 (by omega) (by omega)]; rfl
    · obtain ⟨n0, n1, n2, n3, n4, n5, n6, n7, n8, n9, n10, n11⟩ := nc j q3
      rcases (show i = 8 ∨ i = 9 ∨ i = 10 ∨ i = 11 ∨ i = 12 by omega) with rfl | rfl | rfl | rfl | rfl
      · exact n1
      · exact n2
      · exact n3
      · exact n7
      · exact n9
    · subst q1
      exact (nc j q2).2.2.2.2.2.1
    · exact absurd q3 (Nat.not_lt_zero _)
    · subst q1
      have := (nc j q3).1
      rw [if_neg (by omega)] at this
      exact this
    · subst q3
      rcases (show i = 20 ∨ i = 21 by omega) with rfl | rfl
      · show v 5 = lN 0
        rw [z5]; rfl
      · show v 7 = lN 0
        rw [z7]; rfl
    · exact absurd q2 (Nat.not_lt_zero _)
  · rcases ok with ⟨q1, q2⟩ | ⟨q1, q2, q3⟩ | ⟨q1, q2, q3⟩ | ⟨q1, q2⟩ | ⟨q1, q2, q3⟩
    · subst q1; subst q2
      exact z0
    · obtain ⟨f1, f2, f3⟩ := hF j q3
      rcases (show i = 1 ∨ i = 2 by omega) with rfl | rfl
      · exact f3 4 (by omega) (by omega)
      · exact f3 5 (by omega) (by omega)
    · obtain ⟨n0, n1, n2, n3, n4, n5, n6, n7, n8, n9, n10, n11⟩ := nc j q3
      rcases (show i = 3 ∨ i = 4 by omega) with rfl | rfl
      · exact n4
      · exact n6
    · subst q1
      exact hS j (by omega)
    · exact absurd q3 (Nat.not_lt_zero _)
  · have := (nc 0 (by omega)).1
    rw [if_pos rfl] at this
    exact this
  · obtain ⟨n0, n1, n2, n3, n4, n5, n6, n7, n8, n9, n10, n11⟩ := nc x hx
    exact ⟨n8, n10⟩
  · have hk : k < cd.length := hk
    rw [hC k _ (List.getElem?_eq_getElem hk)]
    show zmst _ = zmst (cd.getD k 0)
    rw [List.getD_eq_getElem?_getD, List.getElem?_eq_getElem hk]; rfl
  · have := (nc x hx).2.2.2.2.2.2.2.2.2.2.2
    show v (130 + 12 * x + 11) = lN 0
    rw [this]; rfl
  · have he : ([] : List zE)[i]? = some e := he
    simp at he
  · show v 4 = lN 0
    rw [z4]; rfl
  · have he : ([] : List zH)[i]? = some e := he
    simp at he
/-- only the rows 47 and 48 change -/
def zFr (M0 M : gM) : Prop := M.1 = M0.1 ∧ ∀ k o, ¬ (k = 47 ∧ o = 0) → ¬ (k = 48 ∧ o = 0) → M.2 k o = M0.2 k o
theorem zFr_refl {M : gM} : zFr M M := ⟨rfl, fun _ _ _ _ => rfl⟩
theorem zFr_trans {M0 M1 M2 : gM} (h : zFr M0 M1) (h2 : zFr M1 M2) : zFr M0 M2 := ⟨h2.1.trans h.1, fun k o a b => (h2.2 k o a b).trans (h.2 k o a b)⟩
theorem zFr_7 {M : gM} {i : Nat} {v : Int64} : zFr M (g_uL M 47 0 i v) := ⟨rfl, fun k o a b => by
  show (if k = 47 ∧ o = 0 then _ else M.2 k o) = _
  rw [if_neg a]⟩
theorem zFr_8 {M : gM} {i : Nat} {v : Int64} : zFr M (g_uL M 48 0 i v) := ⟨rfl, fun k o a b => by
  show (if k = 48 ∧ o = 0 then _ else M.2 k o) = _
  rw [if_neg b]⟩
theorem z47 {M : gM} {i j : Nat} {v : Int64} : (g_uL M 47 0 i v).2 47 0 j = if j = i then v else M.2 47 0 j := by
  rw [zuL]
  by_cases c : j = i
  · rw [if_pos ⟨rfl, rfl, c⟩, if_pos c]
  · rw [if_neg (fun z => c z.2.2), if_neg c]
theorem z48 {M : gM} {i j : Nat} {v : Int64} : (g_uL M 48 0 i v).2 48 0 j = if j = i then v else M.2 48 0 j := by
  rw [zuL]
  by_cases c : j = i
  · rw [if_pos ⟨rfl, rfl, c⟩, if_pos c]
  · rw [if_neg (fun z => c z.2.2), if_neg c]
theorem z478 {M : gM} {i j : Nat} {v : Int64} : (g_uL M 48 0 i v).2 47 0 j = M.2 47 0 j ∧ (g_uL M 47 0 i v).2 48 0 j = M.2 48 0 j := ⟨by rw [zuL, if_neg (by omega)], by rw [zuL, if_neg (by omega)]⟩
theorem zy_ldA {y1 : Int64} {M0 : gM} {K : gM → Prop} (hK : ∀ M', zFr M0 M' → (∀ f, f < 16 → M'.2 48 0 f = M0.2 47 0 (10 + 7 * f)) → ∃ f40 : Nat, wp_X9_loads_L40 K f40 0 y1 0 M') : ∀ (n j : Nat) (M : gM), j + n = 16 → zFr M0 M → M.2 47 0 = M0.2 47 0 → (∀ f, f < j → M.2 48 0 f = M0.2 47 0 (10 + 7 * f)) → wp_X9_loads_L9 K (n + 1) 0 y1 (nI j) M
  | 0, j, M, e, f, h7, h8 => by
    unfold wp_X9_loads_L9
    rw [if_pos (zk_le2 (c := 16) (a := 16) rfl (by omega) (by omega))]
    have : j = 16 := by omega
    subst this
    exact hK M f h8
  | n + 1, j, M, e, f, h7, h8 => by
    unfold wp_X9_loads_L9
    rw [if_neg (zk_nle (c := 16) (a := 16) rfl (by omega) (by omega)), zm_fl, zad]
    refine ⟨vp_in_nI (by omega) (by omega), vp_in_nI (by omega) (by omega), ?_⟩
    intro M1 e1 n32 e32
    rw [zn_p1] at e32
    subst e32
    rw [nI_clamp (by omega), nI_clamp (by omega), h7, Nat.add_zero] at e1
    refine zy_ldA hK n (j + 1) M1 (by omega) (zFr_trans f (by rw [e1]; exact zFr_8)) ?_ (fun i hi => ?_)
    · funext i
      rw [e1, z478.1, h7]
    · rw [e1, z48]
      by_cases c : i = j
      · rw [if_pos c, c]
      · rw [if_neg c]; exact h8 i (by omega)
def yldB (K : gM → Prop) (y1 : Int64) (M : gM) : Prop := vp_in 1 7600 ∧ ∀ M66 : gM, M66 = g_uL M 47 0 (1 : Int32).toNatClampNeg y1 → vp_in 2 7600 ∧ ∀ M77 : gM, M77 = g_uL M66 47 0 (2 : Int32).toNatClampNeg ((M66.1 9 0 13).toInt64) → ∃ f80 : Nat, wp_X9_loads_L80 K f80 0 0 M77
theorem zy_ldB {y1 : Int64} {M0 : gM} {K : gM → Prop} (hK : ∀ M', zFr M0 M' → (∀ k, k < 7600 → M'.2 47 0 k = 0) → M'.2 48 0 = M0.2 48 0 → yldB K y1 M') : ∀ (n j : Nat) (M : gM), j + n = 7600 → zFr M0 M → (∀ k, k < j → M.2 47 0 k = 0) → M.2 48 0 = M0.2 48 0 → wp_X9_loads_L40 K (n + 1) 0 y1 (nI j) M
  | 0, j, M, e, f, h7, h8 => by
    unfold wp_X9_loads_L40
    rw [if_pos (zk_le2 (c := 7600) (a := 7600) rfl (by omega) (by omega))]
    have : j = 7600 := by omega
    subst this
    exact hK M f h7 h8
  | n + 1, j, M, e, f, h7, h8 => by
    unfold wp_X9_loads_L40
    rw [if_neg (zk_nle (c := 7600) (a := 7600) rfl (by omega) (by omega))]
    refine ⟨vp_in_nI (by omega) (by omega), ?_⟩
    intro M1 e1 n54 e54
    rw [zn_p1] at e54
    subst e54
    rw [nI_clamp (by omega)] at e1
    refine zy_ldB hK n (j + 1) M1 (by omega) (zFr_trans f (by rw [e1]; exact zFr_7)) (fun k hk => ?_) ?_
    · rw [e1, z47]
      by_cases c : k = j
      · rw [if_pos c]
      · rw [if_neg c]; exact h7 k (by omega)
    · funext i
      rw [e1, z478.2, h8]
/-- the fields of a node -/
def yfd (p : Nat → Int32) (x j : Nat) : Int64 := if j = 4 then 0 else if j = 6 then 0 else if j = 11 then 0 else if j = 5 then 1 else (p (12 * x + j)).toInt64
theorem zy_ldC {x : Nat} {R : Nat → Int32 → gM → Prop} {M0 : gM} {K : gM → Prop} (hx : x < 12) (hK : ∀ M', zFr M0 M' → (∀ j, j < 12 → M'.2 47 0 (130 + 12 * x + j) = yfd (M0.1 54 0) x j) → (∀ i, ¬ (130 + 12 * x ≤ i ∧ i < 130 + 12 * x + 12) → M'.2 47 0 i = M0.2 47 0 i) → M'.2 48 0 = M0.2 48 0 → R 0 (nI (x + 1)) M') : ∀ (n j : Nat) (M : gM), j + n = 12 → zFr M0 M → (∀ i, i < j → M.2 47 0 (130 + 12 * x + i) = yfd (M0.1 54 0) x i) → (∀ i, ¬ (130 + 12 * x ≤ i ∧ i < 130 + 12 * x + 12) → M.2 47 0 i = M0.2 47 0 i) → M.2 48 0 = M0.2 48 0 → wp_X9_loads_L91 R K (n + 1) 0 (nI x) (nI j) M
  | 0, j, M, e, f, h7, hf, h8 => by
    unfold wp_X9_loads_L91
    rw [if_pos (zk_le2 (c := 12) (a := 12) rfl (by omega) (by omega))]
    have : j = 12 := by omega
    subst this
    intro n163 e163
    rw [zn_p1] at e163
    subst e163
    exact hK M f h7 hf h8
  | n + 1, j, M, e, f, h7, hf, h8 => by
    unfold wp_X9_loads_L91
    rw [if_neg (zk_nle (c := 12) (a := 12) rfl (by omega) (by omega)), zm_nd]
    have st : ∀ y : Int64, y = yfd (M0.1 54 0) x j → wp_X9_loads_b156 (fun o0 x3 x4 M => wp_X9_loads_L91 R K (n + 1) o0 x3 x4 M) K 0 (nI x) (nI j) 0 (nI (130 + 12 * x) + nI j) y M := fun y ey => by
      unfold wp_X9_loads_b156
      rw [nI_add]
      refine ⟨vp_in_nI (by omega) (by omega), ?_⟩
      intro M1 e1 n157 e157
      rw [zn_p1] at e157
      subst e157
      rw [nI_clamp (by omega), ey] at e1
      refine zy_ldC hx hK n (j + 1) M1 (by omega) (zFr_trans f (by rw [e1]; exact zFr_7)) (fun i hi => ?_) (fun i hi => ?_) ?_
      · rw [e1, z47]
        by_cases c : i = j
        · rw [if_pos (by omega), c]
        · rw [if_neg (by omega)]; exact h7 i (by omega)
      · rw [e1, z47, if_neg (by omega)]; exact hf i hi
      · funext i
        rw [e1, z478.2, h8]
    have eq : ∀ {c : Int32} {k : Nat}, c = nI k → k < 2 ^ 31 → (nI j = c ↔ j = k) := fun {c k} ec hk => by
      rw [ec]; exact nI_eq (by omega) hk
    have e4 := eq (c := 4) (k := 4) rfl (by omega)
    have e6 := eq (c := 6) (k := 6) rfl (by omega)
    have e11 := eq (c := 11) (k := 11) rfl (by omega)
    have e5 := eq (c := 5) (k := 5) rfl (by omega)
    by_cases c4 : j = 4
    · rw [if_pos (e4.mpr c4)]
      exact st 0 (by unfold yfd; rw [if_pos c4])
    rw [if_neg (fun q => c4 (e4.mp q))]
    by_cases c6 : j = 6
    · rw [if_pos (e6.mpr c6)]
      exact st 0 (by unfold yfd; rw [if_neg c4, if_pos c6])
    rw [if_neg (fun q => c6 (e6.mp q))]
    by_cases c11 : j = 11
    · rw [if_pos (e11.mpr c11)]
      exact st 0 (by unfold yfd; rw [if_neg c4, if_neg c6, if_pos c11])
    rw [if_neg (fun q => c11 (e11.mp q))]
    by_cases c5 : j = 5
    · rw [if_pos (e5.mpr c5)]
      exact st 1 (by unfold yfd; rw [if_neg c4, if_neg c6, if_neg c11, if_pos c5])
    rw [if_neg (fun q => c5 (e5.mp q)), zix54 x j]
    refine ⟨vp_in_nI (by omega) (by omega), st _ ?_⟩
    unfold yfd
    rw [if_neg c4, if_neg c6, if_neg c11, if_neg c5, nI_clamp (by omega), f.1]
theorem zy_ldD {nn : Nat} {M0 : gM} {K : gM → Prop} (h13 : M0.1 9 0 13 = nI nn) (hn : nn ≤ 12) (hK : ∀ M', zFr M0 M' → (∀ x j, x < nn → j < 12 → M'.2 47 0 (130 + 12 * x + j) = yfd (M0.1 54 0) x j) → (∀ i, ¬ (130 ≤ i ∧ i < 130 + 12 * nn) → M'.2 47 0 i = M0.2 47 0 i) → M'.2 48 0 = M0.2 48 0 → ∃ f171 : Nat, wp_X9_loads_L171 K f171 0 0 M') : ∀ (n x : Nat) (M : gM), x + n = nn → zFr M0 M → (∀ y j, y < x → j < 12 → M.2 47 0 (130 + 12 * y + j) = yfd (M0.1 54 0) y j) → (∀ i, ¬ (130 ≤ i ∧ i < 130 + 12 * x) → M.2 47 0 i = M0.2 47 0 i) → M.2 48 0 = M0.2 48 0 → wp_X9_loads_L80 K (n + 1) 0 (nI x) M
  | 0, x, M, e, f, h7, hf, h8 => by
    unfold wp_X9_loads_L80
    rw [f.1, h13, if_pos (nI_le (by omega) (by omega))]
    have : x = nn := by omega
    subst this
    exact hK M f h7 hf h8
  | n + 1, x, M, e, f, h7, hf, h8 => by
    unfold wp_X9_loads_L80
    rw [f.1, h13, if_neg (nI_ge (by omega) (by omega))]
    refine ⟨13, zy_ldC (M0 := M) (by omega) (fun M1 f1 a7 af a8 => ?_) 12 0 M (by omega) zFr_refl (fun i hi => by omega) (fun _ _ => rfl) rfl⟩
    refine zy_ldD h13 hn hK n (x + 1) M1 (by omega) (zFr_trans f f1) (fun y j hy hj => ?_) (fun i hi => ?_) (a8.trans h8)
    · by_cases c : y = x
      · rw [c, a7 j hj, f.1]
      · rw [af _ (by omega)]; exact h7 y j (by omega) hj
    · rw [af _ (by omega)]; exact hf i (by omega)
theorem zy_ldE {cl : Nat} {M0 : gM} {K : gM → Prop} (h15 : M0.1 9 0 15 = nI cl) (hc : cl ≤ 120) (hK : ∀ M', zFr M0 M' → (∀ k, k < cl → M'.2 47 0 (480 + k) = M0.2 55 0 k) → (∀ i, ¬ (480 ≤ i ∧ i < 480 + cl) → M'.2 47 0 i = M0.2 47 0 i) → M'.2 48 0 = M0.2 48 0 → ∃ f203 : Nat, wp_X9_loads_L203 K f203 0 0 M') : ∀ (n j : Nat) (M : gM), j + n = cl → zFr M0 M → (∀ k, k < j → M.2 47 0 (480 + k) = M0.2 55 0 k) → (∀ i, ¬ (480 ≤ i ∧ i < 480 + j) → M.2 47 0 i = M0.2 47 0 i) → M.2 48 0 = M0.2 48 0 → wp_X9_loads_L171 K (n + 1) 0 (nI j) M
  | 0, j, M, e, f, h7, hf, h8 => by
    unfold wp_X9_loads_L171
    rw [f.1, h15, if_pos (nI_le (by omega) (by omega))]
    have : j = cl := by omega
    subst this
    exact hK M f h7 hf h8
  | n + 1, j, M, e, f, h7, hf, h8 => by
    unfold wp_X9_loads_L171
    rw [f.1, h15, if_neg (nI_ge (by omega) (by omega)), zad2]
    refine ⟨vp_in_nI (by omega) (by omega), vp_in_nI (by omega) (by omega), ?_⟩
    intro M1 e1 n195 e195
    rw [zn_p1] at e195
    subst e195
    rw [nI_clamp (by omega), nI_clamp (by omega), f.2 55 0 (by omega) (by omega)] at e1
    refine zy_ldE h15 hc hK n (j + 1) M1 (by omega) (zFr_trans f (by rw [e1]; exact zFr_7)) (fun k hk => ?_) (fun i hi => ?_) ?_
    · rw [e1, z47]
      by_cases c : k = j
      · rw [if_pos (by omega), c]
      · rw [if_neg (by omega)]; exact h7 k (by omega)
    · rw [e1, z47, if_neg (by omega)]; exact hf i (by omega)
    · funext i
      rw [e1, z478.2, h8]
theorem zy_ldF {nn : Nat} {S : zW} {M : gM} {K : gM → Prop} (h : zM nn 0 (M.2 47 0) S) (hp : zplan S) (hn : zN S 0 0 = nn) : ∀ (f x m : Nat), x + f = nn → x ≤ m → m < nn → zN S 19 m = 0 → (∃ f220 : Nat, wp_X9_loads_L220 K f220 0 (nI (yfl (zN S 19) f x)) 0 M) → wp_X9_loads_L203 K (f + 1) 0 (nI x) M
  | 0, x, m, e, h1, h2, h3, hK => by omega
  | f + 1, x, m, e, h1, h2, h3, hK => by
    unfold wp_X9_loads_L203
    refine zm_isLeaf h hp hn (by omega) ?_
    unfold yfl at hK
    by_cases c : zN S 19 x = 0
    · rw [if_pos c] at hK
      rw [if_pos c, if_neg (by decide)]
      exact hK
    · rw [if_neg c] at hK
      rw [if_neg c, if_pos rfl]
      intro n211 e211
      rw [zn_p1] at e211
      subst e211
      have : x ≠ m := fun q => c (by rw [q]; exact h3)
      exact zy_ldF h hp hn f (x + 1) m (by omega) (by omega) h2 h3 hK
theorem zy_ldG {lf : Nat} {M0 : gM} {K : gM → Prop} (hl : lf < 2 ^ 31) (hK : ∀ M', zFr M0 M' → (∀ f, f < 16 → M'.2 47 0 (10 + 7 * f) = M0.2 48 0 f ∧ M'.2 47 0 (10 + 7 * f + 1) = lN lf) → (∀ i, ¬ (10 ≤ i ∧ i < 122 ∧ (i - 10) % 7 ≤ 1) → M'.2 47 0 i = M0.2 47 0 i) → K M') : ∀ (n j : Nat) (M : gM), j + n = 16 → zFr M0 M → (∀ f, f < j → M.2 47 0 (10 + 7 * f) = M0.2 48 0 f ∧ M.2 47 0 (10 + 7 * f + 1) = lN lf) → (∀ i, ¬ (10 ≤ i ∧ i < 122 ∧ (i - 10) % 7 ≤ 1) → M.2 47 0 i = M0.2 47 0 i) → M.2 48 0 = M0.2 48 0 → wp_X9_loads_L220 K (n + 1) 0 (nI lf) (nI j) M
  | 0, j, M, e, f, h7, hf, h8 => by
    unfold wp_X9_loads_L220
    rw [if_pos (zk_le2 (c := 16) (a := 16) rfl (by omega) (by omega))]
    have : j = 16 := by omega
    subst this
    exact hK M f h7 hf
  | n + 1, j, M, e, f, h7, hf, h8 => by
    unfold wp_X9_loads_L220
    rw [if_neg (zk_nle (c := 16) (a := 16) rfl (by omega) (by omega)), zm_fl, zad]
    refine ⟨vp_in_nI (by omega) (by omega), vp_in_nI (by omega) (by omega), ?_⟩
    intro M1 e1
    rw [nI_clamp (by omega), nI_clamp (by omega), h8, Nat.add_zero] at e1
    rw [zm_fl, zad]
    refine ⟨vp_in_nI (by omega) (by omega), ?_⟩
    intro M2 e2 n260 e260
    rw [zn_p1] at e260
    subst e260
    rw [nI_clamp (by omega), nI_l hl] at e2
    refine zy_ldG hl hK n (j + 1) M2 (by omega) (zFr_trans f (zFr_trans (M1 := M1) (by rw [e1]; exact zFr_7) (by rw [e2]; exact zFr_7))) (fun i hi => ?_) (fun i hi => ?_) ?_
    · rw [e2, z47, z47, e1, z47, z47]
      by_cases c : i = j
      · subst c
        rw [if_neg (by omega), if_pos rfl, if_pos rfl]
        exact ⟨rfl, rfl⟩
      · rw [if_neg (by omega), if_neg (by omega), if_neg (by omega), if_neg (by omega)]
        exact h7 i (by omega)
    · rw [e2, z47, if_neg (by omega), e1, z47, if_neg (by omega)]; exact hf i hi
    · funext i
      rw [e2, z478.2, e1, z478.2, h8]
theorem zy_loads {wt : Nat → Nat} {lk : Nat} {nd : List yNd} {cd : List Nat} {M : gM} {K : gM → Prop} (hlk : M.2 47 0 1 = lN lk) (hwt : ∀ f, f < 16 → M.2 47 0 (10 + 7 * f) = lN (wt f)) (hN : yNM nd M) (h15 : M.1 9 0 15 = nI cd.length) (hcode : ∀ i c, cd[i]? = some c → M.2 55 0 i = zmst c) (hok : yok nd cd) (h1 : 1 ≤ nd.length ∧ nd.length ≤ 12) (hcd : cd.length ≤ 120) (hK : ∀ M', zFr M M' → zM nd.length 0 (M'.2 47 0) (ynew wt lk (yleaf nd) nd cd) → K M') : wp_X9_loads 0 M K := by
  have c1 : (1 : Int32).toNatClampNeg = 1 := by decide
  have c2 : (2 : Int32).toNatClampNeg = 2 := by decide
  unfold wp_X9_loads
  refine ⟨zvi (by omega) (by omega), ?_⟩
  intro n6 e6
  rw [c1, hlk] at e6
  subst e6
  refine ⟨17, zy_ldA (M0 := M) (fun MA fA a8 => ?_) 16 0 M (by omega) zFr_refl rfl (fun f hf => by omega)⟩
  refine ⟨7601, zy_ldB (M0 := MA) (fun MB fB b7 b8 => ?_) 7600 0 MA (by omega) zFr_refl (fun k hk => by omega) rfl⟩
  have fMB := zFr_trans fA fB
  refine ⟨zvi (by omega) (by omega), ?_⟩
  intro M1 e1
  refine ⟨zvi (by omega) (by omega), ?_⟩
  intro M2 e2
  have f1 : zFr M M1 := zFr_trans fMB (by rw [e1]; exact zFr_7)
  rw [c1] at e1
  rw [c2, f1.1, hN.1, nI_l (by omega)] at e2
  have f2 : zFr M M2 := zFr_trans f1 (by rw [e2]; exact zFr_7)
  have v2 : ∀ i, i < 7600 → M2.2 47 0 i = if i = 2 then lN nd.length else if i = 1 then lN lk else 0 := fun i hi => by
    rw [e2, z47, e1, z47, b7 i hi]
  have w2 : M2.2 48 0 = MA.2 48 0 := by
    funext i
    rw [e2, z478.2, e1, z478.2, b8]
  have m13 : M2.1 9 0 13 = nI nd.length := by rw [f2.1]; exact hN.1
  have m15 : M2.1 9 0 15 = nI cd.length := by rw [f2.1]; exact h15
  refine ⟨nd.length + 1, zy_ldD (M0 := M2) m13 h1.2 (fun M3 f3 a7 af a8' => ?_) nd.length 0 M2 (by omega) zFr_refl (fun y j hy => by omega) (fun _ _ => rfl) rfl⟩
  have m15' : M3.1 9 0 15 = nI cd.length := by rw [f3.1]; exact m15
  refine ⟨cd.length + 1, zy_ldE (M0 := M3) m15' hcd (fun M4 f4 g7 gf g8 => ?_) cd.length 0 M3 (by omega) zFr_refl (fun k hk => by omega) (fun _ _ => rfl) rfl⟩
  have f4' : zFr M M4 := zFr_trans f2 (zFr_trans f3 f4)
  have row : ∀ i, i < 7600 → ¬ (130 ≤ i ∧ i < 130 + 12 * nd.length) → ¬ (480 ≤ i ∧ i < 480 + cd.length) → M4.2 47 0 i = if i = 2 then lN nd.length else if i = 1 then lN lk else 0 := fun i hi q1 q2 => by
    rw [gf i q2, af i q1]; exact v2 i hi
  have zer : ∀ i, i < 7600 → i ≠ 1 → i ≠ 2 → ¬ (130 ≤ i ∧ i < 130 + 12 * nd.length) → ¬ (480 ≤ i ∧ i < 480 + cd.length) → M4.2 47 0 i = 0 := fun i hi q3 q4 q1 q2 => by
    rw [row i hi q1 q2, if_neg q4, if_neg q3]
  have nf : ∀ i n, nd[i]? = some n → M4.2 47 0 (130 + 12 * i) = (if i = 0 then -1 else lN n.1) ∧ M4.2 47 0 (130 + 12 * i + 1) = lN n.2.1 ∧ M4.2 47 0 (130 + 12 * i + 2) = lN n.2.2.1 ∧ M4.2 47 0 (130 + 12 * i + 3) = lN n.2.2.2.1 ∧ M4.2 47 0 (130 + 12 * i + 4) = 0 ∧ M4.2 47 0 (130 + 12 * i + 5) = 1 ∧ M4.2 47 0 (130 + 12 * i + 6) = 0 ∧ M4.2 47 0 (130 + 12 * i + 7) = lN n.2.2.2.2.1 ∧ M4.2 47 0 (130 + 12 * i + 8) = lN (n.2.2.2.2.2.1 - n.2.2.2.2.1) ∧ M4.2 47 0 (130 + 12 * i + 9) = lN n.2.2.2.2.2.1 ∧ M4.2 47 0 (130 + 12 * i + 10) = lN (n.2.2.2.2.2.2 - n.2.2.2.2.2.1) ∧ M4.2 47 0 (130 + 12 * i + 11) = 0 := fun i n hn => by
    have hi := (List.getElem?_eq_some_iff.mp hn).1
    obtain ⟨k1, k2, k3, k4, k5, p1, p2, p3, p4, p5⟩ := hok i n hn
    obtain ⟨n0, n1, n2, n3, n7, n8, n9, n10⟩ := hN.2 i n hn
    have get : ∀ j, j < 12 → M4.2 47 0 (130 + 12 * i + j) = yfd (M.1 54 0) i j := fun j hj => by
      rw [gf _ (by omega), a7 i j hi hj, f2.1]
    refine ⟨?_, ?_, ?_, ?_, ?_, ?_, ?_, ?_, ?_, ?_, ?_, ?_⟩
    · have e : M4.2 47 0 (130 + 12 * i) = (M.1 54 0 (12 * i)).toInt64 := get 0 (by omega)
      rw [e, n0]
      by_cases c : i = 0
      · rw [if_pos c, if_pos c]; rfl
      · rw [if_neg c, if_neg c]
        have := k1 (by omega)
        exact nI_l (by omega)
    · have e : M4.2 47 0 (130 + 12 * i + 1) = (M.1 54 0 (12 * i + 1)).toInt64 := get 1 (by omega)
      rw [e, n1]; exact nI_l (by omega)
    · have e : M4.2 47 0 (130 + 12 * i + 2) = (M.1 54 0 (12 * i + 2)).toInt64 := get 2 (by omega)
      rw [e, n2]; exact nI_l (by omega)
    · have e : M4.2 47 0 (130 + 12 * i + 3) = (M.1 54 0 (12 * i + 3)).toInt64 := get 3 (by omega)
      rw [e, n3]; exact nI_l (by omega)
    · exact get 4 (by omega)
    · exact get 5 (by omega)
    · exact get 6 (by omega)
    · have e : M4.2 47 0 (130 + 12 * i + 7) = (M.1 54 0 (12 * i + 7)).toInt64 := get 7 (by omega)
      rw [e, n7]
      have hs : n.2.2.2.2.1 ≤ 2000 := by
        by_cases c : n.2.2.2.2.1 < n.2.2.2.2.2.1
        · omega
        · have z : (cd.take n.2.2.2.2.2.1).drop n.2.2.2.2.1 = [] := List.eq_nil_of_length_eq_zero (by rw [List.length_drop, List.length_take]; omega)
          rw [z] at p3
          have p3 : (0 : Nat) = 1 := p3
          omega
      exact nI_l (by omega)
    · have e : M4.2 47 0 (130 + 12 * i + 8) = (M.1 54 0 (12 * i + 8)).toInt64 := get 8 (by omega)
      rw [e, n8]; exact nI_l (by omega)
    · have e : M4.2 47 0 (130 + 12 * i + 9) = (M.1 54 0 (12 * i + 9)).toInt64 := get 9 (by omega)
      rw [e, n9]; exact nI_l (by omega)
    · have e : M4.2 47 0 (130 + 12 * i + 10) = (M.1 54 0 (12 * i + 10)).toInt64 := get 10 (by omega)
      rw [e, n10]; exact nI_l (by omega)
    · exact get 11 (by omega)
  have codes : ∀ k c, cd[k]? = some c → M4.2 47 0 (480 + k) = zmst c := fun k c hc => by
    have hk := (List.getElem?_eq_some_iff.mp hc).1
    rw [g7 k hk, f3.2 55 0 (by omega) (by omega), f2.2 55 0 (by omega) (by omega)]
    exact hcode k c hc
  have r4 : yrow (fun _ => 0) lk 0 nd cd (M4.2 47 0) := by
    refine ⟨⟨zer 0 (by omega) (by omega) (by omega) (by omega) (by omega), zer 3 (by omega) (by omega) (by omega) (by omega) (by omega), zer 4 (by omega) (by omega) (by omega) (by omega) (by omega), zer 5 (by omega) (by omega) (by omega) (by omega) (by omega), zer 7 (by omega) (by omega) (by omega) (by omega) (by omega)⟩, ⟨?_, ?_⟩, fun f hf => ⟨?_, ?_, fun j j1 j2 => ?_⟩, nf, fun j hj => ?_, codes⟩
    · rw [row 1 (by omega) (by omega) (by omega), if_neg (by omega), if_pos rfl]
    · rw [row 2 (by omega) (by omega) (by omega), if_pos rfl]
    · rw [zer _ (by omega) (by omega) (by omega) (by omega) (by omega)]; rfl
    · rw [zer _ (by omega) (by omega) (by omega) (by omega) (by omega)]; rfl
    · exact zer _ (by omega) (by omega) (by omega) (by omega) (by omega)
    · exact zer _ (by omega) (by omega) (by omega) (by omega) (by omega)
  have z4 := yrow_M h1.2 h1.1 hcd r4
  obtain ⟨l1, l2⟩ := yleaf_ok hok h1.1
  refine ⟨nd.length + 1, zy_ldF (S := ynew (fun _ => 0) lk 0 nd cd) z4 (ynew_plan hok h1 hcd) rfl nd.length 0 (yleaf nd) (by omega) (by omega) l1 l2 ?_⟩
  refine ⟨17, zy_ldG (lf := yleaf nd) (M0 := M4) (by omega) (fun M5 f5 s7 sf => ?_) 16 0 M4 (by omega) zFr_refl (fun f hf => by omega) (fun _ _ => rfl) rfl⟩
  refine hK M5 (zFr_trans f4' f5) (yrow_M h1.2 h1.1 hcd ?_)
  obtain ⟨⟨y0, y3, y4, y5, y7⟩, ⟨y1, y2⟩, yF, yN, yS, yC⟩ := r4
  have s47 : M4.2 48 0 = MA.2 48 0 := g8.trans (a8'.trans w2)
  refine ⟨⟨?_, ?_, ?_, ?_, ?_⟩, ⟨?_, ?_⟩, fun f hf => ⟨?_, (s7 f hf).2, fun j j1 j2 => ?_⟩, fun i n hn => ?_, fun j hj => ?_, fun k c hc => ?_⟩
  · rw [sf 0 (by omega)]; exact y0
  · rw [sf 3 (by omega)]; exact y3
  · rw [sf 4 (by omega)]; exact y4
  · rw [sf 5 (by omega)]; exact y5
  · rw [sf 7 (by omega)]; exact y7
  · rw [sf 1 (by omega)]; exact y1
  · rw [sf 2 (by omega)]; exact y2
  · rw [(s7 f hf).1, s47, a8 f hf]; exact hwt f hf
  · rw [sf _ (by omega)]; exact (yF f hf).2.2 j j1 j2
  · have g : ∀ j, M5.2 47 0 (130 + 12 * i + j) = M4.2 47 0 (130 + 12 * i + j) := fun j => sf _ (by omega)
    have g0 : M5.2 47 0 (130 + 12 * i) = M4.2 47 0 (130 + 12 * i) := g 0
    rw [g0, g 1, g 2, g 3, g 4, g 5, g 6, g 7, g 8, g 9, g 10, g 11]
    exact yN i n hn
  · rw [sf _ (by omega)]; exact yS j hj
  · rw [sf _ (by omega)]; exact yC k c hc
