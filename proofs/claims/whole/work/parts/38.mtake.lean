/-! the reference: isLeaf, isAhead, placeOf, takes, goes -/
theorem znb1 : narrow .boolean (.int 1) = .int 1 := rfl
theorem znb0 : narrow .boolean (.int 0) = .int 0 := rfl
theorem znb {p : Prop} [hd : Decidable p] : narrow .boolean (.int (if p then 1 else 0)) = .int (if p then 1 else 0) := by
  split
  · exact znb1
  · exact znb0
def zlfb (S : zW) (x n : Nat) : Int32 := if zsum (fun y => if 0 < y ∧ zN S 18 y = x then 1 else 0) n = 0 then 1 else 0
theorem zm_isLeafL {nn ar x : Nat} {M : gM} {S : zW} {K : Int32 → gM → Prop} (h : zM nn ar (M.2 47 0) S) (hn : zN S 0 0 = nn) (hn2 : nn ≤ 12) (hx : x < nn) (hpar : ∀ y, 0 < y → y < nn → zN S 18 y < y) (hK : K (zlfb S x nn) M) : ∀ (n y : Nat), y + n = nn → wp_X9_isLeaf_L4 K (n + 1) 0 (nI x) (zlfb S x y) (nI y) M
  | 0, y, e => by
    unfold wp_X9_isLeaf_L4
    refine ⟨zvi (by omega) (by omega), ?_⟩
    rw [zcl (by omega), zm_nodes h, hn, nI_l (by omega), if_pos ((lN_le (by omega) (by omega)).mpr (by omega))]
    have : y = nn := by omega
    rw [this]; exact ⟨znb, hK⟩
  | n + 1, y, e => by
    unfold wp_X9_isLeaf_L4
    refine ⟨zvi (by omega) (by omega), ?_⟩
    rw [zcl (by omega), zm_nodes h, hn, nI_l (by omega), if_neg (fun q => absurd ((lN_le (by omega) (by omega)).mp q) (by omega))]
    have hs : zsum (fun y => if 0 < y ∧ zN S 18 y = x then 1 else 0) (y + 1) = zsum (fun y => if 0 < y ∧ zN S 18 y = x then 1 else 0) y + (if 0 < y ∧ zN S 18 y = x then 1 else 0) := rfl
    have ih := zm_isLeafL h hn hn2 hx hpar hK n (y + 1) (by omega)
    have ev : zlfb S x (y + 1) = if zsum (fun y => if 0 < y ∧ zN S 18 y = x then 1 else 0) y + (if 0 < y ∧ zN S 18 y = x then 1 else 0) = 0 then 1 else 0 := by unfold zlfb; rw [hs]
    have fin : ∀ b : Int32, zlfb S x (y + 1) = b → ∀ n43 : Int32, n43 = nI y + Int32.ofInt 1 → wp_X9_isLeaf_L4 K (n + 1) 0 (nI x) b n43 M := by
      intro b hb n43 e43
      rw [zn_p1] at e43
      subst e43
      rw [← hb]; exact ih
    by_cases c : zsum (fun y => if 0 < y ∧ zN S 18 y = x then 1 else 0) y = 0
    · have e1 : zlfb S x y = 1 := by unfold zlfb; rw [if_pos c]
      rw [e1, if_neg (by decide), zm_nd, zad]
      refine ⟨vp_in_nI (by omega) (by omega), ?_⟩
      rw [nI_clamp (by omega), nI_l (by omega)]
      rw [c] at ev
      by_cases c0 : y = 0
      · subst c0
        rw [zm_par0 h, if_neg (by
          intro q
          have := congrArg Int64.toInt q
          rw [lN_toInt (by omega)] at this
          have h2 : (-1 : Int64).toInt = -1 := by decide
          omega)]
        exact fin 1 (by rw [ev]; simp)
      · rw [zm_parent h ⟨by omega, by omega⟩]
        by_cases c1 : zN S 18 y = x
        · rw [if_pos (by rw [c1])]
          have c0' : 0 < y := by omega
          exact fin 0 (by rw [ev]; simp [c0', c1])
        · have hp := hpar y (by omega) (by omega)
          rw [if_neg (fun q => c1 ((lN_eq (by omega) (by omega)).mp q))]
          exact fin 1 (by rw [ev]; simp [c1])
    · have e1 : zlfb S x y = 0 := by unfold zlfb; rw [if_neg c]
      rw [e1, if_pos rfl]
      refine fin 0 ?_
      rw [ev, if_neg (by omega)]
theorem zm_isLeaf {nn ar x : Nat} {M : gM} {S : zW} {K : Int32 → gM → Prop} (h : zM nn ar (M.2 47 0) S) (hp : zplan S) (hn : zN S 0 0 = nn) (hx : x < nn) (hK : K (if zN S 19 x = 0 then 1 else 0) M) : wp_X9_isLeaf 0 (nI x) M K := by
  have hn2 : nn ≤ 12 := by rw [← hn]; exact hp.1.2
  refine ⟨nn + 1, zm_isLeafL h hn hn2 hx (fun y a b => hp.2.1 y a (by omega)) ?_ nn 0 (by omega)⟩
  unfold zlfb
  rw [hp.2.2.1 x (by omega)] at hK
  unfold zcnt at hK
  rw [hn] at hK
  exact hK
/-- what an element's first number for a tie is -/
theorem zm_keyOf {nn ar x i o wd : Nat} {e : zE} {M : gM} {S : zW} {K : Int32 → gM → Prop} (h : zM nn ar (M.2 47 0) S) (hi : zInv S o wd) (hn : zN S 0 0 = nn) (ha : zN S 1 0 = ar) (hx : x < nn) (he : (zR S x)[i]? = some e) (hl : i < 64) (hK : K (nI (zkey S x e.1 e.2.2.2.2)) M) : wp_X9_keyOf 0 (nI x) (nI (4150 + 4 * (64 * x + i))) M K := by
  have hn2 : nn ≤ 12 := by rw [← hn]; exact hi.1.1.2
  have ha2 : ar ≤ 500 := by rw [← ha]; exact hi.2.2.1.1
  have hq := hi.2.2.2.1 x (by omega)
  have hel := hq.2.2.2 e (hq.1.mem_iff.mp (List.mem_of_getElem? he))
  have hv := (h.2.2.2.1 x hx).2 i e he
  unfold wp_X9_keyOf
  refine zm_isLeaf h hi.1 hn hx ?_
  unfold zkey at hK
  rcases hel.2.2.2 with q | q
  · rw [if_pos q.1] at hK
    rw [if_pos q.1, if_neg (by decide), zad]
    refine ⟨vp_in_nI (by omega) (by omega), ?_⟩
    have h1 := hel.1
    rw [nI_clamp (by omega), hv.1, lN_i, q.2, zm_pk, zad]
    refine ⟨vp_in_nI (by omega) (by omega), ?_⟩
    rw [nI_clamp (by omega), zm_flow h (by omega), lN_i]
    exact hK
  · rw [if_neg q.1] at hK
    rw [if_neg q.1, if_pos rfl, zad]
    refine ⟨vp_in_nI (by omega) (by omega), ?_⟩
    rw [nI_clamp (by omega), hv.1, lN_i]
    exact hK
theorem zm_ahead185 {nn ar x i j : Nat} {a b : zE} {M : gM} {S : zW} {K : Int32 → gM → Prop} (h : zM nn ar (M.2 47 0) S) (hn2 : nn ≤ 12) (hx : x < nn) (ha : (zR S x)[i]? = some a) (hb : (zR S x)[j]? = some b) (hi : i < 64) (hj : j < 64) (h8 : zN S 8 x ≤ 3) (ta : a.2.2.1 < 2 ^ 31) (tb : b.2.2.1 < 2 ^ 31) (ua : a.2.2.2.1 < 2 ^ 31) (ub : b.2.2.2.1 < 2 ^ 31) (hr : a.2.1 = b.2.1) (hK : K (if zah (zN S 8 x) a b then 1 else 0) M) : wp_X9_isAhead_b185 K 0 (nI (4150 + 4 * (64 * x + i))) (nI (4150 + 4 * (64 * x + j))) (lN (zN S 8 x)) (lN a.2.2.1) (lN b.2.2.1) M := by
  have va := (h.2.2.2.1 x hx).2 i a ha
  have vb := (h.2.2.2.1 x hx).2 j b hb
  unfold zah at hK
  rw [if_pos hr] at hK
  unfold wp_X9_isAhead_b185
  by_cases c : a.2.2.1 = b.2.2.1
  · rw [if_pos c] at hK
    rw [if_pos (by rw [c])]
    by_cases c1 : zN S 8 x = 1
    · rw [if_pos c1] at hK
      rw [if_pos (zj_eq (c := 1) (a := 1) rfl c1), zad, zad]
      refine ⟨vp_in_nI (by omega) (by omega), vp_in_nI (by omega) (by omega), ?_⟩
      rw [nI_clamp (by omega), nI_clamp (by omega), va.2.2.1, vb.2.2.1]
      by_cases c2 : b.2.2.2.1 < a.2.2.2.1
      · rw [if_neg (fun q => absurd ((lN_le ua ub).mp q) (by omega))]
        simpa [c2] using hK
      · rw [if_pos ((lN_le ua ub).mpr (by omega))]
        simpa [c2] using hK
    · rw [if_neg c1] at hK
      rw [if_neg (zj_ne (c := 1) (a := 1) rfl c1 (by omega) (by omega)), zad, zad]
      refine ⟨vp_in_nI (by omega) (by omega), vp_in_nI (by omega) (by omega), ?_⟩
      rw [nI_clamp (by omega), nI_clamp (by omega), va.2.2.1, vb.2.2.1]
      by_cases c2 : a.2.2.2.1 < b.2.2.2.1
      · rw [if_neg (fun q => absurd ((lN_le ub ua).mp q) (by omega))]
        simpa [c2] using hK
      · rw [if_pos ((lN_le ub ua).mpr (by omega))]
        simpa [c2] using hK
  · rw [if_neg c] at hK
    rw [if_neg (fun q => c ((lN_eq ta tb).mp q))]
    by_cases c2 : a.2.2.1 < b.2.2.1
    · rw [if_neg (fun q => absurd ((lN_le tb ta).mp q) (by omega))]
      simpa [c2] using hK
    · rw [if_pos ((lN_le tb ta).mpr (by omega))]
      simpa [c2] using hK
theorem zm_isAhead {nn ar x i j o wd : Nat} {a b : zE} {M : gM} {S : zW} {K : Int32 → gM → Prop} (h : zM nn ar (M.2 47 0) S) (hi : zInv S o wd) (hn : zN S 0 0 = nn) (har : zN S 1 0 = ar) (h20 : zN S 20 0 < 2 ^ 31) (hx : x < nn) (ha : (zR S x)[i]? = some a) (hb : (zR S x)[j]? = some b) (hK : K (if zah (zN S 8 x) a b then 1 else 0) M) : wp_X9_isAhead 0 (nI x) (nI i) (nI j) M K := by
  have hn2 : nn ≤ 12 := by rw [← hn]; exact hi.1.1.2
  have ha2 : ar ≤ 500 := by rw [← har]; exact hi.2.2.1.1
  have hq := hi.2.2.2.1 x (by omega)
  have hl : (zR S x).length ≤ 64 := by
    rw [zInv_lenR hi (by omega)]
    have := zlen64 hi (x := x) (by omega)
    omega
  have li := (List.getElem?_eq_some_iff.mp ha).1
  have lj := (List.getElem?_eq_some_iff.mp hb).1
  have ma := hq.1.mem_iff.mp (List.mem_of_getElem? ha)
  have mb := hq.1.mem_iff.mp (List.mem_of_getElem? hb)
  have ea := hq.2.2.2 a ma
  have eb := hq.2.2.2 b mb
  have ta := zInv_tie hi (by omega) ma
  have tb := zInv_tie hi (by omega) mb
  have ua := ea.2.1
  have ub := eb.2.1
  have va := (h.2.2.2.1 x hx).2 i a ha
  have vb := (h.2.2.2.1 x hx).2 j b hb
  have h8 := (hi.1.2.2.2.2 x (by omega)).2.1
  unfold wp_X9_isAhead
  rw [zm_el, zm_el, zad, zad]
  refine ⟨vp_in_nI (by omega) (by omega), vp_in_nI (by omega) (by omega), ?_⟩
  rw [nI_clamp (by omega), nI_clamp (by omega), va.2.1, vb.2.1]
  by_cases c : a.2.1 = b.2.1
  · rw [if_pos c, zm_nd, zad]
    refine ⟨vp_in_nI (by omega) (by omega), ?_⟩
    intro n75 e75
    rw [nI_clamp (by omega), zm_tie h hx] at e75
    subst e75
    have fin := zm_ahead185 h hn2 hx ha hb (by omega) (by omega) h8 ta tb (by omega) (by omega) c hK
    have e3 := ea.2.2.1
    have e4 := eb.2.2.1
    unfold ztie at e3 e4
    by_cases c2 : zN S 8 x = 2
    · rw [if_pos c2] at e3 e4
      rw [if_pos (zj_eq (c := 2) (a := 2) rfl c2), zad]
      refine ⟨vp_in_nI (by omega) (by omega), ?_⟩
      have h1 := ea.1
      rw [nI_clamp (by omega), va.2.2.2, lN_i, zm_pk, zad]
      refine ⟨vp_in_nI (by omega) (by omega), ?_⟩
      rw [nI_clamp (by omega), zm_length h (by omega), ← e3]
      unfold wp_X9_isAhead_b130
      rw [if_pos (zj_eq (c := 2) (a := 2) rfl c2), zad]
      refine ⟨vp_in_nI (by omega) (by omega), ?_⟩
      have h2 := eb.1
      rw [nI_clamp (by omega), vb.2.2.2, lN_i, zm_pk, zad]
      refine ⟨vp_in_nI (by omega) (by omega), ?_⟩
      rw [nI_clamp (by omega), zm_length h (by omega), ← e4]
      exact fin
    · rw [if_neg c2] at e3 e4
      rw [if_neg (zj_ne (c := 2) (a := 2) rfl c2 (by omega) (by omega))]
      by_cases c3 : zN S 8 x = 3
      · rw [if_pos c3] at e3 e4
        rw [if_pos (zj_eq (c := 3) (a := 3) rfl c3)]
        refine zm_keyOf h hi hn har hx ha (by omega) ?_
        rw [← e3, nI_l ta]
        unfold wp_X9_isAhead_b130
        rw [if_neg (zj_ne (c := 2) (a := 2) rfl c2 (by omega) (by omega)), if_pos (zj_eq (c := 3) (a := 3) rfl c3)]
        refine zm_keyOf h hi hn har hx hb (by omega) ?_
        rw [← e4, nI_l tb]
        exact fin
      · rw [if_neg c3] at e3 e4
        rw [if_neg (zj_ne (c := 3) (a := 3) rfl c3 (by omega) (by omega))]
        unfold wp_X9_isAhead_b130
        rw [if_neg (zj_ne (c := 2) (a := 2) rfl c2 (by omega) (by omega)), if_neg (zj_ne (c := 3) (a := 3) rfl c3 (by omega) (by omega))]
        rw [e3, e4] at fin
        exact fin
  · rw [if_neg c]
    refine ⟨vp_in_nI (by omega) (by omega), vp_in_nI (by omega) (by omega), ?_⟩
    unfold zah at hK
    rw [if_neg c] at hK
    by_cases c2 : a.2.1 < b.2.1
    · rw [if_neg (fun q => zl_le.mp q c2)]
      simpa [c2] using hK
    · rw [if_pos (zl_le.mpr c2)]
      simpa [c2] using hK
