/-! the reference: placeOf, takes, goes -/
theorem zgetq_mem {α : Type} {l : List α} {a : α} (h : a ∈ l) : ∃ i : Nat, l[i]? = some a := by
  obtain ⟨i, hi, e⟩ := List.getElem_of_mem h
  exact ⟨i, by rw [List.getElem?_eq_getElem hi, e]⟩
/-- how many are ahead of one: its place in the order -/
theorem zcount_at {S : zW} {x i m : Nat} {e e' : zE} (hq : zque S x) (he : (zR S x)[i]? = some e) (hm : (zQ S x)[m]? = some e') (hc : (zR S x).countP (fun b => zah (zN S 8 x) b e) = m) : e = e' := by
  obtain ⟨k, hk⟩ := zgetq_mem (hq.1.mem_iff.mp (List.mem_of_getElem? he))
  rw [hq.1.countP_eq, zcount_sorted hq.2.2.1 hk] at hc
  subst hc
  rw [hk] at hm
  exact Option.some.inj hm
theorem zcount_of {S : zW} {x i m : Nat} {e : zE} (hq : zque S x) (he : (zR S x)[i]? = some e) (hm : (zQ S x)[m]? = some e) : (zR S x).countP (fun b => zah (zN S 8 x) b e) = m := by
  rw [hq.1.countP_eq, zcount_sorted hq.2.2.1 hm]
theorem zm_placeL {nn ar x k o wd : Nat} {M : gM} {S : zW} {K : Int32 → gM → Prop} {R17 : Nat → Int32 → Int32 → Int32 → Int32 → gM → Prop} (h : zM nn ar (M.2 47 0) S) (hi : zInv S o wd) (hn : zN S 0 0 = nn) (har : zN S 1 0 = ar) (h20 : zN S 20 0 < 2 ^ 31) (hx : x < nn) (hk : k < 64) {i : Nat} {e : zE} (he : (zR S x)[i]? = some e) (hK : (zR S x).countP (fun b => zah (zN S 8 x) b e) = k → K (nI i) M) (hR : (zR S x).countP (fun b => zah (zN S 8 x) b e) ≠ k → R17 0 (nI x) (nI k) (nI (zR S x).length) (nI (i + 1)) M) : ∀ (n j : Nat), j + n = (zR S x).length → wp_X9_placeOf_L29 R17 K (n + 1) 0 (nI x) (nI k) (nI (zR S x).length) (nI i) (nI (((zR S x).take j).countP (fun b => zah (zN S 8 x) b e))) (nI j) M
  | 0, j, ej => by
    have hl : (zR S x).length ≤ 64 := by
      rw [zInv_lenR hi (by omega)]
      have := zlen64 hi (x := x) (by omega)
      omega
    have hc : (zR S x).countP (fun b => zah (zN S 8 x) b e) ≤ (zR S x).length := List.countP_le_length
    unfold wp_X9_placeOf_L29
    rw [if_pos (nI_le (by omega) (by omega)), List.take_of_length_le (by omega)]
    by_cases c : (zR S x).countP (fun b => zah (zN S 8 x) b e) = k
    · rw [if_pos (by rw [c])]
      exact hK c
    · rw [if_neg (fun q => c ((nI_eq (by omega) (by omega)).mp q))]
      intro n79 e79
      rw [zn_p1] at e79
      subst e79
      exact hR c
  | n + 1, j, ej => by
    have hl : (zR S x).length ≤ 64 := by
      rw [zInv_lenR hi (by omega)]
      have := zlen64 hi (x := x) (by omega)
      omega
    have hj : j < (zR S x).length := by omega
    have hii := (List.getElem?_eq_some_iff.mp he).1
    have ih := zm_placeL h hi hn har h20 hx hk he hK hR n (j + 1) (by omega)
    have et : (zR S x).take (j + 1) = (zR S x).take j ++ [(zR S x)[j]] := by rw [List.take_succ_eq_append_getElem hj]
    rw [et, List.countP_append, List.countP_singleton] at ih
    unfold wp_X9_placeOf_L29
    rw [if_neg (nI_ge hj (by omega))]
    have fin : ∀ d : Nat, (if zah (zN S 8 x) (zR S x)[j] e = true then 1 else 0) = d → wp_X9_placeOf_b61 (fun o0 x1 x2 x3 x4 x5 x6 M => wp_X9_placeOf_L29 R17 K (n + 1) o0 x1 x2 x3 x4 x5 x6 M) K 0 (nI x) (nI k) (nI (zR S x).length) (nI i) (nI j) (nI (((zR S x).take j).countP (fun b => zah (zN S 8 x) b e))) (nI d) M := by
      intro d hd
      unfold wp_X9_placeOf_b61
      intro n62 e62 n64 e64
      rw [zn_p1] at e64
      rw [nI_add, ← hd] at e62
      subst e62; subst e64
      exact ih
    by_cases c : i = j
    · subst c
      have : (zR S x)[i] = e := by
        rw [List.getElem?_eq_getElem hii] at he
        exact Option.some.inj he
      rw [if_pos rfl]
      unfold wp_X9_placeOf_b60
      exact fin 0 (by rw [this, zah_irr]; rfl)
    · rw [if_neg (fun q => c ((nI_eq (by omega) (by omega)).mp q))]
      refine zm_isAhead h hi hn har h20 hx (List.getElem?_eq_getElem hj) he ?_
      by_cases c2 : zah (zN S 8 x) (zR S x)[j] e = true
      · rw [c2, show (if (true = true) then (1 : Int32) else 0) = 1 from rfl, if_neg (by decide)]
        exact fin 1 (by rw [if_pos c2])
      · have c3 : zah (zN S 8 x) (zR S x)[j] e = false := by simpa using c2
        rw [c3, show (if (false = true) then (1 : Int32) else 0) = 0 from rfl, if_pos rfl]
        unfold wp_X9_placeOf_b60
        exact fin 0 (by rw [if_neg c2])
theorem zm_placeO {nn ar x k o wd : Nat} {M : gM} {S : zW} {K : Int32 → gM → Prop} {e : zE} (h : zM nn ar (M.2 47 0) S) (hi : zInv S o wd) (hn : zN S 0 0 = nn) (har : zN S 1 0 = ar) (h20 : zN S 20 0 < 2 ^ 31) (hx : x < nn) (hk : k < 64) (he : (zQ S x)[k]? = some e) (hK : ∀ i, (zR S x)[i]? = some e → K (nI i) M) : ∀ (n i : Nat), i + n = (zR S x).length → (∀ j b, j < i → (zR S x)[j]? = some b → b ≠ e) → wp_X9_placeOf_L17 K (n + 1) 0 (nI x) (nI k) (nI (zR S x).length) (nI i) M
  | 0, i, ei, hb => by
    have hq := hi.2.2.2.1 x (by omega)
    obtain ⟨j, hj⟩ := zgetq_mem (hq.1.mem_iff.mpr (List.mem_of_getElem? he))
    have := (List.getElem?_eq_some_iff.mp hj).1
    exact absurd rfl (hb j e (by omega) hj)
  | n + 1, i, ei, hb => by
    have hq := hi.2.2.2.1 x (by omega)
    have hl : (zR S x).length ≤ 64 := by
      rw [zInv_lenR hi (by omega)]
      have := zlen64 hi (x := x) (by omega)
      omega
    have hii : i < (zR S x).length := by omega
    unfold wp_X9_placeOf_L17
    rw [if_neg (nI_ge hii (by omega))]
    refine ⟨(zR S x).length + 1, ?_⟩
    have := zm_placeL (k := k) (K := K) (R17 := fun o0 x1 x2 x3 x4 M => wp_X9_placeOf_L17 K (n + 1) o0 x1 x2 x3 x4 M) h hi hn har h20 hx hk (i := i) (e := (zR S x)[i]) (List.getElem?_eq_getElem hii) (fun c => ?_) (fun c => ?_) (zR S x).length 0 (by omega)
    · exact this
    · have e1 := zcount_at hq (List.getElem?_eq_getElem hii) he c
      exact hK i (by rw [List.getElem?_eq_getElem hii, e1])
    · refine zm_placeO h hi hn har h20 hx hk he hK n (i + 1) (by omega) (fun j b hj hjb => ?_)
      by_cases cj : j = i
      · subst cj
        rw [List.getElem?_eq_getElem hii] at hjb
        intro q
        apply c
        refine zcount_of hq (List.getElem?_eq_getElem hii) ?_
        rw [Option.some.inj hjb, q]; exact he
      · exact hb j b (by omega) hjb
theorem zm_place {nn ar x k o wd : Nat} {M : gM} {S : zW} {K : Int32 → gM → Prop} {e : zE} (h : zM nn ar (M.2 47 0) S) (hi : zInv S o wd) (hn : zN S 0 0 = nn) (har : zN S 1 0 = ar) (h20 : zN S 20 0 < 2 ^ 31) (hx : x < nn) (he : (zQ S x)[k]? = some e) (hK : ∀ i, (zR S x)[i]? = some e → K (nI i) M) : wp_X9_placeOf 0 (nI x) (nI k) M K := by
  have hn2 : nn ≤ 12 := by rw [← hn]; exact hi.1.1.2
  have hk := (List.getElem?_eq_some_iff.mp he).1
  have h64 := zlen64 hi (x := x) (by omega)
  unfold wp_X9_placeOf
  rw [zm_nd, zad]
  refine ⟨vp_in_nI (by omega) (by omega), ?_⟩
  intro n13 e13
  rw [nI_clamp (by omega), (h.2.2.2.1 x hx).1, lN_i] at e13
  subst e13
  exact ⟨(zR S x).length + 1, zm_placeO h hi hn har h20 hx (by omega) he hK (zR S x).length 0 (by omega) (fun j b hj => by omega)⟩
/-- elements move down -/
theorem zm_eshiftL {K : Int32 → gM → Prop} {x L i : Nat} {x3 : Int32} {M0 : gM} (hx : x < 12) (hL : L ≤ 64) (h4 : M0.2 47 0 (130 + 12 * x + 11) = lN L) (hK : ∀ M' : gM, M'.1 = M0.1 → (∀ a b, ¬ (a = 47 ∧ b = 0) → M'.2 a b = M0.2 a b) → (∀ b, M'.2 47 0 b = if 4150 + 4 * (64 * x + i) ≤ b ∧ b < 4150 + 4 * (64 * x + L) then M0.2 47 0 (b + 4) else M0.2 47 0 b) → K x3 M') : ∀ (n a : Nat) (M : gM), a + n = 4150 + 4 * (64 * x + L) → 4150 + 4 * (64 * x + i) ≤ a → M.1 = M0.1 → (∀ c b, ¬ (c = 47 ∧ b = 0) → M.2 c b = M0.2 c b) → (∀ b, M.2 47 0 b = if 4150 + 4 * (64 * x + i) ≤ b ∧ b < a then M0.2 47 0 (b + 4) else M0.2 47 0 b) → wp_X9_takes_L68 K (n + 1) 0 (nI x) x3 (nI a) M
  | 0, a, M, e, ha, m1, m2, m3 => by
    unfold wp_X9_takes_L68
    rw [zm_nd, zad]
    refine ⟨vp_in_nI (by omega) (by omega), ?_⟩
    rw [nI_clamp (by omega), show M.2 47 0 (130 + 12 * x + 11) = lN L by rw [m3, if_neg (by omega)]; exact h4, lN_i, zm_el, if_pos (nI_le (by omega) (by omega))]
    have : a = 4150 + 4 * (64 * x + L) := by omega
    subst this
    exact hK M m1 m2 m3
  | n + 1, a, M, e, ha, m1, m2, m3 => by
    unfold wp_X9_takes_L68
    rw [zm_nd, zad]
    refine ⟨vp_in_nI (by omega) (by omega), ?_⟩
    rw [nI_clamp (by omega), show M.2 47 0 (130 + 12 * x + 11) = lN L by rw [m3, if_neg (by omega)]; exact h4, lN_i, zm_el, if_neg (nI_ge (by omega) (by omega)), zad]
    refine ⟨vp_in_nI (by omega) (by omega), vp_in_nI (by omega) (by omega), ?_⟩
    intro M1 e1 n122 e122
    rw [zn_p1] at e122
    subst e122
    rw [nI_clamp (by omega), nI_clamp (by omega), m3, if_neg (by omega)] at e1
    refine zm_eshiftL hx hL h4 hK n (a + 1) M1 (by omega) (by omega) (by rw [e1]; exact m1) (fun c b q => ?_) (fun b => ?_)
    · rw [e1]
      show (if c = 47 ∧ b = 0 then _ else M.2 c b) = _
      rw [if_neg q]; exact m2 c b q
    · rw [e1, zuL]
      by_cases cb : b = a
      · subst cb
        rw [if_pos ⟨rfl, rfl, rfl⟩, if_pos ⟨ha, by omega⟩]
      · rw [if_neg (by omega), m3]
        by_cases c2 : 4150 + 4 * (64 * x + i) ≤ b ∧ b < a
        · rw [if_pos c2, if_pos (by omega)]
        · rw [if_neg c2, if_neg (by omega)]
theorem zm_takes {M0 : gM} {nn ar x o wd : Nat} {M : gM} {S : zW} {K : Int32 → gM → Prop} (h : zMW M0 nn ar S M) (hi : zInv S o wd) (hn : zN S 0 0 = nn) (har : zN S 1 0 = ar) (h20 : zN S 20 0 < 2 ^ 31) (hx : x < nn) (hq : (zQ S x).length ≠ 0) (hK : ∀ M', zMW M0 nn ar (ztake S x) M' → K (nI (zitem S x)) M') : wp_X9_takes 0 (nI x) M K := by
  obtain ⟨e, t, het⟩ := zcons_of hq
  obtain ⟨k1, k2⟩ := ztake_eq het
  rw [k1, k2] at hK
  have hn2 : nn ≤ 12 := by rw [← hn]; exact hi.1.1.2
  have ha2 : ar ≤ 500 := by rw [← har]; exact hi.2.2.1.1
  have hlR := zInv_lenR hi (x := x) (by omega)
  have h64 := zlen64 hi (x := x) (by omega)
  have hqq := hi.2.2.2.1 x (by omega)
  have hqs : ∀ y, y < nn → (zR S y).length ≤ 64 := fun y hy => by
    rw [zInv_lenR hi (by omega)]
    have := zlen64 hi (x := y) (by omega)
    omega
  unfold wp_X9_takes
  refine zm_place (k := 0) (e := e) h.2 hi hn har h20 hx (by rw [het]; rfl) (fun i hie => ?_)
  have hil := (List.getElem?_eq_some_iff.mp hie).1
  have hv := (h.2.2.2.2.1 x hx).2 i e hie
  rw [zm_el, zad]
  refine ⟨vp_in_nI (by omega) (by omega), ?_⟩
  intro n20 e20
  rw [nI_clamp (by omega), hv.1, lN_i] at e20
  subst e20
  rw [zm_nd, zm_el, zad, zad]
  refine ⟨vp_in_nI (by omega) (by omega), vp_in_nI (by omega) (by omega), ?_⟩
  intro M1 e1
  rw [nI_clamp (by omega), nI_clamp (by omega), hv.2.1] at e1
  have h1 : zMW M0 nn ar (zsL S 4 x e.2.1) M1 := by
    rw [e1]
    exact zMW_uL (i := 4) (j := x) hn2 ha2 (by unfold zokL; omega) h
  rw [zm_nd, zad]
  refine ⟨vp_in_nI (by omega) (by omega), vp_in_nI (by omega) (by omega), ?_⟩
  intro M2 e2
  have hl1 := (h1.2.2.2.2.1 x hx).1
  rw [zR_sL] at hl1
  rw [nI_clamp (by omega), hl1, show lN (zR S x).length - 1 = lN ((zR S x).length - 1) from lN_sub (b := 1) (by omega)] at e2
  rw [zm_el]
  refine ⟨_, zm_eshiftL (x := x) (L := (zR S x).length - 1) (i := i) (M0 := M2) (by omega) (by omega) (by rw [e2, zuL, if_pos ⟨rfl, rfl, rfl⟩]) (fun M3 m1 m2 m3 => ?_) (4150 + 4 * (64 * x + ((zR S x).length - 1)) - (4150 + 4 * (64 * x + i))) (4150 + 4 * (64 * x + i)) M2 (by omega) (by omega) rfl (fun _ _ _ => rfl) (fun b => by rw [if_neg (by omega)])⟩
  refine hK M3 ⟨⟨?_, fun k o q1 q2 q3 => ?_⟩, zM_VQ (v := M1.2 47 0) hn2 ha2 hx h1.2 (by rw [zR_sL]; exact hqs) (fun a q1 q2 => ?_) ?_ (fun j b hb => ?_)⟩
  · rw [m1, e2]; exact h1.1.1
  · rw [m2 k o (fun z => q1 z.1), e2]
    show (if k = 47 ∧ o = 0 then _ else M1.2 k o) = _
    rw [if_neg (fun z => q1 z.1)]; exact h1.1.2 k o q1 q2 q3
  · rw [m3, if_neg (by omega), e2, zuL, if_neg (by omega)]
  · rw [zfilt_erase hqq.2.1 hie, List.length_eraseIdx_of_lt hil, m3, if_neg (by omega), e2, zuL, if_pos ⟨rfl, rfl, rfl⟩]
  · rw [zfilt_erase hqq.2.1 hie] at hb
    have hj : j < (zR S x).length - 1 := by
      have := (List.getElem?_eq_some_iff.mp hb).1
      rwa [List.length_eraseIdx_of_lt hil] at this
    rw [List.getElem?_eraseIdx] at hb
    rw [m3, m3, m3, m3]
    by_cases cj : j < i
    · rw [if_pos cj] at hb
      have := (h1.2.2.2.2.1 x hx).2 j b hb
      rw [if_neg (by omega), if_neg (by omega), if_neg (by omega), if_neg (by omega), e2, zuL, if_neg (by omega), zuL, if_neg (by omega), zuL, if_neg (by omega), zuL, if_neg (by omega)]
      exact this
    · rw [if_neg cj] at hb
      have := (h1.2.2.2.2.1 x hx).2 (j + 1) b hb
      rw [if_pos (by omega), if_pos (by omega), if_pos (by omega), if_pos (by omega), e2, zuL, if_neg (by omega), zuL, if_neg (by omega), zuL, if_neg (by omega), zuL, if_neg (by omega)]
      rw [show 4150 + 4 * (64 * x + j) + 0 + 4 = 4150 + 4 * (64 * x + (j + 1)) + 0 by omega, show 4150 + 4 * (64 * x + j) + 1 + 4 = 4150 + 4 * (64 * x + (j + 1)) + 1 by omega, show 4150 + 4 * (64 * x + j) + 2 + 4 = 4150 + 4 * (64 * x + (j + 1)) + 2 by omega, show 4150 + 4 * (64 * x + j) + 3 + 4 = 4150 + 4 * (64 * x + (j + 1)) + 3 by omega]
      exact this
theorem zm_goesL {M0 : gM} {nn ar : Nat} {K : Int32 → gM → Prop} : ∀ (F : Nat) (S : zW) (M : gM) (x k : Nat), zMW M0 nn ar (ztake S x) M → zInv S x 0 → zN S 0 0 = nn → zN S 1 0 = ar → zN S 20 0 < 2 ^ 31 → x < nn → (zQ S x).length ≠ 0 → k ≤ x → 12 ≤ F + x → (∀ M', zMW M0 nn ar (zleave F S x).1 M' → wp_X9_goes_b57 K 0 (nI (zleave F S x).2) M') → wp_X9_goes_L29 K F 0 (nI x) (nI (zitem S x)) (nI k) M
  | 0, S, M, x, k, h, hi, hn, ha, h20, hx, hq, hl, hf, hK => by
    have := hi.1.1.2
    omega
  | F + 1, S, M, x, k, h, hi, hn, ha, h20, hx, hq, hl, hf, hK => by
    have hn2 : nn ≤ 12 := by rw [← hn]; exact hi.1.1.2
    obtain ⟨e, t, het⟩ := zcons_of hq
    obtain ⟨k1, k2⟩ := ztake_eq het
    obtain ⟨i1, i2, i3, i4⟩ := zcons_sub hi (by omega) het
    unfold zleave at hK
    unfold wp_X9_goes_L29
    rw [if_neg (zk_nle (c := 12) (a := 12) rfl (by omega) (by omega))]
    have hpl : zplan (ztake S x) := zplan_same (fun i j _ _ => by rw [ztk_N.1]) hi.1
    refine zm_isLeaf h.2 hpl (by rw [ztk_N.1]; exact hn) hx ?_
    rw [ztk_N.1]
    by_cases c : zN S 19 x = 0
    · rw [if_pos c] at hK
      rw [if_pos c, if_neg (by decide)]
      exact hK M h
    · rw [if_neg c] at hK
      rw [if_neg c, if_pos rfl]
      have hi2 := i2 c
      have hlt := i3 c
      rw [← k2] at hi2 hlt
      have hne := zne_of hi2 (by omega) (by rw [ztk_N.1]; omega)
      refine zm_takes h hi2 (by rw [ztk_N.1]; exact hn) (by rw [ztk_N.1]; exact ha) (by rw [ztk_N.1]; exact h20) (by omega) hne (fun M1 h1 => ?_)
      intro n51 e51
      rw [zn_p1] at e51
      subst e51
      exact zm_goesL F (ztake S x) M1 (zitem S x) (k + 1) h1 hi2 (by rw [ztk_N.1]; exact hn) (by rw [ztk_N.1]; exact ha) (by rw [ztk_N.1]; exact h20) (by omega) hne (by omega) (by omega) hK
theorem zleave_inv : ∀ (F : Nat) (S : zW) (x : Nat), zInv S x 0 → x < zN S 0 0 → (zQ S x).length ≠ 0 → 12 ≤ F + x → zInv (zleave F S x).1 0 1 ∧ zN (zleave F S x).1 = zN S ∧ zD (zleave F S x).1 = zD S ∧ (zleave F S x).2 < zN S 1 0
  | 0, S, x, hi, hx, hq, hf => by
    have := hi.1.1.2
    omega
  | F + 1, S, x, hi, hx, hq, hf => by
    obtain ⟨e, t, het⟩ := zcons_of hq
    obtain ⟨k1, k2⟩ := ztake_eq het
    obtain ⟨i1, i2, i3, i4⟩ := zcons_sub hi (by omega) het
    unfold zleave
    by_cases c : zN S 19 x = 0
    · rw [if_pos c]
      exact ⟨i1 c, ztk_N.1, ztk_N.2, by show zitem S x < _; rw [k2]; exact i4 c⟩
    · rw [if_neg c]
      have hi2 := i2 c
      have hlt := i3 c
      rw [← k2] at hi2 hlt
      obtain ⟨j1, j2, j3, j4⟩ := zleave_inv F (ztake S x) (zitem S x) hi2 (by rw [ztk_N.1]; omega) (zne_of hi2 (by omega) (by rw [ztk_N.1]; omega)) (by omega)
      exact ⟨j1, j2.trans ztk_N.1, j3.trans ztk_N.2, by rw [ztk_N.1] at j4; exact j4⟩
theorem zgoes_inv {S : zW} (hi : zInv S 0 0) (hq : (zQ S 0).length ≠ 0) : zInv (zgoes S) 0 0 ∧ zD (zgoes S) = zD S ∧ zgone S < zN S 1 0 ∧ zN (zgoes S) 21 0 + 1 = zN S 21 0 ∧ ∀ i j, i ≠ 21 → i ≠ 22 → zN (zgoes S) i j = zN S i j := by
  have h1 := hi.1.1
  obtain ⟨j1, j2, j3, j4⟩ := zleave_inv 12 S 0 hi (by omega) hq (by omega)
  have hw := zheld_le hi
  have e1 : ∀ i j, i ≠ 21 → i ≠ 22 → zN (zgoes S) i j = zN S i j := fun i j a b => by
    unfold zgoes
    rw [zN_sN, if_neg (by omega), zN_sN, if_neg (by omega), j2]
  have e21 : zN (zgoes S) 21 0 = zN S 21 0 - 1 := by
    unfold zgoes
    rw [zN_sN, if_neg (by omega), zN_sN, if_pos ⟨rfl, rfl⟩]
  refine ⟨?_, j3, j4, by omega, e1⟩
  obtain ⟨hP, hF, hK, hQ, hC, hH, hW⟩ := j1
  have e2 : ∀ i j, i ≠ 21 → i ≠ 22 → zN (zgoes S) i j = zN (zleave 12 S 0).1 i j := fun i j a b => by rw [e1 i j a b, j2]
  have eQ : zQ (zgoes S) = zQ (zleave 12 S 0).1 := rfl
  have eR : zR (zgoes S) = zR (zleave 12 S 0).1 := rfl
  have eD : zD (zgoes S) = zD (zleave 12 S 0).1 := rfl
  have e24 : zN (zgoes S) 24 = zN (zleave 12 S 0).1 24 := funext (fun j => e2 24 j (by omega) (by omega))
  have n0 := e2 0 0 (by omega) (by omega)
  refine ⟨?_, ?_, ?_, ?_, ?_, ?_, ?_⟩
  · obtain ⟨p1, p2, p3, p4, p5⟩ := hP
    refine ⟨by rw [n0]; exact p1, fun x a b => ?_, fun x a => ?_, by rw [e2 9 0 (by omega) (by omega)]; exact p4, fun x a => ?_⟩
    · rw [n0] at b
      rw [e2 18 x (by omega) (by omega)]; exact p2 x a b
    · rw [n0] at a
      rw [e2 19 x (by omega) (by omega), p3 x a]
      unfold zcnt
      rw [n0]
      exact zsum_congr (fun y _ => by rw [e2 18 y (by omega) (by omega)])
    · rw [n0] at a
      rw [e2 8 x (by omega) (by omega), e2 9 x (by omega) (by omega), e2 10 x (by omega) (by omega)]
      refine ⟨?_, (p5 x a).2⟩
      unfold zprog
      rw [e2 11 x (by omega) (by omega), e2 12 x (by omega) (by omega), e2 13 x (by omega) (by omega), e2 23 0 (by omega) (by omega), e24]
      exact (p5 x a).1
  · obtain ⟨p1, p2, p3⟩ := hF
    refine ⟨fun f hf => ?_, fun y hy => ?_, by rw [e2 2 0 (by omega) (by omega)]; exact p3⟩
    · rw [e2 3 f (by omega) (by omega), e2 4 f (by omega) (by omega), n0, e2 19 _ (by omega) (by omega)]; exact p1 f hf
    · rw [n0] at hy
      rw [e2 14 y (by omega) (by omega)]; exact p2 y hy
  · obtain ⟨p1, p2⟩ := hK
    have n1 := e2 1 0 (by omega) (by omega)
    refine ⟨by rw [n1]; exact p1, fun p hp => ?_⟩
    rw [n1] at hp
    rw [e2 15 p (by omega) (by omega), e2 16 p (by omega) (by omega), e2 17 p (by omega) (by omega)]; exact p2 p hp
  · intro x hx
    rw [n0] at hx
    obtain ⟨q1, q2, q3, q4⟩ := hQ x hx
    refine ⟨q1, q2, by rw [e2 8 x (by omega) (by omega)]; exact q3, fun e he => ?_⟩
    obtain ⟨a1, a2, a3, a4⟩ := q4 e he
    refine ⟨by rw [e2 1 0 (by omega) (by omega)]; exact a1, by rw [e2 20 0 (by omega) (by omega)]; exact a2, ?_, ?_⟩
    · rw [a3]
      unfold ztie zkey
      rw [e2 8 x (by omega) (by omega), e2 16 _ (by omega) (by omega), e2 19 x (by omega) (by omega), e2 15 _ (by omega) (by omega)]
    · rw [e2 19 x (by omega) (by omega), n0, e2 18 _ (by omega) (by omega)]; exact a4
  · intro y a b
    rw [n0] at b
    have := hC y a b
    unfold zci zch at this ⊢
    rw [eQ, eD, e2 18 y (by omega) (by omega)]; exact this
  · intro e he
    rw [n0, e2 1 0 (by omega) (by omega)]; exact hH e he
  · unfold zwait at hW ⊢
    rw [e21, n0]
    have : zsum (zlf (zgoes S)) (zN (zleave 12 S 0).1 0 0) = zsum (zlf (zleave 12 S 0).1) (zN (zleave 12 S 0).1 0 0) := zsum_congr (fun i _ => by
      unfold zlf
      rw [e2 19 i (by omega) (by omega), eQ])
    rw [this]
    have hw2 := hW.1
    rw [j2] at hw2 ⊢
    omega
theorem zm_goes {M0 : gM} {nn ar : Nat} {K : Int32 → gM → Prop} {S : zW} {M : gM} (h : zMW M0 nn ar S M) (hi : zInv S 0 0) (hn : zN S 0 0 = nn) (ha : zN S 1 0 = ar) (h20 : zN S 20 0 < 2 ^ 31) (hK0 : (zQ S 0).length = 0 → K (-1) M) (hK : (zQ S 0).length ≠ 0 → ∀ M', zMW M0 nn ar (zgoes S) M' → K (nI (zgone S)) M') : wp_X9_goes 0 M K := by
  have h1 := hi.1.1
  have hn2 : nn ≤ 12 := by rw [← hn]; exact hi.1.1.2
  have ha2 : ar ≤ 500 := by rw [← ha]; exact hi.2.2.1.1
  have hw := zheld_le hi
  unfold wp_X9_goes
  have e0 : wp_X9_node 0 M = wp_X9_node (nI 0) M := rfl
  rw [e0, zm_nd, zad]
  refine ⟨vp_in_nI (by omega) (by omega), ?_⟩
  rw [nI_clamp (by omega), (h.2.2.2.2.1 0 (by omega)).1, zInv_lenR hi (by omega)]
  by_cases c : (zQ S 0).length = 0
  · rw [if_pos (zj_eq (c := 0) (a := 0) rfl c)]
    exact hK0 c
  · rw [if_neg (zj_ne (c := 0) (a := 0) rfl c (by omega) (by omega))]
    refine zm_takes (x := 0) h hi hn ha h20 (by omega) c (fun M1 h1' => ?_)
    refine ⟨12, zm_goesL 12 S M1 0 0 h1' hi hn ha h20 (by omega) c (by omega) (by omega) (fun M2 h2 => ?_)⟩
    obtain ⟨j1, j2, j3, j4⟩ := zleave_inv 12 S 0 hi (by omega) c (by omega)
    unfold wp_X9_goes_b57
    refine ⟨zvi (by omega) (by omega), zvi (by omega) (by omega), ?_⟩
    intro M3 e3
    rw [zcl (by omega), zm_waiting h2.2, j2, show lN (zN S 21 0) - 1 = lN (zN S 21 0 - 1) from lN_sub (b := 1) (by omega)] at e3
    have h3 : zMW M0 nn ar (zsN (zleave 12 S 0).1 21 0 (zN S 21 0 - 1)) M3 := by
      rw [e3]
      exact zMW_uN (i := 21) (j := 0) hn2 ha2 (by unfold zokM; omega) (by omega) h2
    rw [zm_pk, zad]
    refine ⟨vp_in_nI (by omega) (by omega), ?_⟩
    intro M4 e4
    rw [nI_clamp (by omega)] at e4
    refine hK c M4 ?_
    rw [e4]
    exact zMW_uN (i := 22) (j := (zleave 12 S 0).2) (x := 0) hn2 ha2 (by unfold zokM; omega) (by omega) h3
