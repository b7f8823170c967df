/-! the reference: nextHeld, passes -/
theorem zm_nextL {M : gM} {d : List zH} {K : Int32 → gM → Prop} (hl : d.length ≤ 64) (h1 : M.2 47 0 4 = lN d.length) (h2 : ∀ i e, d[i]? = some e → M.2 47 0 (7230 + 4 * i + 0) = e.1) {res : Nat} (hK : K (nI res) M) : ∀ (n i b : Nat), i + n = d.length → b < i → znxB (d.drop i) i b (zget d b).1 = res → wp_X9_nextHeld_L4 K (n + 1) 0 (nI b) (nI i) M
  | 0, i, b, e, hb, hr => by
    unfold wp_X9_nextHeld_L4
    refine ⟨zvi (by omega) (by omega), ?_⟩
    rw [zcl (by omega), h1, nI_l (by omega), if_pos ((lN_le (by omega) (by omega)).mpr (by omega))]
    rw [List.drop_eq_nil_of_le (by omega)] at hr
    have : b = res := hr
    rw [this]; exact hK
  | n + 1, i, b, e, hb, hr => by
    have hi : i < d.length := by omega
    unfold wp_X9_nextHeld_L4
    refine ⟨zvi (by omega) (by omega), ?_⟩
    rw [zcl (by omega), h1, nI_l (by omega), if_neg (fun q => absurd ((lN_le (by omega) (by omega)).mp q) (by omega)), if_neg (nI_pos (by omega)), zm_ho, zad]
    refine ⟨vp_in_nI (by omega) (by omega), ?_⟩
    rw [zm_ho, zad]
    refine ⟨vp_in_nI (by omega) (by omega), ?_⟩
    rw [nI_clamp (by omega), nI_clamp (by omega), h2 i _ (zget_some hi), h2 b _ (zget_some (by omega))]
    rw [List.drop_eq_getElem_cons hi] at hr
    have ea : d[i] = zget d i := by
      have := zget_some hi
      rw [List.getElem?_eq_getElem hi] at this
      exact Option.some.inj this
    rw [ea] at hr
    unfold znxB at hr
    by_cases c : (zget d i).1 < (zget d b).1
    · rw [if_pos c] at hr
      rw [if_neg (fun q => zl_le.mp q c)]
      unfold wp_X9_nextHeld_b46
      intro n40 e40
      rw [zn_p1] at e40
      subst e40
      exact zm_nextL hl h1 h2 hK n (i + 1) i (by omega) (by omega) hr
    · rw [if_neg c] at hr
      rw [if_pos (zl_le.mpr c)]
      intro n40 e40
      rw [zn_p1] at e40
      subst e40
      exact zm_nextL hl h1 h2 hK n (i + 1) b (by omega) (by omega) hr
theorem zm_next {nn ar : Nat} {M : gM} {S : zW} {K : Int32 → gM → Prop} (h : zM nn ar (M.2 47 0) S) (hl : (zD S).length ≤ 64) (hK : K (zfirst (zD S)) M) : wp_X9_nextHeld 0 M K := by
  have hd := h.2.2.2.2
  unfold zfirst at hK
  by_cases c : (zD S).length = 0
  · rw [if_pos c] at hK
    refine ⟨1, ?_⟩
    unfold wp_X9_nextHeld_L4
    refine ⟨zvi (by omega) (by omega), ?_⟩
    rw [zcl (by omega), hd.1, c, if_pos (by decide)]
    exact hK
  · rw [if_neg c] at hK
    refine ⟨(zD S).length + 1, ?_⟩
    obtain ⟨n, hn⟩ : ∃ n, (zD S).length = n + 1 := ⟨(zD S).length - 1, by omega⟩
    rw [hn]
    unfold wp_X9_nextHeld_L4
    refine ⟨zvi (by omega) (by omega), ?_⟩
    rw [zcl (by omega), hd.1, if_neg (by
      have e0 : (0 : Int32).toInt64 = lN 0 := nI_l (n := 0) (by omega)
      rw [hn, e0]; exact zj_nle (c := lN 0) (a := 0) rfl (by omega) (by omega)), if_pos (by decide)]
    unfold wp_X9_nextHeld_b46
    intro n40 e40
    have : n40 = nI 1 := e40
    subst this
    refine zm_nextL hl hd.1 (fun i e he => (hd.2 i e he).1) hK n 1 0 (by omega) (by omega) ?_
    match hz : zD S, hn with
    | a :: l, _ => rfl
/-- held ones move down -/
theorem zm_shiftL {R8 : Nat → Int64 → Int32 → Int32 → gM → Prop} {K : Int32 → gM → Prop} {y1 y5 : Int64} {x3 x7 x8 : Int32} {L i : Nat} {M0 : gM} (hL : L ≤ 64) (h4 : M0.2 47 0 4 = lN L) (hK : ∀ M' : gM, M'.1 = M0.1 → (∀ a b, ¬ (a = 47 ∧ b = 0) → M'.2 a b = M0.2 a b) → (∀ b, M'.2 47 0 b = if 7230 + 4 * i ≤ b ∧ b < 7230 + 4 * L then M0.2 47 0 (b + 4) else M0.2 47 0 b) → wp_X9_node x7 M' (fun r134 M134 => vp_in (r134 + 0) 7600 ∧ ∀ n141 : Int32, n141 = (M134.2 47 0 (r134 + 0).toNatClampNeg).toInt32 → wp_X9_node x7 M134 (fun r156 M156 => vp_in (r156 + 5) 7600 ∧ wp_X9_enters 0 n141 x7 x7 (M156.2 47 0 (r156 + 5).toNatClampNeg) x8 y5 M156 (fun M166 => wp_X9_climbs 0 n141 x8 y5 M166 (fun M176 => ∀ n179 : Int32, n179 = x3 + Int32.ofInt (1) → wp_X9_nextHeld 0 M176 (fun r183 M183 => R8 0 y1 n179 r183 M183)))))) : ∀ (n a : Nat) (M : gM), a + n = 7230 + 4 * L → 7230 + 4 * i ≤ a → M.1 = M0.1 → (∀ c b, ¬ (c = 47 ∧ b = 0) → M.2 c b = M0.2 c b) → (∀ b, M.2 47 0 b = if 7230 + 4 * i ≤ b ∧ b < a then M0.2 47 0 (b + 4) else M0.2 47 0 b) → wp_X9_passes_L91 R8 K (n + 1) 0 y1 x3 y5 x7 x8 (nI a) M
  | 0, a, M, e, ha, m1, m2, m3 => by
    unfold wp_X9_passes_L91
    refine ⟨zvi (by omega) (by omega), ?_⟩
    rw [zcl (by omega), show M.2 47 0 4 = lN L by rw [m3, if_neg (by omega)]; exact h4, lN_i, zm_ho, if_pos (nI_le (by omega) (by omega))]
    have : a = 7230 + 4 * L := by omega
    subst this
    exact hK M m1 m2 m3
  | n + 1, a, M, e, ha, m1, m2, m3 => by
    unfold wp_X9_passes_L91
    refine ⟨zvi (by omega) (by omega), ?_⟩
    rw [zcl (by omega), show M.2 47 0 4 = lN L by rw [m3, if_neg (by omega)]; exact h4, lN_i, zm_ho, if_neg (nI_ge (by omega) (by omega)), zad]
    refine ⟨vp_in_nI (by omega) (by omega), vp_in_nI (by omega) (by omega), ?_⟩
    intro M1 e1 n122 e122
    rw [zn_p1] at e122
    subst e122
    rw [nI_clamp (by omega), nI_clamp (by omega), m3, if_neg (by omega)] at e1
    refine zm_shiftL hL h4 hK n (a + 1) M1 (by omega) (by omega) (by rw [e1]; exact m1) (fun c b q => ?_) (fun b => ?_)
    · rw [e1]
      show (if c = 47 ∧ b = 0 then _ else M.2 c b) = _
      rw [if_neg q]; exact m2 c b q
    · rw [e1, zuL]
      by_cases cb : b = a
      · subst cb
        rw [if_pos ⟨rfl, rfl, rfl⟩, if_pos ⟨ha, by omega⟩]
      · rw [if_neg (by omega), m3]
        by_cases c2 : 7230 + 4 * i ≤ b ∧ b < a
        · rw [if_pos c2, if_pos (by omega)]
        · rw [if_neg c2, if_neg (by omega)]
theorem zm_passL {M0 : gM} {nn ar : Nat} {u : Int64} {K : Int32 → gM → Prop} : ∀ (f : Nat) (S : zW) (M : gM) (c : Nat), zMW M0 nn ar S M → zInv S 0 0 → zN S 0 0 = nn → zN S 1 0 = ar → zpot (zD S) < f → (∀ M', zMW M0 nn ar (zpass f S u c).1 M' → K (nI (zpass f S u c).2) M') → wp_X9_passes_L8 K f 0 u (nI c) (zfirst (zD S)) M
  | 0, _, _, _, _, _, _, _, h, _ => by omega
  | f + 1, S, M, c, h, hi, hn, ha, hf, hK => by
    have hn2 : nn ≤ 12 := by rw [← hn]; exact hi.1.1.2
    have ha2 : ar ≤ 500 := by rw [← ha]; exact hi.2.2.1.1
    have hle := zheld_le hi
    have hqs : ∀ y, y < nn → (zR S y).length ≤ 64 := fun y hy => by
      rw [zInv_lenR hi (by omega)]
      have := zlen64 hi (x := y) (by omega)
      omega
    rw [zpass_succ] at hK
    have hend : (∀ M', zMW M0 nn ar (zsL S 0 0 u) M' → K (nI c) M') → wp_X9_passes_b191 K 0 u (nI c) M := fun q => by
      unfold wp_X9_passes_b191
      refine ⟨zvi (by omega) (by omega), ?_⟩
      intro M1 e1
      rw [zcl (by omega)] at e1
      refine q M1 ?_
      rw [e1]
      exact zMW_uL (i := 0) (j := 0) hn2 ha2 (by unfold zokL; omega) h
    unfold wp_X9_passes_L8
    unfold zfirst
    by_cases c1 : (zD S).length = 0
    · rw [if_pos c1] at hK
      rw [if_pos c1, if_pos (by decide)]
      exact hend hK
    · rw [if_neg c1] at hK
      have hx := znx_lt c1
      rw [if_neg c1, if_neg (nI_pos (by omega))]
      have hd := h.2.2.2.2.2.2 _ _ (zget_some hx)
      rw [zm_ho, zad]
      refine ⟨vp_in_nI (by omega) (by omega), ?_⟩
      rw [nI_clamp (by omega), hd.1]
      by_cases c2 : u < (zget (zD S) (znx (zD S))).1
      · rw [if_pos c2] at hK ⊢
        exact hend hK
      · rw [if_neg c2] at hK ⊢
        obtain ⟨hr, hm, h12, h0, hp, hxn⟩ := zturn_may hi c1
        obtain ⟨t1, t2, t3, t4, t5⟩ := zturn_inv hi c1
        have hle2 := zheld_le t1
        rw [zm_ho, zad]
        refine ⟨vp_in_nI (by omega) (by omega), ?_⟩
        intro n42 e42
        rw [nI_clamp (by omega), hd.1] at e42
        subst e42
        rw [zm_ho, zad]
        refine ⟨vp_in_nI (by omega) (by omega), ?_⟩
        intro n57 e57
        rw [nI_clamp (by omega), hd.2.1, lN_i] at e57
        subst e57
        rw [zm_ho, zad]
        refine ⟨vp_in_nI (by omega) (by omega), ?_⟩
        intro n72 e72
        rw [nI_clamp (by omega), hd.2.2, lN_i] at e72
        subst e72
        refine ⟨zvi (by omega) (by omega), zvi (by omega) (by omega), ?_⟩
        intro M1 e1
        rw [zcl (by omega), h.2.2.2.2.2.1, show lN (zD S).length - 1 = lN ((zD S).length - 1) from lN_sub (b := 1) (by omega)] at e1
        rw [zm_ho]
        refine ⟨_, zm_shiftL (L := (zD S).length - 1) (i := znx (zD S)) (M0 := M1) (by omega) (by rw [e1, zuL, if_pos ⟨rfl, rfl, rfl⟩]) (fun M2 m1 m2 m3 => ?_) (7230 + 4 * ((zD S).length - 1) - (7230 + 4 * znx (zD S))) (7230 + 4 * znx (zD S)) M1 (by omega) (by omega) rfl (fun _ _ _ => rfl) (fun b => by rw [if_neg (by omega)])⟩
        have h2 : zMW M0 nn ar (zsD S ((zD S).eraseIdx (znx (zD S)))) M2 := by
          refine ⟨⟨?_, fun k o q1 q2 q3 => ?_⟩, zM_VD (v := M.2 47 0) hn2 ha2 h.2 hqs (fun a q1 q2 q3 => ?_) ?_ (fun j e he => ?_)⟩
          · rw [m1, e1]; exact h.1.1
          · rw [m2 k o (fun z => q1 z.1), e1]
            show (if k = 47 ∧ o = 0 then _ else M.2 k o) = _
            rw [if_neg (fun z => q1 z.1)]; exact h.1.2 k o q1 q2 q3
          · rw [m3, if_neg (by omega), e1, zuL, if_neg (by omega)]
          · rw [m3, if_neg (by omega), e1, zuL, if_pos ⟨rfl, rfl, rfl⟩, List.length_eraseIdx_of_lt hx]
          · have hj : j < (zD S).length - 1 := by
              have := (List.getElem?_eq_some_iff.mp he).1
              rwa [List.length_eraseIdx_of_lt hx] at this
            rw [List.getElem?_eraseIdx] at he
            rw [m3, m3, m3]
            by_cases cj : j < znx (zD S)
            · rw [if_pos cj] at he
              have := h.2.2.2.2.2.2 j e he
              rw [if_neg (by omega), if_neg (by omega), if_neg (by omega), e1, zuL, if_neg (by omega), zuL, if_neg (by omega), zuL, if_neg (by omega)]
              exact this
            · rw [if_neg cj] at he
              have := h.2.2.2.2.2.2 (j + 1) e he
              rw [if_pos (by omega), if_pos (by omega), if_pos (by omega), e1, zuL, if_neg (by omega), zuL, if_neg (by omega), zuL, if_neg (by omega)]
              rw [show 7230 + 4 * j + 0 + 4 = 7230 + 4 * (j + 1) + 0 by omega, show 7230 + 4 * j + 2 + 4 = 7230 + 4 * (j + 1) + 2 by omega, show 7230 + 4 * j + 3 + 4 = 7230 + 4 * (j + 1) + 3 by omega]
              exact this
        rw [zm_nd, zad]
        refine ⟨vp_in_nI (by omega) (by omega), ?_⟩
        intro n141 e141
        rw [nI_clamp (by omega), zm_parent h2.2 ⟨h0, by omega⟩, lN_i] at e141
        subst e141
        rw [zm_nd, zad]
        refine ⟨vp_in_nI (by omega) (by omega), ?_⟩
        rw [nI_clamp (by omega), zm_nweight h2.2 (by omega)]
        have hnl : zN (zsD S ((zD S).eraseIdx (znx (zD S)))) 19 (zN S 18 (zget (zD S) (znx (zD S))).2.1) ≠ 0 := by
          have hpar := hi.1.2.1 _ h0 hxn
          rw [zN_sD, hi.1.2.2.1 _ (by omega)]
          exact zcnt_pos h0 hxn rfl
        have ek : zkey (zsD S ((zD S).eraseIdx (znx (zD S)))) (zN S 18 (zget (zD S) (znx (zD S))).2.1) (zget (zD S) (znx (zD S))).2.1 (zget (zD S) (znx (zD S))).2.2 = (zget (zD S) (znx (zD S))).2.1 := by unfold zkey; rw [if_neg hnl]
        have hgo := zm_climb (K := fun M176 => ∀ n179 : Int32, n179 = nI c + Int32.ofInt (1) → wp_X9_nextHeld 0 M176 (fun r183 M183 => wp_X9_passes_L8 K f 0 u n179 r183 M183)) (wt := lN (zN (zsD S ((zD S).eraseIdx (znx (zD S)))) 14 (zget (zD S) (znx (zD S))).2.1)) (t := (zget (zD S) (znx (zD S))).1) h2 hr hm hn ha (by omega) (by unfold zwt; rw [ek, if_neg hnl]) (fun M3 h3 => ?_)
        · rw [ek] at hgo
          exact hgo
        · intro n179 e179
          rw [zn_p1] at e179
          subst e179
          refine zm_next (S := zturn S) h3.2 (by omega) ?_
          exact zm_passL f (zturn S) M3 (c + 1) h3 t1 ((t2 0 0 (by omega) (by omega)).trans hn) ((t2 1 0 (by omega) (by omega)).trans ha) (by omega) hK
theorem zm_pass {M0 : gM} {nn ar : Nat} {u : Int64} {K : Int32 → gM → Prop} {S : zW} {M : gM} (h : zMW M0 nn ar S M) (hi : zInv S 0 0) (hn : zN S 0 0 = nn) (ha : zN S 1 0 = ar) (hK : ∀ M', zMW M0 nn ar (zpass 800 S u 0).1 M' → K (nI (zpass 800 S u 0).2) M') : wp_X9_passes 0 u M K := by
  have hle := zheld_le hi
  have := zpot704 hi
  unfold wp_X9_passes
  refine zm_next h.2 (by omega) ?_
  exact ⟨800, zm_passL 800 S M 0 h hi hn ha (by omega) hK⟩
