/-! who is released next -/
theorem zperm_erase {α : Type} : ∀ {l : List α} {i : Nat} (hi : i < l.length), (l[i] :: l.eraseIdx i).Perm l
  | [], i, hi => absurd hi (by simp)
  | a :: l, 0, hi => List.Perm.refl _
  | a :: l, i + 1, hi => by
    have := zperm_erase (l := l) (i := i) (by simpa using hi)
    simp only [List.getElem_cons_succ, List.eraseIdx_cons_succ]
    exact (List.Perm.swap _ _ _).trans (this.cons a)
theorem znxB_lt : ∀ (l : List zH) (i b : Nat) (rb : Int64), b < i → znxB l i b rb < i + l.length
  | [], i, b, rb, h => by simpa [znxB] using h
  | a :: l, i, b, rb, h => by
    unfold znxB
    simp only [List.length_cons]
    split
    · have := znxB_lt l (i + 1) i a.1 (by omega); omega
    · have := znxB_lt l (i + 1) b rb (by omega); omega
theorem znx_lt {d : List zH} (h : d.length ≠ 0) : znx d < d.length := by
  match d, h with
  | a :: l, _ =>
    have := znxB_lt l 1 0 a.1 (by omega)
    unfold znx
    simp only [List.length_cons]
    omega
theorem zget_some {d : List zH} {i : Nat} (h : i < d.length) : d[i]? = some (zget d i) := by
  unfold zget
  rw [List.getD_eq_getElem?_getD, List.getElem?_eq_getElem h]; rfl
theorem znxB_min (d : List zH) : ∀ (l : List zH) (i b : Nat), b < i → d.drop i = l → i ≤ d.length → (∀ j, j < i → ¬ (zget d j).1 < (zget d b).1) → ∀ j, j < d.length → ¬ (zget d j).1 < (zget d (znxB l i b (zget d b).1)).1
  | [], i, b, hb, hd, hi, hm => fun j hj => by
    have : d.length ≤ i := List.drop_eq_nil_iff.mp hd
    exact hm j (by omega)
  | a :: l, i, b, hb, hd, hi, hm => by
    have hil : i < d.length := by
      by_cases c : i < d.length
      · exact c
      · rw [List.drop_eq_nil_of_le (by omega)] at hd; cases hd
    rw [List.drop_eq_getElem_cons hil] at hd
    injection hd with e1 e2
    have ea : zget d i = a := by
      have := zget_some hil
      rw [List.getElem?_eq_getElem hil, e1] at this
      exact (Option.some.inj this).symm
    unfold znxB
    by_cases c : a.1 < (zget d b).1
    · rw [if_pos c]
      have := znxB_min d l (i + 1) i (by omega) e2 (by omega) (fun j hj => ?_)
      · rw [ea] at this; exact this
      · by_cases cj : j = i
        · subst cj; rw [zl_lt]; omega
        · have := hm j (by omega)
          rw [ea]
          rw [zl_lt] at *
          omega
    · rw [if_neg c]
      refine znxB_min d l (i + 1) b (by omega) e2 (by omega) (fun j hj => ?_)
      by_cases cj : j = i
      · subst cj; rw [ea]; exact c
      · exact hm j (by omega)
theorem znx_min {d : List zH} {j : Nat} (hj : j < d.length) : ¬ (zget d j).1 < (zget d (znx d)).1 := by
  match d, hj with
  | a :: l, hj =>
    have := znxB_min (a :: l) l 1 0 (by omega) rfl (by simp) (fun j hj => by
      have : j = 0 := by omega
      subst this
      rw [zl_lt]; omega) j hj
    exact this
theorem zx_earliestL {w : Nat} {M : gM} {d : List zH} {K : Int32 → gM → Prop} (hl : d.length ≤ 64) (h1 : M.1 2 w 0 = nI d.length) (h2 : ∀ i e, d[i]? = some e → M.2 21 w i = e.1) {res : Nat} (hK : K (nI res) M) : ∀ (n i b : Nat), i + n = d.length → b < i → znxB (d.drop i) i b (zget d b).1 = res → wp_X2_earliest_L4 K (n + 1) w (nI b) (nI i) M
  | 0, i, b, e, hb, hr => by
    unfold wp_X2_earliest_L4
    rw [h1, if_pos (nI_le (by omega) (by omega))]
    rw [List.drop_eq_nil_of_le (by omega)] at hr
    have : b = res := hr
    rw [this]; exact hK
  | n + 1, i, b, e, hb, hr => by
    have hi : i < d.length := by omega
    unfold wp_X2_earliest_L4
    rw [h1, if_neg (nI_ge hi (by omega)), if_neg (zk_nle (c := 64) (a := 64) rfl (by omega) (by omega)), if_neg (nI_pos (by omega))]
    refine ⟨vp_in_nI (by omega) (by omega), vp_in_nI (by omega) (by omega), ?_⟩
    rw [nI_clamp (by omega), nI_clamp (by omega), h2 i _ (zget_some hi), h2 b _ (zget_some (by omega))]
    rw [List.drop_eq_getElem_cons hi] at hr
    have ea : d[i] = zget d i := by
      have := zget_some hi
      rw [List.getElem?_eq_getElem hi] at this
      exact Option.some.inj this
    rw [ea] at hr
    unfold znxB at hr
    by_cases c : (zget d i).1 < (zget d b).1
    · rw [if_pos c] at hr
      rw [if_neg (fun q => zl_le.mp q c)]
      unfold wp_X2_earliest_b38
      intro n40 e40
      rw [zn_p1] at e40
      subst e40
      exact zx_earliestL hl h1 h2 hK n (i + 1) i (by omega) (by omega) hr
    · rw [if_neg c] at hr
      rw [if_pos (zl_le.mpr c)]
      intro n40 e40
      rw [zn_p1] at e40
      subst e40
      exact zx_earliestL hl h1 h2 hK n (i + 1) b (by omega) (by omega) hr
def zfirst (d : List zH) : Int32 := if d.length = 0 then -1 else nI (znx d)
theorem zx_earliest {w nn ar : Nat} {M : gM} {S : zW} {K : Int32 → gM → Prop} (h : zC w nn ar M S) (hl : (zD S).length ≤ 64) (hK : K (zfirst (zD S)) M) : wp_X2_earliest w M K := by
  have hd := h.2.2.2.2
  unfold zfirst at hK
  by_cases c : (zD S).length = 0
  · rw [if_pos c] at hK
    refine ⟨1, ?_⟩
    unfold wp_X2_earliest_L4
    rw [hd.1, c, if_pos (by decide)]
    exact hK
  · rw [if_neg c] at hK
    refine ⟨(zD S).length + 1, ?_⟩
    obtain ⟨n, hn⟩ : ∃ n, (zD S).length = n + 1 := ⟨(zD S).length - 1, by omega⟩
    rw [hn]
    unfold wp_X2_earliest_L4
    rw [hd.1, if_neg (by rw [hn]; exact zk_nle2 (c := 0) (a := 0) rfl (by omega) (by omega)), if_neg (by decide), if_pos (by decide)]
    unfold wp_X2_earliest_b38
    intro n40 e40
    have : n40 = nI 1 := e40
    subst this
    refine zx_earliestL hl hd.1 (fun i e he => (hd.2 i e he).1) hK n 1 0 (by omega) (by omega) ?_
    match hz : zD S, hn with
    | a :: l, _ => rfl
theorem zx_remove {M0 : gM} {w nn ar i : Nat} {M : gM} {S : zW} {K : gM → Prop} (h : zCW M0 w nn ar S M) (hl : (zD S).length ≤ 64) (hi : i < (zD S).length) (hK : ∀ M', zCW M0 w nn ar (zsD S ((zD S).eraseIdx i)) M' → K M') : wp_X2_remove w (nI i) M K := by
  have hd := h.2.2.2.2.2
  unfold wp_X2_remove
  rw [hd.1, if_neg (nI_pos (by omega)), if_neg (nI_ge hi (by omega)), if_pos (zk_le (c := 64) (a := 64) rfl hl (by omega))]
  intro M1 e1
  rw [zn_s1 (by omega)] at e1
  have s1 : M1.1 2 w 0 = nI ((zD S).length - 1) := by rw [e1, zuI, if_pos ⟨rfl, rfl, rfl⟩]
  have a1 : nI i + 1 = nI (i + 1) := nI_add i 1
  rw [s1, zn_sub (by omega), a1, nI_clamp (by omega), nI_clamp (by omega), nI_clamp (by omega)]
  refine ⟨nI_pos (by omega), nI_pos (by omega), nI_pos (by omega), by omega, by omega, ?_⟩
  intro M2 e2
  have s2 : M2.1 2 w 0 = nI ((zD S).length - 1) := by rw [e2, zcI, if_neg (by omega)]; exact s1
  rw [s2, zn_sub (by omega), nI_clamp (by omega)]
  refine ⟨nI_pos (by omega), nI_pos (by omega), nI_pos (by omega), by omega, by omega, ?_⟩
  intro M3 e3
  have s3 : M3.1 2 w 0 = nI ((zD S).length - 1) := by rw [e3, zcI, if_neg (by omega)]; exact s2
  rw [s3, zn_sub (by omega), nI_clamp (by omega)]
  refine ⟨nI_pos (by omega), nI_pos (by omega), nI_pos (by omega), by omega, by omega, ?_⟩
  intro M4 e4
  refine hK M4 (zCW_SD h ?_ ?_ (fun j e he => ?_))
  · rw [e4, e3, e2, e1]
    exact zSD_trans (zSD_trans (zSD_trans (zSD_uI (Or.inl rfl)) (zSD_cI (Or.inl rfl))) (zSD_cI (Or.inr rfl))) zSD_cL
  · rw [e4]
    show M3.1 2 w 0 = _
    rw [s3, List.length_eraseIdx_of_lt hi]
  · have hj : j < (zD S).length - 1 := by
      have := (List.getElem?_eq_some_iff.mp he).1
      rwa [List.length_eraseIdx_of_lt hi] at this
    rw [List.getElem?_eraseIdx] at he
    rw [e4, e3, e2, e1]
    simp only [zuI, zuL, zuI2, zuL1, zcI, zcL, zcI2, zcL1]
    by_cases c : j < i
    · rw [if_pos c] at he
      have := hd.2 j e he
      have n1 : ¬ i ≤ j := by omega
      simpa [n1] using this
    · rw [if_neg c] at he
      have := hd.2 (j + 1) e he
      have n1 : i ≤ j := by omega
      have n2 : j < i + ((zD S).length - 1 - i) := by omega
      have n3 : i + 1 + (j - i) = j + 1 := by omega
      simpa [n1, n2, n3] using this
/-! what a release does to what always holds -/
theorem zrel_inv {S : zW} {i : Nat} (h : zInv S 0 0) (hi : i < (zD S).length) : zInv (zsD S ((zD S).eraseIdx i)) (zget (zD S) i).2.1 0 := by
  obtain ⟨hP, hF, hK, hQ, hC, hH, hW⟩ := h
  have hg : (zD S)[i] = zget (zD S) i := by
    have := zget_some hi
    rw [List.getElem?_eq_getElem hi] at this
    exact Option.some.inj this
  have hperm : (zget (zD S) i :: (zD S).eraseIdx i).Perm (zD S) := by
    rw [← hg]; exact zperm_erase hi
  refine ⟨hP, hF, hK, hQ, fun y a b => ?_, fun e he => hH e (List.mem_of_mem_eraseIdx he), hW⟩
  have := hC y a b
  unfold zci zch at this ⊢
  show (zQ S y).length = (zQ S (zN S 18 y)).countP (fun e => e.1 == y) + ((zD S).eraseIdx i).countP (fun h => h.2.1 == y) + _
  rw [this, ← hperm.countP_eq, List.countP_cons]
  have n0 : ¬ y = 0 := by omega
  by_cases c : y = (zget (zD S) i).2.1
  · rw [if_pos c, ← c]
    simp [n0]
    omega
  · have c' : ¬ (zget (zD S) i).2.1 = y := fun q => c q.symm
    simp [n0, c, c']
/-! how long releasing may go on -/
def zpot (d : List zH) : Nat := (d.map (fun h => h.2.1)).sum
theorem zpot_erase {d : List zH} {i : Nat} (hi : i < d.length) : zpot (d.eraseIdx i) + (zget d i).2.1 = zpot d := by
  have hg : d[i] = zget d i := by
    have := zget_some hi
    rw [List.getElem?_eq_getElem hi] at this
    exact Option.some.inj this
  have hperm : (zget d i :: d.eraseIdx i).Perm d := by
    rw [← hg]; exact zperm_erase hi
  have := (hperm.map (fun h => h.2.1)).sum_nat
  unfold zpot
  rw [← this]
  simp
  omega
theorem zpot_le : ∀ (d : List zH), (∀ h ∈ d, h.2.1 ≤ 11) → zpot d ≤ 11 * d.length
  | [], _ => by simp [zpot]
  | a :: d, h => by
    have := zpot_le d (fun e he => h e (List.mem_cons_of_mem _ he))
    have := h a List.mem_cons_self
    unfold zpot at *
    simp
    omega
theorem zclimb_pot : ∀ (F : Nat) (S : zW) (o wd x item p : Nat) (t : Int64), zInv S o wd → zmay S o wd x item p → x < F → zpot (zD (zclimb F S x item p t)) ≤ zpot (zD S) + x ∧ zL (zclimb F S x item p t) 0 0 = zL S 0 0
  | 0, _, _, _, _, _, _, _, _, _, h => by omega
  | F + 1, S, o, wd, x, item, p, t, h, hm, hf => by
    have hT := zenter_inv (t := t) h hm
    have eT : zL (zenter S x item p t) 0 0 = zL S 0 0 := by
      unfold zenter zst
      split <;> simp [zL_sN, zL_sQ, zL_sL]
    have eU : zL (zshape (zenter S x item p t) x p t) 0 0 = zL S 0 0 := by
      rw [← eT]
      unfold zshape
      split <;> simp [zL_sL]
    rw [zclimb_succ]
    unfold zrest
    by_cases c : x = 0
    · subst c
      rw [if_pos rfl, zen_D]
      exact ⟨by omega, eT⟩
    · rw [if_neg c]
      have hx' : x < zN (zenter S x item p t) 0 0 := by rw [zen_N (by omega)]; exact hm.1
      have hp' : p < zN (zenter S x item p t) 1 0 := by rw [zen_N (by omega)]; exact hm.2.1
      by_cases c2 : t < zrel (zenter S x item p t) x t
      · rw [if_pos c2, zD_sD, zen_D]
        refine ⟨?_, eU⟩
        unfold zpot
        simp
      · rw [if_neg c2]
        have hU := zsh_inv (p := p) (x := x) (t := t) hT
        have hm' := zmay_up (p := p) hU (by omega) (by rw [zsh_N.1]; exact hx') (by rw [zsh_N.1]; exact hp')
        rw [zsh_N.1] at hm'
        have hpar := h.1.2.1 x (by omega) hm.1
        rw [zen_N (by omega)] at hm' ⊢
        obtain ⟨i1, i2⟩ := zclimb_pot F _ x 0 (zN S 18 x) x p t hU hm' (by omega)
        rw [zsh_N.2.2.2, zen_D] at i1
        exact ⟨by omega, i2.trans eU⟩
/-- one turn of passing -/
def zturn (S : zW) : zW := zclimb 12 (zsD S ((zD S).eraseIdx (znx (zD S)))) (zN S 18 (zget (zD S) (znx (zD S))).2.1) (zget (zD S) (znx (zD S))).2.1 (zget (zD S) (znx (zD S))).2.2 (zget (zD S) (znx (zD S))).1
theorem zpass_succ {f : Nat} {S : zW} {u : Int64} {c : Nat} : zpass (f + 1) S u c = if (zD S).length = 0 then (zsL S 0 0 u, c) else if u < (zget (zD S) (znx (zD S))).1 then (zsL S 0 0 u, c) else zpass f (zturn S) u (c + 1) := rfl
theorem zturn_may {S : zW} (h : zInv S 0 0) (hd : (zD S).length ≠ 0) : zInv (zsD S ((zD S).eraseIdx (znx (zD S)))) (zget (zD S) (znx (zD S))).2.1 0 ∧ zmay (zsD S ((zD S).eraseIdx (znx (zD S)))) (zget (zD S) (znx (zD S))).2.1 0 (zN S 18 (zget (zD S) (znx (zD S))).2.1) (zget (zD S) (znx (zD S))).2.1 (zget (zD S) (znx (zD S))).2.2 ∧ (zget (zD S) (znx (zD S))).2.1 < 12 ∧ 0 < (zget (zD S) (znx (zD S))).2.1 ∧ (zget (zD S) (znx (zD S))).2.2 < zN S 1 0 ∧ (zget (zD S) (znx (zD S))).2.1 < zN S 0 0 := by
  have hi := znx_lt hd
  have hr := zrel_inv h hi
  have hm := h.2.2.2.2.2.1 _ (List.mem_of_getElem? (zget_some hi))
  have hn := h.1.1.2
  exact ⟨hr, zmay_up hr hm.1 hm.2.1 hm.2.2, by omega, hm.1, hm.2.2, hm.2.1⟩
theorem zturn_inv {S : zW} (h : zInv S 0 0) (hd : (zD S).length ≠ 0) : zInv (zturn S) 0 0 ∧ zsameN S (zturn S) ∧ zN (zturn S) 21 0 = zN S 21 0 ∧ zpot (zD (zturn S)) < zpot (zD S) ∧ zL (zturn S) 0 0 = zL S 0 0 := by
  obtain ⟨hr, hm, h12, h0, _, hx⟩ := zturn_may h hd
  have hpar := h.1.2.1 _ h0 hx
  obtain ⟨i1, i2, i3⟩ := zclimb_inv 12 _ _ _ _ _ _ (zget (zD S) (znx (zD S))).1 hr hm (by omega)
  obtain ⟨j1, j2⟩ := zclimb_pot 12 _ _ _ _ _ _ (zget (zD S) (znx (zD S))).1 hr hm (by omega)
  have := zpot_erase (znx_lt hd)
  rw [zD_sD] at j1
  unfold zturn
  exact ⟨i1, fun i j a b => i2 i j a b, i3, by omega, j2⟩
theorem zpass_inv : ∀ (f : Nat) (S : zW) (u : Int64) (c : Nat), zInv S 0 0 → zpot (zD S) < f → zInv (zpass f S u c).1 0 0 ∧ zsameN S (zpass f S u c).1 ∧ zN (zpass f S u c).1 21 0 = zN S 21 0 ∧ zL (zpass f S u c).1 0 0 = u ∧ (∀ h ∈ zD (zpass f S u c).1, u < h.1) ∧ (zpass f S u c).2 + zpot (zD (zpass f S u c).1) ≤ c + zpot (zD S)
  | 0, _, _, _, _, h => by omega
  | f + 1, S, u, c, h, hf => by
    rw [zpass_succ]
    by_cases c1 : (zD S).length = 0
    · rw [if_pos c1]
      refine ⟨zInv_sL h, fun _ _ _ _ => rfl, rfl, by simp [zL_sL], fun e he => ?_, Nat.le_refl _⟩
      have : zD S = [] := List.eq_nil_of_length_eq_zero c1
      have he : e ∈ zD S := he
      rw [this] at he
      cases he
    · rw [if_neg c1]
      by_cases c2 : u < (zget (zD S) (znx (zD S))).1
      · rw [if_pos c2]
        refine ⟨zInv_sL h, fun _ _ _ _ => rfl, rfl, by simp [zL_sL], fun e he => ?_, Nat.le_refl _⟩
        have he : e ∈ zD S := he
        obtain ⟨j, hj, ej⟩ := List.getElem_of_mem he
        have := znx_min hj
        have eg : zget (zD S) j = e := by
          have := zget_some hj
          rw [List.getElem?_eq_getElem hj, ej] at this
          exact (Option.some.inj this).symm
        rw [eg] at this
        rw [zl_lt] at *
        omega
      · rw [if_neg c2]
        obtain ⟨t1, t2, t3, t4, t5⟩ := zturn_inv h c1
        obtain ⟨p1, p2, p3, p4, p5, p6⟩ := zpass_inv f (zturn S) u (c + 1) t1 (by omega)
        exact ⟨p1, fun i j a b => (p2 i j a b).trans (t2 i j a b), p3.trans t3, p4, p5, by omega⟩
theorem zpot704 {S : zW} {o wd : Nat} (h : zInv S o wd) : zpot (zD S) ≤ 704 := by
  have hn := h.1.1.2
  have := zpot_le (zD S) (fun e he => by have := h.2.2.2.2.2.1 e he; omega)
  have := zheld_le h
  omega
theorem zc_passL {M0 : gM} {w nn ar : Nat} {u : Int64} {K : Int32 → gM → Prop} : ∀ (f : Nat) (S : zW) (M : gM) (c : Nat), zCW M0 w nn ar S M → zInv S 0 0 → zN S 0 0 = nn → zN S 1 0 = ar → zpot (zD S) < f → c + zpot (zD S) ≤ 704 → ¬ u < zL S 0 0 → (∀ M', zCW M0 w nn ar (zpass f S u c).1 M' → K (nI (zpass f S u c).2) M') → wp_X7_passUntil_L11 K f w u (nI c) (zfirst (zD S)) M
  | 0, _, _, _, _, _, _, _, h, _, _, _ => by omega
  | f + 1, S, M, c, h, hi, hn, ha, hf, hc, hu, hK => by
    have hn2 : nn ≤ 12 := by rw [← hn]; exact hi.1.1.2
    have ha2 : ar ≤ 500 := by rw [← ha]; exact hi.2.2.1.1
    have hle := zheld_le hi
    rw [zpass_succ] at hK
    have hend : (∀ M', zCW M0 w nn ar (zsL S 0 0 u) M' → K (nI c) M') → wp_X7_passUntil_b130 K w u (nI c) M := fun q => by
      unfold wp_X7_passUntil_b130
      intro M1 e1
      rw [zc_time h.2, if_neg hu] at e1
      refine q M1 ?_
      rw [e1]
      exact zCW_uL (i := 0) (j := 0) (by omega) (by omega) (by omega) h
    unfold wp_X7_passUntil_L11
    unfold zfirst
    by_cases c1 : (zD S).length = 0
    · rw [if_pos c1] at hK
      rw [if_pos c1, if_pos (by decide)]
      exact hend hK
    · rw [if_neg c1] at hK
      have hx := znx_lt c1
      rw [if_neg c1, if_neg (nI_pos (by omega))]
      have v : vp_in (nI (znx (zD S))) 64 := vp_in_nI (by omega) (by omega)
      refine ⟨v, ?_⟩
      have hd := h.2.2.2.2.2.2 _ _ (zget_some hx)
      rw [nI_clamp (by omega), hd.1]
      by_cases c2 : u < (zget (zD S) (znx (zD S))).1
      · rw [if_pos c2] at hK ⊢
        exact hend hK
      · rw [if_neg c2] at hK ⊢
        obtain ⟨hr, hm, h12, h0, hp, hxn⟩ := zturn_may hi c1
        have hpe := zpot_erase hx
        rw [if_neg (zk_nle (c := 768) (a := 768) rfl (by omega) (by omega))]
        refine ⟨v, ?_⟩
        intro n48 e48
        refine ⟨v, ?_⟩
        intro n60 e60
        refine ⟨v, ?_⟩
        intro n72 e72
        rw [hd.2.1] at e48
        rw [hd.2.2] at e60
        subst e48; subst e60; subst e72
        refine zx_remove h (by omega) hx (fun M1 h1 => ?_)
        refine zx_hasNode h1.2 hn hn2 (by omega) ?_
        rw [if_pos (show (zget (zD S) (znx (zD S))).2.1 < nn by omega), if_neg (by decide)]
        refine ⟨vp_in_nI (by omega) (by omega), ?_⟩
        rw [nI_clamp (by omega), zc_parent h1.2 h0 (by omega)]
        refine zc_climb h1 hr hm hn ha (by omega) (fun M2 h2 => ?_)
        obtain ⟨t1, t2, t3, t4, t5⟩ := zturn_inv hi c1
        have hle2 := zheld_le t1
        unfold wp_X7_passUntil_b115
        intro n115 e115
        rw [zn_p1] at e115
        subst e115
        refine zx_earliest (S := zturn S) h2.2 (by omega) ?_
        exact zc_passL f (zturn S) M2 (c + 1) h2 t1 ((t2 0 0 (by omega) (by omega)).trans hn) ((t2 1 0 (by omega) (by omega)).trans ha) (by omega) (by omega) (by rw [t5]; exact hu) hK
theorem zc_pass {M0 : gM} {w nn ar : Nat} {u : Int64} {K : Int32 → gM → Prop} {S : zW} {M : gM} (h : zCW M0 w nn ar S M) (hi : zInv S 0 0) (hn : zN S 0 0 = nn) (ha : zN S 1 0 = ar) (hu : ¬ u < zL S 0 0) (hK : ∀ M', zCW M0 w nn ar (zpass 800 S u 0).1 M' → K (nI (zpass 800 S u 0).2) M') : wp_X7_passUntil w u M K := by
  have hle := zheld_le hi
  have := zpot704 hi
  unfold wp_X7_passUntil
  refine zx_earliest h.2 (by omega) ?_
  exact ⟨800, zc_passL 800 S M 0 h hi hn ha (by omega) (by omega) hu hK⟩
