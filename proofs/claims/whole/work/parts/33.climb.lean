/-! shaping -/
theorem zInv_sL {S : zW} {o wd i j : Nat} {v : Int64} (h : zInv S o wd) : zInv (zsL S i j v) o wd := h
theorem zsh_N {S : zW} {x p : Nat} {t : Int64} : zN (zshape S x p t) = zN S ∧ zQ (zshape S x p t) = zQ S ∧ zR (zshape S x p t) = zR S ∧ zD (zshape S x p t) = zD S := by
  unfold zshape
  split <;> exact ⟨rfl, rfl, rfl, rfl⟩
theorem zsh_inv {S : zW} {o wd x p : Nat} {t : Int64} (h : zInv S o wd) : zInv (zshape S x p t) o wd := by
  unfold zshape
  split
  · exact h
  · exact zInv_sL h
def zrest (F : Nat) (T : zW) (x p : Nat) (t : Int64) : zW := if x = 0 then T else if t < zrel T x t then zsD (zshape T x p t) (zD T ++ [(zrel T x t, x, p)]) else zclimb F (zshape T x p t) (zN T 18 x) x p t
theorem zclimb_succ {F : Nat} {S : zW} {x item p : Nat} {t : Int64} : zclimb (F + 1) S x item p t = zrest F (zenter S x item p t) x p t := by
  unfold zrest
  rw [zen_D, zen_N (by omega)]
  rfl
theorem zhold_inv {S : zW} {x p : Nat} {r : Int64} (h : zInv S x 0) (h0 : 0 < x) (hx : x < zN S 0 0) (hp : p < zN S 1 0) : zInv (zsD S (zD S ++ [(r, x, p)])) 0 0 := by
  obtain ⟨hP, hF, hK, hQ, hC, hH, hW⟩ := h
  refine ⟨hP, hF, hK, hQ, fun y a b => ?_, fun e he => ?_, hW⟩
  · have := hC y a b
    unfold zci zch at this ⊢
    show (zQ S y).length = (zQ S (zN S 18 y)).countP (fun e => e.1 == y) + (zD S ++ [(r, x, p)]).countP (fun h => h.2.1 == y) + _
    rw [List.countP_append, this]
    have n0 : ¬ y = 0 := by omega
    by_cases c : y = x
    · subst c
      simp [n0]; omega
    · have c' : ¬ x = y := fun q => c q.symm
      simp [c, n0, c']
  · rcases List.mem_append.mp he with he | he
    · exact hH e he
    · rw [List.mem_singleton] at he
      subst he
      exact ⟨h0, hx, hp⟩
theorem zmay_up {S : zW} {x p : Nat} (h : zInv S x 0) (h0 : 0 < x) (hx : x < zN S 0 0) (hp : p < zN S 1 0) : zmay S x 0 (zN S 18 x) x p := by
  have := h.1.2.1 x h0 hx
  exact ⟨by omega, hp, Or.inr ⟨by rw [h.1.2.2.1 _ (by omega)]; exact zcnt_pos h0 hx rfl, rfl, h0, hx, rfl, rfl⟩⟩
theorem zclimb_inv : ∀ (F : Nat) (S : zW) (o wd x item p : Nat) (t : Int64), zInv S o wd → zmay S o wd x item p → x < F → zInv (zclimb F S x item p t) 0 0 ∧ zsameN S (zclimb F S x item p t) ∧ zN (zclimb F S x item p t) 21 0 = zN S 21 0
  | 0, _, _, _, _, _, _, _, _, _, h => by omega
  | F + 1, S, o, wd, x, item, p, t, h, hm, hf => by
    have hT := zenter_inv (t := t) h hm
    rw [zclimb_succ]
    unfold zrest
    by_cases c : x = 0
    · subst c
      rw [if_pos rfl]
      exact ⟨hT, zen_same, zen_N (by omega)⟩
    · rw [if_neg c]
      have hx' : x < zN (zenter S x item p t) 0 0 := by rw [zen_N (by omega)]; exact hm.1
      have hp' : p < zN (zenter S x item p t) 1 0 := by rw [zen_N (by omega)]; exact hm.2.1
      by_cases c2 : t < zrel (zenter S x item p t) x t
      · rw [if_pos c2]
        have hz := zhold_inv (r := zrel (zenter S x item p t) x t) (zsh_inv (p := p) (x := x) (t := t) hT) (by omega) (by rw [zsh_N.1]; exact hx') (by rw [zsh_N.1]; exact hp')
        rw [zsh_N.2.2.2] at hz
        refine ⟨hz, fun i j a b => ?_, ?_⟩
        · rw [zN_sD, zsh_N.1]; exact zen_same i j a b
        · rw [zN_sD, zsh_N.1]; exact zen_N (by omega)
      · rw [if_neg c2]
        have hU := zsh_inv (p := p) (x := x) (t := t) hT
        have hm' := zmay_up (p := p) hU (by omega) (by rw [zsh_N.1]; exact hx') (by rw [zsh_N.1]; exact hp')
        rw [zsh_N.1] at hm'
        have hpar := h.1.2.1 x (by omega) hm.1
        rw [zen_N (by omega)] at hm' ⊢
        obtain ⟨i1, i2, i3⟩ := zclimb_inv F _ x 0 (zN S 18 x) x p t hU hm' (by omega)
        refine ⟨i1, fun i j a b => ?_, ?_⟩
        · rw [i2 i j a b, zsh_N.1]; exact zen_same i j a b
        · rw [i3, zsh_N.1]; exact zen_N (by omega)
theorem zmx_eq {a b : Int64} : (if a < b then b else a) = zmx a b := by
  unfold zmx
  by_cases c : a < b
  · rw [if_pos c, if_neg (by rw [zl_lt] at c ⊢; omega)]
  · rw [if_neg c]
    by_cases c2 : b < a
    · rw [if_pos c2]
    · rw [if_neg c2]; exact zl_anti c c2
theorem zx_unitsUp {len rate : Nat} {M : gM} {K : Int64 → gM → Prop} (hl : len < 2 ^ 31) (h1 : 1 ≤ rate) (h2 : rate < 2 ^ 31) (hK : K (zup len rate) M) : wp_X7_unitsUp (nI len) (nI rate) M K := by
  unfold wp_X7_unitsUp
  rw [if_pos (zk_le2 (c := 1) (a := 1) rfl h1 h2), nI_l hl, nI_l h2]
  exact ⟨zj_ne (c := 0) (a := 0) rfl (by omega) (by omega) h2, hK⟩
theorem zx_shape {M0 : gM} {w nn ar x p : Nat} {t : Int64} {M : gM} {S : zW} {K : Int64 → gM → Prop} (h : zCW M0 w nn ar S M) (hn2 : nn ≤ 12) (hx : x < nn) (hl : zN S 16 p < 2 ^ 31) (hr : zN S 9 x ≤ 9999) (hb : zN S 10 x ≤ 9999) (hK : ∀ M', zCW M0 w nn ar (zshape S x p t) M' → (∀ j, j < 3 → M'.2 10 0 j = M.2 10 0 j) → K (zrel S x t) M') : wp_X7_shape w (nI x) (nI (zN S 16 p)) t M K := by
  unfold wp_X7_shape
  refine ⟨vp_in_nI (by omega) (by omega), ?_⟩
  intro n9 e9
  rw [nI_clamp (by omega), zc_rate h.2 hx] at e9
  subst e9
  unfold zshape zrel at hK
  by_cases c : zN S 9 x = 0
  · rw [if_pos c, if_pos c] at hK
    rw [c, if_neg (by decide)]
    exact hK M h (fun _ _ => rfl)
  · rw [if_neg c, if_neg c] at hK
    rw [if_pos (zk_le2 (c := 1) (a := 1) rfl (by omega) (by omega))]
    refine ⟨vp_in_nI (by omega) (by omega), ?_⟩
    intro n28 e28
    rw [nI_clamp (by omega), zc_mark h.2 hx] at e28
    subst e28
    refine ⟨vp_in_nI (by omega) (by omega), ?_⟩
    refine zx_unitsUp hl (by omega) (by omega) ?_
    intro M1 e1
    rw [nI_clamp (by omega)] at e1
    have h1 : zCW M0 w nn ar (zsL S 3 x (zmx (zL S 3 x) t + zup (zN S 16 p) (zN S 9 x))) M1 := by
      rw [e1]
      exact zCW_uL (i := 3) (j := x) (by omega) (by omega) (by omega) h
    refine ⟨vp_in_nI (by omega) (by omega), ?_⟩
    rw [nI_clamp (by omega), zc_burst h1.2 hx (by show 0 < zN S 9 x; omega), zN_sL, nI_l (by omega), nI_l (by omega)]
    refine ⟨zj_ne (c := 0) (a := 0) rfl (by omega) (by omega) (by omega), ?_⟩
    rw [zmx_eq]
    refine hK M1 h1 (fun j hj => ?_)
    rw [e1, zuL, if_neg (by omega)]
theorem zx_add {M0 : gM} {w nn ar x p : Nat} {r : Int64} {M : gM} {S : zW} {K : gM → Prop} (h : zCW M0 w nn ar S M) (hl : (zD S).length < 64) (hK : ∀ M', zCW M0 w nn ar (zsD S (zD S ++ [(r, x, p)])) M' → K M') : wp_X2_add w (nI x) (nI p) r M K := by
  unfold wp_X2_add
  have hd := h.2.2.2.2.2
  rw [hd.1, if_neg (nI_pos (by omega)), if_pos (zk_lt (c := 64) (a := 64) rfl hl (by omega))]
  have hv : vp_in (nI (zD S).length) 64 := vp_in_nI hl (by omega)
  refine ⟨hv, ?_⟩
  intro M1 e1
  rw [nI_clamp (by omega)] at e1
  have r1 : M1.1 2 w 0 = nI (zD S).length := by rw [e1, zuI, if_neg (by omega)]; exact hd.1
  rw [r1]
  refine ⟨hv, ?_⟩
  intro M2 e2
  rw [nI_clamp (by omega)] at e2
  have r2 : M2.1 2 w 0 = nI (zD S).length := by rw [e2, zuI, if_neg (by omega)]; exact r1
  rw [r2]
  refine ⟨hv, ?_⟩
  intro M3 e3 M4 e4
  rw [nI_clamp (by omega)] at e3
  have r3 : M3.1 2 w 0 = nI (zD S).length := by rw [e3]; exact r2
  rw [r3, nI_1] at e4
  refine hK M4 (zCW_SD h ?_ ?_ (fun i e he => ?_))
  · rw [e4, e3, e2, e1]
    exact zSD_trans (zSD_trans (zSD_trans (zSD_uI (Or.inr (Or.inl rfl))) (zSD_uI (Or.inr (Or.inr rfl)))) zSD_uL) (zSD_uI (Or.inl rfl))
  · rw [e4, zuI, if_pos ⟨rfl, rfl, rfl⟩]; simp
  · have hR : (zD S)[i]? = some e ∨ (i = (zD S).length ∧ e = (r, x, p)) := by
      by_cases c : i < (zD S).length
      · left
        rw [List.getElem?_append_left c] at he; exact he
      · right
        rw [List.getElem?_append_right (by omega)] at he
        have : i - (zD S).length = 0 := by
          have := (List.getElem?_eq_some_iff.mp he).1
          simp at this; omega
        rw [this] at he
        simp at he
        exact ⟨by omega, he.symm⟩
    rw [e4, e3, e2, e1]
    simp only [zuI, zuL, zuI2, zuL1]
    rcases hR with hR | ⟨rfl, rfl⟩
    · have hi := (List.getElem?_eq_some_iff.mp hR).1
      have := hd.2 i e hR
      have n1 : ¬ i = (zD S).length := by omega
      simpa [n1] using this
    · simp
theorem zc_climbL {M0 : gM} {w nn ar : Nat} {K : gM → Prop} : ∀ (F : Nat) (S : zW) (M : gM) (x item p : Nat) (t : Int64) (l o wd : Nat), zCW M0 w nn ar S M → zInv S o wd → zmay S o wd x item p → zN S 0 0 = nn → zN S 1 0 = ar → x < F → x + l ≤ 11 → item < 2 ^ 31 → (M.2 10 0 0 = zpr S p ∧ M.2 10 0 1 = zln S p ∧ M.2 10 0 2 = zL S 7 p) → (∀ M', zCW M0 w nn ar (zclimb F S x item p t) M' → K M') → wp_X7_climb_L57 K (F + 1) w (nI p) t (nI x) (nI item) (nI l) M
  | 0, _, _, _, _, _, _, _, _, _, _, _, _, _, _, h, _, _, _, _ => by omega
  | F + 1, S, M, x, item, p, t, l, o, wd, h, hi, hm, hn, ha, hf, hl, hit, hv, hK => by
    have hn2 : nn ≤ 12 := by rw [← hn]; exact hi.1.1.2
    have ha2 : ar ≤ 500 := by rw [← ha]; exact hi.2.2.1.1
    have hx : x < nn := by rw [← hn]; exact hm.1
    have hp : p < ar := by rw [← ha]; exact hm.2.1
    have hE := zmay_En hi hm
    rw [hn] at hE
    have hT := zenter_inv (t := t) hi hm
    have hq := hi.2.2.2.1 x hm.1
    unfold wp_X7_climb_L57
    rw [if_neg (zk_nle (c := 12) (a := 12) rfl (by omega) (by omega))]
    refine zx_hasNode h.2 hn hn2 (by omega) ?_
    rw [if_pos hx, if_neg (by decide)]
    refine zc_enter (t := t) h hn hn2 ha2 hp hE (zmono_of hq.2.2.1) hit hv (fun M1 h1 v1 => ?_)
    refine ⟨vp_in_nI (by omega) (by omega), ?_⟩
    rw [nI_clamp (by omega), zc_length h1.2 hp]
    have hlen := (hi.2.2.1.2 p hm.2.1).2.2.1
    have hpl := hi.1.2.2.2.2 x hm.1
    refine zx_shape (t := t) h1 hn2 hx (by rw [zen_N (by omega)]; omega) (by rw [zen_N (by omega)]; exact hpl.2.2.1) (by rw [zen_N (by omega)]; exact hpl.2.2.2) (fun M2 h2 v2 => ?_)
    rw [zclimb_succ] at hK
    unfold zrest at hK
    by_cases c : x = 0
    · subst c
      rw [if_pos rfl] at hK
      have e9 : zN (zenter S 0 item p t) 9 0 = 0 := by rw [zen_N (by omega)]; exact hi.1.2.2.2.1
      have er : zrel (zenter S 0 item p t) 0 t = t := by unfold zrel; rw [if_pos e9]
      have es : zshape (zenter S 0 item p t) 0 p t = zenter S 0 item p t := by unfold zshape; rw [if_pos e9]
      rw [es] at h2
      rw [er, if_pos (by rw [zl_le']; omega)]
      refine ⟨vp_in_nI (by omega) (by omega), ?_⟩
      intro n141 e141 n143 e143
      rw [zn_p1] at e143
      rw [nI_clamp (by omega), h2.2.2.2.1.1] at e141
      subst e141; subst e143
      unfold wp_X7_climb_L57
      have hh : wp_X5_hasNode w (-1) M2 (fun r70 M70 => (if r70 = 0 then K M70 else wp_X7_enter w (-1) (nI 0) (nI p) t M70 (fun M84 => vp_in (nI p) 500 ∧ wp_X7_shape w (-1) (M84.1 27 w (nI p).toNatClampNeg) t M84 (fun r101 M101 => (if r101 ≤ t then vp_in (-1) 12 ∧ ∀ n141 : Int32, n141 = M101.1 32 w (-1 : Int32).toNatClampNeg → ∀ n143 : Int32, n143 = nI (l + 1) + Int32.ofInt (1) → wp_X7_climb_L57 K F w (nI p) t n141 (-1) n143 M101 else wp_X2_add w (-1) (nI p) r101 M101 (fun M123 => K M123)))))) := by
        unfold wp_X5_hasNode
        rw [if_pos (by decide)]
        show (if (0 : Int32) = 0 then K M2 else _)
        rw [if_pos rfl]
        exact hK M2 h2
      by_cases c12 : 12 ≤ l + 1
      · rw [if_pos (zk_le2 (c := 12) (a := 12) rfl c12 (by omega))]
        exact hK M2 h2
      · rw [if_neg (zk_nle (c := 12) (a := 12) rfl (by omega) (by omega))]
        exact hh
    · rw [if_neg c] at hK
      by_cases c2 : t < zrel (zenter S x item p t) x t
      · rw [if_pos c2] at hK
        rw [if_neg (fun q => zl_le.mp q c2)]
        have hU := zsh_inv (p := p) (x := x) (t := t) hT
        have hle := zheld_le hU
        rw [zsh_N.2.2.2, zsh_N.1, zen_N (by omega), if_pos ⟨by omega, hm.1⟩] at hle
        have hdd : zD (zshape (zenter S x item p t) x p t) = zD (zenter S x item p t) := zsh_N.2.2.2
        refine zx_add h2 (by rw [hdd]; omega) ?_
        rw [hdd]
        exact hK
      · rw [if_neg c2] at hK
        rw [if_pos (zl_le.mpr c2)]
        refine ⟨vp_in_nI (by omega) (by omega), ?_⟩
        intro n141 e141 n143 e143
        rw [zn_p1] at e143
        rw [nI_clamp (by omega), zc_parent h2.2 (by omega) hx, zsh_N.1, zen_N (by omega)] at e141
        subst e141; subst e143
        have hU := zsh_inv (p := p) (x := x) (t := t) hT
        have hx' : x < zN (zshape (zenter S x item p t) x p t) 0 0 := by rw [zsh_N.1, zen_N (by omega)]; exact hm.1
        have hp' : p < zN (zshape (zenter S x item p t) x p t) 1 0 := by rw [zsh_N.1, zen_N (by omega)]; exact hm.2.1
        have hm' := zmay_up (p := p) hU (by omega) hx' hp'
        have e18 : zN (zshape (zenter S x item p t) x p t) 18 x = zN S 18 x := by rw [zsh_N.1]; exact zen_N (by omega)
        rw [e18] at hm'
        have hpar := hi.1.2.1 x (by omega) hm.1
        have hl7 : zL (zshape (zenter S x item p t) x p t) 7 p = zL S 7 p := by
          unfold zshape zenter zst
          split <;> split <;> simp [zL_sL, zL_sN, zL_sQ]
        rw [zen_N (by omega)] at hK
        refine zc_climbL F _ M2 (zN S 18 x) x p t (l + 1) x 0 h2 hU hm' (by rw [zsh_N.1, zen_N (by omega)]; exact hn) (by rw [zsh_N.1, zen_N (by omega)]; exact ha) (by omega) (by omega) (by omega) ?_ hK
        unfold zpr zln
        rw [zsh_N.1, zen_N (by omega), zen_N (by omega), hl7, v2 0 (by omega), v2 1 (by omega), v2 2 (by omega), v1 0 (by omega), v1 1 (by omega), v1 2 (by omega)]
        exact hv
theorem zc_climb {M0 : gM} {w nn ar : Nat} {K : gM → Prop} {S : zW} {M : gM} {x item p : Nat} {t : Int64} {o wd : Nat} (h : zCW M0 w nn ar S M) (hi : zInv S o wd) (hm : zmay S o wd x item p) (hn : zN S 0 0 = nn) (ha : zN S 1 0 = ar) (hit : item < 2 ^ 31) (hK : ∀ M', zCW M0 w nn ar (zclimb 12 S x item p t) M' → K M') : wp_X7_climb w (nI x) (nI item) (nI p) t M K := by
  have hn2 : nn ≤ 12 := by rw [← hn]; exact hi.1.1.2
  have ha2 : ar ≤ 500 := by rw [← ha]; exact hi.2.2.1.1
  have hx : x < nn := by rw [← hn]; exact hm.1
  have hp : p < ar := by rw [← ha]; exact hm.2.1
  have hpk := hi.2.2.1.2 p hm.2.1
  unfold wp_X7_climb
  refine zx_has h.2 ha ha2 (by omega) ?_
  rw [if_pos hp, if_neg (by decide)]
  have v : vp_in (nI p) 500 := vp_in_nI (by omega) (by omega)
  refine ⟨v, v, v, ?_⟩
  rw [nI_clamp (by omega), zc_priority h.2 hp, zc_length h.2 hp, zc_deadline h.2 hp, nI_l (by omega), nI_l (by omega)]
  unfold wp_X0_setPacket
  refine ⟨zvi (by omega) (by omega), ?_⟩
  intro M1 e1
  refine ⟨zvi (by omega) (by omega), ?_⟩
  intro M2 e2
  refine ⟨zvi (by omega) (by omega), ?_⟩
  intro M3 e3
  rw [zcl (by omega)] at e1 e2 e3
  have h3 : zCW M0 w nn ar S M3 := by
    rw [e3, e2, e1]
    exact zCW_calc (Or.inl rfl) (zCW_calc (Or.inl rfl) (zCW_calc (Or.inl rfl) h))
  refine ⟨13, zc_climbL 12 S M3 x item p t 0 o wd h3 hi hm hn ha (by omega) (by omega) hit ?_ hK⟩
  rw [e3, e2, e1]
  simp [zuL, zpr, zln]
