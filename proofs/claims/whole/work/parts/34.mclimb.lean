/-! the reference: isHeld, climbs -/
theorem zm_up {len rate : Nat} : (lN len * 1000 + lN rate - 1) / lN rate = zup len rate := rfl
theorem zmHold {M0 : gM} {nn ar x p : Nat} {r : Int64} {M : gM} {S : zW} {K : gM → Prop} (h : zMW M0 nn ar S M) (hn2 : nn ≤ 12) (ha2 : ar ≤ 500) (hx : x < 2 ^ 31) (hp : p < 2 ^ 31) (hl : (zD S).length < 64) (hqs : ∀ y, y < nn → (zR S y).length ≤ 64) (hK : ∀ M', zMW M0 nn ar (zsD S (zD S ++ [(r, x, p)])) M' → K M') : vp_in 4 7600 ∧ wp_X9_hold ((M.2 47 0 (4 : Int32).toNatClampNeg).toInt32) M (fun r137 M137 => vp_in (r137 + 0) 7600 ∧ ∀ M152 : gM, M152 = g_uL M137 47 0 (r137 + 0).toNatClampNeg r → vp_in 6 7600 ∧ vp_in (r137 + 1) 7600 ∧ ∀ M168 : gM, M168 = g_uL M152 47 0 (r137 + 1).toNatClampNeg (M152.2 47 0 (6 : Int32).toNatClampNeg) → vp_in (r137 + 2) 7600 ∧ ∀ M179 : gM, M179 = g_uL M168 47 0 (r137 + 2).toNatClampNeg (nI x).toInt64 → vp_in (r137 + 3) 7600 ∧ ∀ M190 : gM, M190 = g_uL M179 47 0 (r137 + 3).toNatClampNeg (nI p).toInt64 → vp_in 4 7600 ∧ vp_in 4 7600 ∧ ∀ M200 : gM, M200 = g_uL M190 47 0 (4 : Int32).toNatClampNeg ((M190.2 47 0 (4 : Int32).toNatClampNeg) + 1) → vp_in 6 7600 ∧ vp_in 6 7600 ∧ ∀ M211 : gM, M211 = g_uL M200 47 0 (6 : Int32).toNatClampNeg ((M200.2 47 0 (6 : Int32).toNatClampNeg) + 1) → K M211) := by
  have hd := h.2.2.2.2.2
  refine ⟨zvi (by omega) (by omega), ?_⟩
  rw [zcl (by omega), hd.1, lN_i, zm_ho, zad, zad, zad, zad]
  refine ⟨vp_in_nI (by omega) (by omega), ?_⟩
  intro M1 e1
  refine ⟨zvi (by omega) (by omega), vp_in_nI (by omega) (by omega), ?_⟩
  intro M2 e2
  refine ⟨vp_in_nI (by omega) (by omega), ?_⟩
  intro M3 e3
  refine ⟨vp_in_nI (by omega) (by omega), ?_⟩
  intro M4 e4
  refine ⟨zvi (by omega) (by omega), zvi (by omega) (by omega), ?_⟩
  intro M5 e5
  refine ⟨zvi (by omega) (by omega), zvi (by omega) (by omega), ?_⟩
  intro M6 e6
  rw [nI_clamp (by omega)] at e1 e2
  rw [nI_clamp (by omega), nI_l hx] at e3
  rw [nI_clamp (by omega), nI_l hp] at e4
  rw [zcl (by omega)] at e6
  have r5 : M4.2 47 0 4 = lN (zD S).length := by
    rw [e4, zuL, if_neg (by omega), e3, zuL, if_neg (by omega), e2, zuL, if_neg (by omega), e1, zuL, if_neg (by omega)]; exact hd.1
  rw [r5, lN_1] at e5
  refine hK M6 ⟨?_, zM_VD (v := M.2 47 0) hn2 ha2 h.2 hqs (fun a q1 q2 q3 => ?_) ?_ (fun i e he => ?_)⟩
  · rw [e6, e5, e4, e3, e2, e1]
    exact zFM_u (Or.inl rfl) (zFM_u (Or.inl rfl) (zFM_u (Or.inl rfl) (zFM_u (Or.inl rfl) (zFM_u (Or.inl rfl) (zFM_u (Or.inl rfl) h.1)))))
  · rw [e6, zuL, if_neg (by omega), e5, zuL, if_neg (by omega), e4, zuL, if_neg (by omega), e3, zuL, if_neg (by omega), e2, zuL, if_neg (by omega), e1, zuL, if_neg (by omega)]
  · rw [e6, zuL, if_neg (by omega), e5, zuL, if_pos ⟨rfl, rfl, rfl⟩]
    simp
  · have hR : (zD S)[i]? = some e ∨ (i = (zD S).length ∧ e = (r, x, p)) := by
      by_cases c : i < (zD S).length
      · left
        rw [List.getElem?_append_left c] at he; exact he
      · right
        rw [List.getElem?_append_right (by omega)] at he
        have : i - (zD S).length = 0 := by
          have := (List.getElem?_eq_some_iff.mp he).1
          simp at this; omega
        rw [this] at he
        simp at he
        exact ⟨by omega, he.symm⟩
    rw [e6, e5, e4, e3, e2, e1]
    simp only [zuL]
    rcases hR with hR | ⟨rfl, rfl⟩
    · have hi := (List.getElem?_eq_some_iff.mp hR).1
      have := hd.2 i e hR
      refine ⟨?_, ?_, ?_⟩
      · rw [if_neg (by omega), if_neg (by omega), if_neg (by omega), if_neg (by omega), if_neg (by omega), if_neg (by omega)]; exact this.1
      · rw [if_neg (by omega), if_neg (by omega), if_neg (by omega), if_neg (by omega), if_neg (by omega), if_neg (by omega)]; exact this.2.1
      · rw [if_neg (by omega), if_neg (by omega), if_neg (by omega), if_neg (by omega), if_neg (by omega), if_neg (by omega)]; exact this.2.2
    · refine ⟨?_, ?_, ?_⟩
      · rw [if_neg (by omega), if_neg (by omega), if_neg (by omega), if_neg (by omega), if_neg (by omega), if_pos ⟨by trivial, by trivial, by trivial⟩]
      · rw [if_neg (by omega), if_neg (by omega), if_neg (by omega), if_pos ⟨by trivial, by trivial, by trivial⟩]
      · rw [if_neg (by omega), if_neg (by omega), if_pos ⟨by trivial, by trivial, by trivial⟩]
theorem zm_isHeld {M0 : gM} {nn ar x p : Nat} {t : Int64} {M : gM} {S : zW} {K : Int32 → gM → Prop} (h : zMW M0 nn ar S M) (hn2 : nn ≤ 12) (ha2 : ar ≤ 500) (hx : x < nn) (hp : p < ar) (hr : zN S 9 x ≤ 9999) (hb : zN S 10 x ≤ 9999) (hl : (zD S).length < 64) (hqs : ∀ y, y < nn → (zR S y).length ≤ 64) (hK1 : t < zrel S x t → ∀ M', zMW M0 nn ar (zsD (zshape S x p t) (zD S ++ [(zrel S x t, x, p)])) M' → K 1 M') (hK0 : ¬ t < zrel S x t → ∀ M', zMW M0 nn ar (zshape S x p t) M' → K 0 M') : wp_X9_isHeld 0 (nI x) (nI p) t M K := by
  unfold wp_X9_isHeld
  rw [zm_nd, zad]
  refine ⟨vp_in_nI (by omega) (by omega), ?_⟩
  intro n11 e11
  rw [nI_clamp (by omega), zm_rate h.2 hx] at e11
  subst e11
  by_cases c : zN S 9 x = 0
  · have hr0 : zrel S x t = t := by unfold zrel; rw [if_pos c]
    have hs0 : zshape S x p t = S := by unfold zshape; rw [if_pos c]
    rw [if_pos (zj_eq (c := 0) (a := 0) rfl c)]
    refine hK0 (by rw [hr0, zl_lt]; omega) M ?_
    rw [hs0]; exact h
  · rw [if_neg (zj_ne (c := 0) (a := 0) rfl c (by omega) (by omega))]
    have hr0 : zrel S x t = zmx (zL S 3 x - lN (zN S 10 x) * 1000 / lN (zN S 9 x)) t := by unfold zrel; rw [if_neg c]
    have hs0 : zshape S x p t = zsL S 3 x (zmx (zL S 3 x) t + zup (zN S 16 p) (zN S 9 x)) := by unfold zshape; rw [if_neg c]
    rw [zm_nd, zad]
    refine ⟨vp_in_nI (by omega) (by omega), ?_⟩
    intro n33 e33
    rw [nI_clamp (by omega), zm_mark h.2 hx] at e33
    subst e33
    rw [zm_nd, zad]
    refine ⟨vp_in_nI (by omega) (by omega), zj_ne (c := 0) (a := 0) rfl c (by omega) (by omega), ?_⟩
    intro n56 e56
    rw [nI_clamp (by omega), zm_burst h.2 hx] at e56
    have go : ∀ rel, rel = zrel S x t → wp_X9_isHeld_b71 K 0 (nI x) (nI p) t (lN (zN S 9 x)) (zL S 3 x) rel M := by
      intro rel erel
      have go2 : wp_X9_isHeld_b96 K 0 (nI x) (nI p) t (lN (zN S 9 x)) rel 0 (nI (130 + 12 * x + 4)) (zmx (zL S 3 x) t) M := by
        unfold wp_X9_isHeld_b96
        rw [zm_pk, zad]
        refine ⟨vp_in_nI (by omega) (by omega), zj_ne (c := 0) (a := 0) rfl c (by omega) (by omega), vp_in_nI (by omega) (by omega), ?_⟩
        intro M1 e1
        rw [nI_clamp (by omega), nI_clamp (by omega), zm_length h.2 hp, zm_up] at e1
        have h1 : zMW M0 nn ar (zshape S x p t) M1 := by
          rw [hs0, e1]
          exact zMW_uL (i := 3) (j := x) hn2 ha2 (by unfold zokL; omega) h
        by_cases cr : rel = t
        · rw [if_pos cr]
          exact hK0 (by rw [← erel, cr, zl_lt]; omega) M1 h1
        · rw [if_neg cr]
          have hlt : t < zrel S x t := by
            rw [← erel]
            rw [erel, hr0] at cr ⊢
            unfold zmx at cr ⊢
            by_cases c3 : t < zL S 3 x - lN (zN S 10 x) * 1000 / lN (zN S 9 x)
            · rw [if_pos c3]; exact c3
            · rw [if_neg c3] at cr; exact absurd rfl cr
          have hdd : zD (zshape S x p t) = zD S := zsh_N.2.2.2
          refine zmHold h1 hn2 ha2 (by omega) (by omega) (by rw [hdd]; exact hl) (by rw [zsh_N.2.2.1]; exact hqs) (fun M' h' => ?_)
          rw [hdd, erel] at h'
          exact hK1 hlt M' h'
      unfold wp_X9_isHeld_b71
      rw [zm_nd, zad]
      by_cases c4 : zL S 3 x ≤ t
      · rw [if_pos c4]
        have : zmx (zL S 3 x) t = t := by unfold zmx; rw [if_neg (zl_le.mp c4)]
        rw [this] at go2; exact go2
      · rw [if_neg c4]
        have : zmx (zL S 3 x) t = zL S 3 x := by
          unfold zmx
          rw [if_pos]
          exact Decidable.byContradiction (fun q => c4 (zl_le.mpr q))
        rw [this] at go2; exact go2
    subst e56
    rw [zmx] at hr0
    by_cases c5 : (zL S 3 x - lN (zN S 10 x) * 1000 / lN (zN S 9 x)) ≤ t
    · rw [if_pos c5]
      rw [if_neg (zl_le.mp c5)] at hr0
      exact go t hr0.symm
    · rw [if_neg c5]
      rw [if_pos (Decidable.byContradiction (fun q => c5 (zl_le.mpr q)))] at hr0
      exact go _ hr0.symm
theorem zm_climb1 {M0 : gM} {nn ar : Nat} {K : gM → Prop} {F : Nat} {T : zW} {M : gM} {x p : Nat} {t : Int64} {k : Nat} (h : zMW M0 nn ar T M) (hi : zInv T x 0) (hx0 : x < zN T 0 0) (hp0 : p < zN T 1 0) (hn : zN T 0 0 = nn) (ha : zN T 1 0 = ar) (hk : x + k ≤ 11) (hK0 : x = 0 → ∀ M', zMW M0 nn ar T M' → K M') (hK1 : x ≠ 0 → t < zrel T x t → ∀ M', zMW M0 nn ar (zsD (zshape T x p t) (zD T ++ [(zrel T x t, x, p)])) M' → K M') (hrec : x ≠ 0 → ¬ t < zrel T x t → ∀ M', zMW M0 nn ar (zenter (zshape T x p t) (zN T 18 x) x p t) M' → wp_X9_climbs_L9 K (F + 1) 0 (nI p) t (nI (zN T 18 x)) 1 (nI (k + 1)) M') : wp_X9_climbs_L9 K (F + 2) 0 (nI p) t (nI x) 1 (nI k) M := by
  have hn2 : nn ≤ 12 := by rw [← hn]; exact hi.1.1.2
  have ha2 : ar ≤ 500 := by rw [← ha]; exact hi.2.2.1.1
  have hx : x < nn := by rw [← hn]; exact hx0
  have hp : p < ar := by rw [← ha]; exact hp0
  have hend : ∀ (M' : gM) (y k' : Nat), k' ≤ 12 → K M' → wp_X9_climbs_L9 K (F + 1) 0 (nI p) t (nI y) 0 (nI k') M' := fun M' y k' hk' q => by
    unfold wp_X9_climbs_L9
    by_cases c : 12 ≤ k'
    · rw [if_pos (zk_le2 (c := 12) (a := 12) rfl c (by omega))]; exact q
    · rw [if_neg (zk_nle (c := 12) (a := 12) rfl (by omega) (by omega)), if_pos rfl]; exact q
  unfold wp_X9_climbs_L9
  rw [if_neg (zk_nle (c := 12) (a := 12) rfl (by omega) (by omega)), if_neg (by decide), zm_nd, zad]
  refine ⟨vp_in_nI (by omega) (by omega), ?_⟩
  intro n34 e34
  rw [nI_clamp (by omega)] at e34
  by_cases c : x = 0
  · subst c
    rw [zm_par0 h.2] at e34
    have : n34 = -1 := e34
    subst this
    rw [if_pos (by decide)]
    unfold wp_X9_climbs_b56 wp_X9_climbs_b57
    rw [if_pos rfl]
    intro n92 e92
    rw [zn_p1] at e92
    subst e92
    exact hend M 0 (k + 1) (by omega) (hK0 rfl M h)
  · have hpar := hi.1.2.1 x (by omega) hx0
    rw [zm_parent h.2 ⟨by omega, hx⟩, lN_i] at e34
    subst e34
    rw [if_neg (nI_pos (by omega))]
    have hpl := hi.1.2.2.2.2 x hx0
    have hle := zheld_le hi
    rw [if_pos ⟨by omega, hx0⟩] at hle
    have hqs : ∀ y, y < nn → (zR T y).length ≤ 64 := fun y hy => by
      rw [zInv_lenR hi (by omega)]
      have := zlen64 hi (x := y) (by omega)
      omega
    refine zm_isHeld h hn2 ha2 hx hp hpl.2.2.1 hpl.2.2.2 (by omega) hqs (fun c2 M1 h1 => ?_) (fun c2 M1 h1 => ?_)
    · rw [if_neg (by decide)]
      unfold wp_X9_climbs_b56 wp_X9_climbs_b57
      rw [if_pos rfl]
      intro n92 e92
      rw [zn_p1] at e92
      subst e92
      exact hend M1 x (k + 1) (by omega) (hK1 c c2 M1 h1)
    · rw [if_pos rfl]
      unfold wp_X9_climbs_b57
      rw [if_neg (by decide), zm_nd, zad]
      refine ⟨vp_in_nI (by omega) (by omega), ?_⟩
      rw [nI_clamp (by omega), zm_nweight h1.2 hx]
      have hU := zsh_inv (p := p) (x := x) (t := t) hi
      have hx' : x < zN (zshape T x p t) 0 0 := by rw [zsh_N.1]; exact hx0
      have hp' : p < zN (zshape T x p t) 1 0 := by rw [zsh_N.1]; exact hp0
      have hm' := zmay_up (p := p) hU (by omega) hx' hp'
      have hE := zmay_En hU hm'
      have hq := zInv_lenR hU hm'.1
      have hnl : zN (zshape T x p t) 19 (zN T 18 x) ≠ 0 := by
        rw [zsh_N.1, hi.1.2.2.1 _ (by omega)]
        exact zcnt_pos (by omega) hx0 rfl
      have ek : zkey (zshape T x p t) (zN T 18 x) x p = x := by unfold zkey; rw [if_neg hnl]
      rw [zsh_N.1, hn] at hE
      rw [zsh_N.1] at hm' hq
      have hgo : wp_X9_enters 0 (nI (zN T 18 x)) (nI x) (nI (zkey (zshape T x p t) (zN T 18 x) x p)) (lN (zN (zshape T x p t) 14 x)) (nI p) t M1 (fun M85 => ∀ n92 : Int32, n92 = nI k + Int32.ofInt (1) → wp_X9_climbs_L9 K (F + 1) 0 (nI p) t (nI (zN T 18 x)) 1 n92 M85) := by
        refine zm_enter h1 hn2 ha2 hp hE (by omega) ?_ hq (by rw [zsh_N.2.2.1]; exact hqs) (fun M2 h2 => ?_)
        · unfold zwt
          rw [ek, if_neg hnl]
        · intro n92 e92
          rw [zn_p1] at e92
          subst e92
          exact hrec c c2 M2 h2
      rw [ek] at hgo
      exact hgo
theorem zm_climbL {M0 : gM} {nn ar : Nat} {K : gM → Prop} : ∀ (F : Nat) (T : zW) (M : gM) (x p : Nat) (t : Int64) (k : Nat), zMW M0 nn ar T M → zInv T x 0 → x < zN T 0 0 → p < zN T 1 0 → zN T 0 0 = nn → zN T 1 0 = ar → x ≤ F → x + k ≤ 11 → (∀ M', zMW M0 nn ar (zrest F T x p t) M' → K M') → wp_X9_climbs_L9 K (F + 2) 0 (nI p) t (nI x) 1 (nI k) M
  | 0, T, M, x, p, t, k, h, hi, hx0, hp0, hn, ha, hf, hk, hK => by
    have : x = 0 := by omega
    subst this
    unfold zrest at hK
    rw [if_pos rfl] at hK
    exact zm_climb1 h hi hx0 hp0 hn ha hk (fun _ => hK) (fun c => absurd rfl c) (fun c => absurd rfl c)
  | F + 1, T, M, x, p, t, k, h, hi, hx0, hp0, hn, ha, hf, hk, hK => by
    unfold zrest at hK
    refine zm_climb1 h hi hx0 hp0 hn ha hk (fun c => ?_) (fun c c2 => ?_) (fun c c2 M2 h2 => ?_)
    · rw [if_pos c] at hK; exact hK
    · rw [if_neg c, if_pos c2] at hK; exact hK
    · rw [if_neg c, if_neg c2, zclimb_succ] at hK
      have hpar := hi.1.2.1 x (by omega) hx0
      have hU := zsh_inv (p := p) (x := x) (t := t) hi
      have hx' : x < zN (zshape T x p t) 0 0 := by rw [zsh_N.1]; exact hx0
      have hp' : p < zN (zshape T x p t) 1 0 := by rw [zsh_N.1]; exact hp0
      have hm' := zmay_up (p := p) hU (by omega) hx' hp'
      have e18 : zN (zshape T x p t) 18 x = zN T 18 x := by rw [zsh_N.1]
      rw [e18] at hm'
      refine zm_climbL F _ M2 (zN T 18 x) p t (k + 1) h2 (zenter_inv hU hm') ?_ ?_ ?_ ?_ (by omega) (by omega) hK
      · rw [zen_N (by omega), zsh_N.1]; omega
      · rw [zen_N (by omega), zsh_N.1]; exact hp0
      · rw [zen_N (by omega), zsh_N.1]; exact hn
      · rw [zen_N (by omega), zsh_N.1]; exact ha
theorem zm_climb {M0 : gM} {nn ar : Nat} {K : gM → Prop} {S : zW} {M : gM} {x item p : Nat} {wt t : Int64} {o wd : Nat} (h : zMW M0 nn ar S M) (hi : zInv S o wd) (hm : zmay S o wd x item p) (hn : zN S 0 0 = nn) (ha : zN S 1 0 = ar) (hit : item < 2 ^ 31) (hw : wt = lN (zwt S x (zkey S x item p))) (hK : ∀ M', zMW M0 nn ar (zclimb 12 S x item p t) M' → K M') : wp_X9_enters 0 (nI x) (nI item) (nI (zkey S x item p)) wt (nI p) t M (fun M1 => wp_X9_climbs 0 (nI x) (nI p) t M1 K) := by
  have hn2 : nn ≤ 12 := by rw [← hn]; exact hi.1.1.2
  have ha2 : ar ≤ 500 := by rw [← ha]; exact hi.2.2.1.1
  have hx : x < nn := by rw [← hn]; exact hm.1
  have hp : p < ar := by rw [← ha]; exact hm.2.1
  have hE := zmay_En hi hm
  rw [hn] at hE
  have hqs : ∀ y, y < nn → (zR S y).length ≤ 64 := fun y hy => by
    rw [zInv_lenR hi (by omega)]
    have := zlen64 hi (x := y) (by omega)
    omega
  refine zm_enter h hn2 ha2 hp hE hit hw (zInv_lenR hi hm.1) hqs (fun M1 h1 => ?_)
  refine ⟨13, zm_climbL 11 _ M1 x p t 0 h1 (zenter_inv hi hm) ?_ ?_ ?_ ?_ (by omega) (by omega) ?_⟩
  · rw [zen_N (by omega)]; exact hm.1
  · rw [zen_N (by omega)]; exact hm.2.1
  · rw [zen_N (by omega)]; exact hn
  · rw [zen_N (by omega)]; exact ha
  · rw [← zclimb_succ]; exact hK
