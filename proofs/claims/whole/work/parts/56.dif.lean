/-! departureIf -/
def zrelF (T : zW) : Int64 := (zget (zD T) (znx (zD T))).1
def zdn (T : zW) : zW := (zpass 800 T (zrelF T) 0).1
def zdv : Nat → zW → Nat → Int64
  | 0, _, _ => -1
  | n + 1, T, p => if (zQ T 0).length = 0 then zdv n (zdn T) p else if zgone T = p then zL (zsend T) 8 p else zdv n (zsend T) p
def zmu2 (T : zW) : Nat := zN T 21 0 + zpot (zD T)
theorem zinq_pos {T : zW} {p : Nat} (hi : zInv T 0 0) (h : zinq T p) : 1 ≤ zN T 21 0 := by
  obtain ⟨x, hx, hl, e, he, _⟩ := h
  have := hi.2.2.2.2.2.2.1
  have h2 := zsum_ge (f := zlf T) hx
  have h3 : 1 ≤ zlf T x := by
    unfold zlf
    rw [if_pos hl]
    exact List.length_pos_of_mem he
  omega
/-- a turn in which the packet goes, or another, or none can -/
theorem zd_go {T : zW} {c p : Nat} (h : zOK T c) (hc : c < 8990) (hq : (zQ T 0).length ≠ 0) : zOK (zsend T) (c + 3) ∧ zN (zsend T) 0 0 = zN T 0 0 ∧ zN (zsend T) 1 0 = zN T 1 0 ∧ (zgone T ≠ p → zN (zsend T) 22 p = zN T 22 p) ∧ zmu2 (zsend T) < zmu2 T ∧ (zgone T = p → 0 ≤ (zL (zsend T) 8 p).toInt) ∧ zgone T < zN T 1 0 := by
  obtain ⟨hi, hB, hD⟩ := h
  obtain ⟨k1, k2, k3, k4, k5⟩ := zsend_keep hi hB (by omega) hD
  obtain ⟨g1, g2, g3, g4, g5⟩ := zgoes_inv hi hq
  obtain ⟨u1, u2, u3⟩ := zend_b hi hB (by omega) g3
  have d1 := zdp_inv (p := zgone T) (t := zend T (zgone T)) g1
  have hpo := zpot704 d1
  obtain ⟨i1, i2, i3, i4, i5, i6⟩ := zpass_inv 800 _ (zend T (zgone T)) 0 d1 (by omega)
  have e22 : ∀ q, q ≠ zgone T → zN (zgoes T) 22 q = zN T 22 q := fun q hne => by
    obtain ⟨j1, j2, j3, j4⟩ := zleave_inv 12 T 0 hi (by have := hi.1.1; omega) hq (by omega)
    unfold zgoes
    rw [zN_sN, if_neg (fun z => hne z.2), zN_sN, if_neg (by omega), j2]
  refine ⟨⟨k1, zBd_mono k2 (by omega), k3⟩, k4, k5, fun hne => ?_, ?_, fun he => ?_, g3⟩
  · rw [zsend_eq hq, i2 22 p (by omega) (by omega), zdp_N (by omega)]
    exact e22 p (fun z => hne z.symm)
  · unfold zmu2
    rw [zsend_eq hq, i3, zdp_N (by omega)]
    have ed : zD (zdepart (zgoes T) (zgone T) (zend T (zgone T))) = zD T := g2
    rw [ed] at i6
    omega
  · rw [zsend_eq hq, zpass_L 800 _ _ _ (by omega) (by omega) (by omega), zdp_L8, if_pos he.symm]
    exact u2
theorem zd_wait {T : zW} {c p : Nat} (h : zOK T c) (hc : c < 8990) (hq : (zQ T 0).length = 0) (hp : p < zN T 1 0) (h22 : zN T 22 p = 1) : (zD T).length ≠ 0 ∧ zOK (zdn T) (c + 3) ∧ zN (zdn T) 0 0 = zN T 0 0 ∧ zN (zdn T) 1 0 = zN T 1 0 ∧ zN (zdn T) 22 p = 1 ∧ zmu2 (zdn T) < zmu2 T ∧ ¬ zrelF T < zL T 0 0 := by
  obtain ⟨hi, hB, hD⟩ := h
  have hin : zinq T p := by
    rcases hD p hp with q | q
    · exact q.2.2
    · omega
  have h1 := zinq_pos hi hin
  have hh := zheld_le hi
  have hd : (zD T).length ≠ 0 := by
    intro z
    rw [if_neg (by omega)] at hh
    omega
  have hx := znx_lt hd
  have hm := List.mem_of_getElem? (zget_some hx)
  have hb := hB.1.2.2 _ hm
  have ht := hB.2.2.2 _ hm
  have hu : ¬ zrelF T < zL T 0 0 := by
    unfold zrelF
    rw [zl_lt] at ht ⊢
    omega
  have hpo := zpot704 hi
  obtain ⟨i1, i2, i3, i4, i5, i6⟩ := zpass_inv 800 T (zrelF T) 0 hi (by omega)
  refine ⟨hd, ⟨i1, zBd_mono (zpass_Bd hi hB (by omega) hu (by unfold zrelF; omega)) (by omega), zDq_pass hi hD⟩, i2 0 0 (by omega) (by omega), i2 1 0 (by omega) (by omega), (i2 22 p (by omega) (by omega)).trans h22, ?_, hu⟩
  unfold zmu2 zdn
  rw [i3]
  have e1 : zpass 800 T (zrelF T) 0 = zpass 799 (zturn T) (zrelF T) (0 + 1) := by
    rw [zpass_succ, if_neg hd, if_neg (by unfold zrelF; rw [zl_lt]; omega)]
  obtain ⟨t1, t2, t3, t4, t5⟩ := zturn_inv hi hd
  obtain ⟨j1, j2, j3, j4, j5, j6⟩ := zpass_inv 799 (zturn T) (zrelF T) (0 + 1) t1 (by omega)
  have hge : ∀ (f : Nat) (S : zW) (u : Int64) (c : Nat), c ≤ (zpass f S u c).2 := fun f => by
    induction f with
    | zero => exact fun S u c => Nat.le_refl c
    | succ f ih =>
      intro S u c
      rw [zpass_succ]
      split
      · exact Nat.le_refl c
      · split
        · exact Nat.le_refl c
        · have := ih (zturn S) u (c + 1); omega
  have := hge 799 (zturn T) (zrelF T) (0 + 1)
  rw [e1]
  omega
theorem zc_difL {M0 : gM} {nn ar p : Nat} {K : Int64 → gM → Prop} {KX : Nat → gM → Prop} : ∀ (n i : Nat) (T : zW) (M : gM) (c : Nat), i + n ≤ 800 → zCW M0 1 nn ar T M → zOK T c → c + 3 * n < 8990 → zN T 0 0 = nn → zN T 1 0 = ar → p < ar → zN T 22 p = 1 → zmu2 T < n → (∀ M', zF 1 M0 M' → K (zdv n T p) M') → wp_X8_departureIf_L54 K KX n 0 (nI p) (nI i) M
  | 0, _, _, _, _, _, _, _, _, _, _, _, _, h, _ => by omega
  | n + 1, i, T, M, c, e, h, hok, hc, hn, ha, hp, h22, hmu, hK => by
    have ha2 : ar ≤ 500 := by rw [← ha]; exact (zOK_n hok).2
    unfold wp_X8_departureIf_L54
    rw [if_neg (by
      have : (832 : Int32) = nI 832 := rfl
      rw [this]; exact nI_nlt (by omega) (by omega))]
    unfold zdv at hK
    refine zc_send (c := c) h hok.1 hok.2.1 (by omega) hn ha (fun hq M1 hM1 => ?_) (fun hq M1 hM1 => ?_)
    · rw [if_pos hq] at hK
      have es : zsend T = T := by unfold zsend; rw [if_pos hq]
      rw [es] at hM1
      obtain ⟨w1, w2, w3, w4, w5, w6, w7⟩ := zd_wait hok (by omega) hq (by omega) h22
      have hh := zheld_le hok.1
      rw [if_neg (fun q => zn_neg (by omega) q.symm), if_neg (by decide)]
      refine zx_relq hM1.2 (by omega) ?_
      rw [if_neg w1]
      refine zc_pass (u := zrelF T) hM1 hok.1 hn ha w7 (fun M2 hM2 => ?_)
      intro n109 e109
      rw [zn_p1] at e109
      subst e109
      exact zc_difL n (i + 1) (zdn T) M2 (c + 3) (by omega) hM2 w2 (by omega) (w3.trans hn) (w4.trans ha) hp w5 (by omega) hK
    · rw [if_neg hq] at hK
      obtain ⟨w1, w2, w3, w4, w5, w6, w7⟩ := zd_go (p := p) hok (by omega) hq
      by_cases cp : zgone T = p
      · rw [if_pos cp] at hK
        rw [if_pos (by rw [cp])]
        refine ⟨vp_in_nI (by omega) (by omega), ?_⟩
        rw [nI_clamp (by omega), zc_departure hM1.2 hp]
        exact hK M1 hM1.1
      · rw [if_neg cp] at hK
        rw [if_neg (fun q => cp ((nI_eq (by omega) (by omega)).mp q)), if_pos (nI_pos' (by omega))]
        intro n109 e109
        rw [zn_p1] at e109
        subst e109
        exact zc_difL n (i + 1) (zsend T) M1 (c + 3) (by omega) hM1 w1 (by omega) (w2.trans hn) (w3.trans ha) hp ((w4 cp).trans h22) (by omega) hK
theorem zm_difL {M0 : gM} {nn ar p : Nat} {K : Int64 → gM → Prop} : ∀ (n i : Nat) (T : zW) (M : gM) (c : Nat), i + n ≤ 800 → zMW M0 nn ar T M → zOK T c → c + 3 * n < 8990 → zN T 0 0 = nn → zN T 1 0 = ar → p < ar → zN T 22 p = 1 → zmu2 T < n → (∀ M', zFM M0 M' → wp_X9_departureIf_b142 K 0 (zdv n T p) M') → wp_X9_departureIf_L58 K (n + 1) 0 (nI p) (-1) (nI i) M
  | 0, _, _, _, _, _, _, _, _, _, _, _, _, h, _ => by omega
  | n + 1, i, T, M, c, e, h, hok, hc, hn, ha, hp, h22, hmu, hK => by
    have ha2 : ar ≤ 500 := by rw [← ha]; exact (zOK_n hok).2
    unfold wp_X9_departureIf_L58
    rw [if_neg (zk_nle (c := 5000) (a := 5000) rfl (by omega) (by omega)), if_neg (by decide)]
    unfold zdv at hK
    refine zm_send (c := c) h hok.1 hok.2.1 (by omega) hn ha (fun hq M1 hM1 => ?_) (fun hq M1 hM1 => ?_)
    · rw [if_pos hq] at hK
      have es : zsend T = T := by unfold zsend; rw [if_pos hq]
      rw [es] at hM1
      obtain ⟨w1, w2, w3, w4, w5, w6, w7⟩ := zd_wait hok (by omega) hq (by omega) h22
      have hh := zheld_le hok.1
      have hx := znx_lt w1
      rw [if_neg (fun q => zn_neg (by omega) q.symm)]
      unfold wp_X9_departureIf_b101
      refine zm_next hM1.2 (by omega) ?_
      unfold zfirst
      rw [if_neg w1, if_neg (by decide), if_neg (nI_pos (by omega)), zm_ho, zad]
      refine ⟨vp_in_nI (by omega) (by omega), ?_⟩
      rw [nI_clamp (by omega), (hM1.2.2.2.2.2.2 _ _ (zget_some hx)).1]
      refine zm_pass (u := zrelF T) hM1 hok.1 hn ha (fun M2 hM2 => ?_)
      intro n136 e136
      rw [zn_p1] at e136
      subst e136
      exact zm_difL n (i + 1) (zdn T) M2 (c + 3) (by omega) hM2 w2 (by omega) (w3.trans hn) (w4.trans ha) hp w5 (by omega) hK
    · rw [if_neg hq] at hK
      obtain ⟨w1, w2, w3, w4, w5, w6, w7⟩ := zd_go (p := p) hok (by omega) hq
      have hh := zheld_le w1.1
      by_cases cp : zgone T = p
      · rw [if_pos cp] at hK
        rw [if_pos (by rw [cp]), zm_pk, zad]
        refine ⟨vp_in_nI (by omega) (by omega), ?_⟩
        rw [nI_clamp (by omega), zm_departure hM1.2 hp]
        unfold wp_X9_departureIf_b101
        refine zm_next (S := zsend T) hM1.2 (by omega) ?_
        rw [if_pos (nI_pos' (by omega))]
        intro n136 e136
        rw [zn_p1] at e136
        subst e136
        unfold wp_X9_departureIf_L58
        rw [if_neg (zk_nle (c := 5000) (a := 5000) rfl (by omega) (by omega)), if_pos (by
          rw [zl_le', show (0 : Int64).toInt = 0 by decide]; exact w6 cp)]
        exact hK M1 hM1.1
      · rw [if_neg cp] at hK
        rw [if_neg (fun q => cp ((nI_eq (by omega) (by omega)).mp q))]
        unfold wp_X9_departureIf_b101
        refine zm_next (S := zsend T) hM1.2 (by omega) ?_
        rw [if_pos (nI_pos' (by omega))]
        intro n136 e136
        rw [zn_p1] at e136
        subst e136
        exact zm_difL n (i + 1) (zsend T) M1 (c + 3) (by omega) hM1 w1 (by omega) (w2.trans hn) (w3.trans ha) hp ((w4 cp).trans h22) (by omega) hK
theorem zq_departureIf {t : gT} {M : gM} {c : Nat} {x : Int32} {V : Prop} {Nx : gM → Prop} (hc : c < 5000) (h : zT M c) (hV : V) (hN : ∀ M', zT M' c → Nx M') : wp_L_departureIf t 0 x 0 M (fun r M1 => V ∧ wp_X9_departureIf 0 x M1 (fun rb M2 => zFin Nx r rb M2)) := by
  have h' := h
  obtain ⟨S, ks, tx, er, h1, h2, h3⟩ := h'
  have hi := h3.1.1
  have hn := zOK_n h3.1
  have hw := zheld_le hi
  have hpo := zpot704 hi
  unfold wp_L_departureIf wp_X8_departureIf wp_X8_departureIf_b31
  have bad : (zr x (zN S 1 0) → ∀ j, x = nI j → j < zN S 1 0 → zN S 22 j = 0) → (if (0 : Nat) = 0 then V ∧ wp_X9_departureIf 0 x M (fun rb M2 => zFin Nx 1 rb M2) else False) := fun hb => by
    rw [if_pos rfl]
    refine ⟨hV, ?_⟩
    unfold wp_X9_departureIf
    intro M2 e2
    subst e2
    have fl : wp_X9_departureIf_b39 (fun rb M2 => zFin Nx 1 rb M2) 0 (g_uI M 9 0 4 0) := by
      unfold wp_X9_departureIf_b39 wp_X9_fails
      intro M3 e3
      rw [e3]
      exact zthr (zT_9 h) hN (by decide)
    refine ⟨zvi (by omega) (by omega), ?_⟩
    rw [zcl (by omega), zuI2, zm_arrived h2.1]
    refine zm_inr (by omega) (fun q => ?_) (fun q => ?_)
    · obtain ⟨j, hj, rfl⟩ := zr_of q (by omega)
      rw [if_neg (by decide), zm_pk, zad]
      refine ⟨vp_in_nI (by omega) (by omega), ?_⟩
      rw [nI_clamp (by omega), zuI2, zm_isQueued h2.1 hj, hb q j rfl hj, if_pos (zj_eq (c := 0) (a := 0) rfl rfl)]
      exact fl
    · rw [if_pos rfl]; exact fl
  refine zx_has' h1.1 rfl hn.2 (fun cc => ?_) (fun cc => ?_)
  · rw [if_neg (by decide)]
    obtain ⟨p, hp, rfl⟩ := zr_of cc (by omega)
    refine ⟨vp_in_nI (by omega) (by omega), ?_⟩
    rw [nI_clamp (by omega), zc_departure h1.1 hp]
    rcases h3.1.2.2 p hp with q | q
    · rw [q.2.1, if_pos (by decide)]
      refine zc_copy (w := 1) (w1 := 0) (by omega) h1.1 hi rfl rfl (fun M1 f1 _ hc1 => ?_)
      refine ⟨800, zc_difL (M0 := M) (nn := zN S 0 0) (ar := zN S 1 0) (p := p) 800 0 S M1 c (by omega) ⟨f1, hc1⟩ h3.1 (by omega) rfl rfl hp q.1 (by unfold zmu2; omega) (fun M2 f2 => ?_)⟩
      have hc2 := zTc_ahead h3 h1 f2
      have hm2 : zTm M2 S ks tx er := zTm_sM h2 (zsM_F f2)
      refine ⟨zvi (by omega) (by omega), ?_⟩
      intro M3 e3
      refine ⟨hV, ?_⟩
      have hc3 := zTc_X h3 hc2 (zout_X e3)
      have hm3 := zTm_u9 (v := 0) (zTm_X hm2 (zout_X e3))
      unfold wp_X9_departureIf
      intro M4 e4
      subst e4
      refine ⟨zvi (by omega) (by omega), ?_⟩
      rw [zcl (by omega), zm_arrived hm3.1]
      refine zm_inr (by omega) (fun _ => ?_) (fun z => absurd cc z)
      rw [if_neg (by decide), zm_pk, zad]
      refine ⟨vp_in_nI (by omega) (by omega), ?_⟩
      rw [nI_clamp (by omega), zm_isQueued hm3.1 hp, q.1, if_neg (zj_ne (c := 0) (a := 0) rfl (by omega) (by omega) (by omega))]
      refine zm_lays (Or.inl ⟨rfl, rfl, rfl⟩) (fun M5 c5 => ?_)
      have h5 : zMW M5 (zN S 0 0) (zN S 1 0) S M5 := ⟨zFM_refl, by rw [c5.2.1 47 0 (by omega)]; exact hm3.1⟩
      refine ⟨801, zm_difL (M0 := M5) (nn := zN S 0 0) (ar := zN S 1 0) (p := p) 800 0 S M5 c (by omega) h5 h3.1 (by omega) rfl rfl hp q.1 (by unfold zmu2; omega) (fun M6 f6 => ?_)⟩
      unfold wp_X9_departureIf_b142
      refine zm_lays (Or.inr ⟨rfl, rfl, rfl⟩) (fun M7 c7 => ?_)
      obtain ⟨k1, k2, k3⟩ := zTm_back h3 hm3 c5 f6 c7
      refine zfin_0 ?_ ?_ (hN _ ⟨S, ks, tx, er, zTc_sC h3 (zTc_sC h3 hc3 (zsC_u9 (i := 4) (v := 0))) k2, k1, h3⟩)
      · rw [k3]; exact zth
      · rw [(k2 59 0 (by omega)).2, zuI2, e3, zcl0, zuL, if_pos ⟨rfl, rfl, rfl⟩]
    · rw [if_neg (by rw [zl_lt, show (0 : Int64).toInt = 0 by decide]; omega)]
      exact bad (fun _ j ej hj => by
        have := (nI_eq (by omega) (by omega)).mp ej
        subst this
        exact q.1)
  · rw [if_pos rfl]
    exact bad (fun z => absurd z cc)
