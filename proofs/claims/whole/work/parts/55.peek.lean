/-! type -/
theorem ztx_get {tx : List Nat} {a i c : Nat} (h : (tx ++ [a])[i]? = some c) : (i < tx.length ∧ tx[i]? = some c) ∨ (i = tx.length ∧ c = a) := by
  by_cases q : i < tx.length
  · rw [List.getElem?_append_left q] at h
    exact Or.inl ⟨q, h⟩
  · rw [List.getElem?_append_right (by omega)] at h
    have : i - tx.length = 0 := by
      have := (List.getElem?_eq_some_iff.mp h).1
      simp at this; omega
    rw [this] at h
    simp at h
    exact Or.inr ⟨by omega, h.symm⟩
theorem zq_type {t : gT} {M : gM} {c : Nat} {x : Int32} {V : Prop} {Nx : gM → Prop} (h : zT M c) (hV : V) (hN : ∀ M', zT M' c → Nx M') : wp_L_type t 0 x 0 M (fun r M1 => V ∧ wp_X9_type 0 x M1 (fun rb M2 => zFin Nx r rb.toInt64 M2)) := by
  have h' := h
  obtain ⟨S, ks, tx, er, h1, h2, h3⟩ := h'
  have hl := h3.2.2.2.1
  have l32 : (32 : Int32).toInt = 32 := by decide
  have l126 : (126 : Int32).toInt = 126 := by decide
  have f32 : (32 : Int64).toInt = 32 := by decide
  have f126 : (126 : Int64).toInt = 126 := by decide
  have bad : ¬ (32 ≤ x.toInt ∧ x.toInt ≤ 126) → (if (0 : Nat) = 0 then V ∧ wp_X9_type 0 x M (fun rb M2 => zFin Nx 1 rb.toInt64 M2) else (if (0 : Nat) = 1 then V ∧ wp_X9_type 0 x M (fun rb M2 => zFin Nx 2 rb.toInt64 M2) else False)) := fun cw => by
    rw [if_pos rfl]
    refine ⟨hV, ?_⟩
    unfold wp_X9_type
    intro M3 e3
    refine zm_in (fun q => ?_) (fun q => ?_)
    · rw [f32, f126] at q; exact absurd q cw
    · rw [if_pos rfl]
      unfold wp_X9_fails
      intro M4 e4
      rw [e4, e3]
      exact zthr (zT_9 h) hN (by decide)
  unfold wp_L_type wp_X8_type wp_X8_type_b12 wp_X8_type_b41
  by_cases cw : 32 ≤ x.toInt ∧ x.toInt ≤ 126
  · obtain ⟨a, ha, rfl⟩ := zr_of (x := x) (n := 127) ⟨by omega, by omega⟩ (by omega)
    rw [nI_toInt (by omega)] at cw
    rw [if_neg (zk_nlt (c := 32) (a := 32) rfl (by omega) (by omega)), if_pos (zk_le (c := 126) (a := 126) rfl (by omega) (by omega)), h1.2.2.2.1, if_neg (nI_pos (by omega))]
    by_cases c120 : tx.length < 120
    · rw [if_pos (zk_lt (c := 120) (a := 120) rfl c120 (by omega))]
      refine ⟨vp_in_nI c120 (by omega), ?_⟩
      intro M1 e1 M2 e2
      rw [nI_clamp (by omega), (znar (by omega)).1] at e1
      have e18 : M1.1 8 0 1 = nI tx.length := by rw [e1, zuI, if_neg (by omega)]; exact h1.2.2.2.1
      rw [e18, nI_1] at e2
      have hp : zTp S ks (tx ++ [a]) c := ⟨h3.1, h3.2.1, h3.2.2.1, by simp; omega, fun b hb => by
        rcases List.mem_append.mp hb with q | q
        · exact h3.2.2.2.2 b q
        · rw [List.mem_singleton] at q; omega⟩
      have hc2 : zTc M2 S ks (tx ++ [a]) er := by
        refine zTc_tx h3 h1 (fun k o p q => ?_) (by rw [e2, e1]; rfl) ?_ ?_ (fun i b hb => ?_)
        · rw [e2]
          show (if k = 8 ∧ o = 0 then _ else M1.1 k o) = _
          rw [if_neg (by omega), e1]
          show (if k = 44 ∧ o = 0 then _ else M.1 k o) = _
          rw [if_neg (by omega)]
        · rw [e2, zuI, if_neg (by omega), e1, zuI, if_neg (by omega)]
        · rw [e2, zuI, if_pos ⟨rfl, rfl, rfl⟩]; simp
        · rw [e2, zuI, if_neg (by omega), e1, zuI]
          rcases ztx_get hb with q | q
          · rw [if_neg (by omega)]; exact h1.2.2.2.2.1 i b q.2
          · rw [if_pos ⟨rfl, rfl, q.1⟩, q.2]
      have hm2 : zTm M2 S ks tx er := zTm_sM h2 (fun k o q => ⟨by
        rw [e2]
        show (if k = 8 ∧ o = 0 then _ else M1.1 k o) = _
        rw [if_neg (by omega), e1]
        show (if k = 44 ∧ o = 0 then _ else M.1 k o) = _
        rw [if_neg (by omega)], by rw [e2, e1]; rfl⟩)
      refine ⟨zvi (by omega) (by omega), ?_⟩
      intro M3 e3
      rw [e2, zuI, if_pos ⟨rfl, rfl, rfl⟩, ← e2] at e3
      refine ⟨hV, ?_⟩
      have hc3 := zTc_X hp hc2 (zout_X e3)
      have hm3 := zTm_u9 (v := 0) (zTm_X hm2 (zout_X e3))
      unfold wp_X9_type
      intro M4 e4
      subst e4
      refine zm_in (fun q => ?_) (fun q => ?_)
      · rw [if_neg (by decide), hm3.2.2.2.1, if_neg (zk_ne (c := 120) (a := 120) rfl (by omega) (by omega) (by omega))]
        refine ⟨vp_in_nI c120 (by omega), ?_⟩
        intro M5 e5 M6 e6
        rw [nI_clamp (by omega)] at e5
        have e57 : M5.1 9 0 7 = nI tx.length := by rw [e5, zuI, if_neg (by omega)]; exact hm3.2.2.2.1
        rw [e57, nI_1] at e6
        have hm6 : zTm M6 S ks (tx ++ [a]) er := by
          refine zTm_tx hm3 (fun k o p q => ?_) (by rw [e6, e5]; rfl) ?_ ?_ (fun i b hb => ?_)
          · rw [e6]
            show (if k = 9 ∧ o = 0 then _ else M5.1 k o) = _
            rw [if_neg (by omega), e5]
            show (if k = 51 ∧ o = 0 then _ else (g_uI M3 9 0 4 0).1 k o) = _
            rw [if_neg (by omega)]
          · rw [e6, zuI, if_neg (by omega), e5, zuI, if_neg (by omega)]
          · rw [e6, zuI, if_pos ⟨rfl, rfl, rfl⟩]; simp
          · rw [e6, zuI, if_neg (by omega), e5, zuI]
            rcases ztx_get hb with q | q
            · rw [if_neg (by omega)]; exact hm3.2.2.2.2.1 i b q.2
            · rw [if_pos ⟨rfl, rfl, q.1⟩, q.2]
        have hs6 : zsC (g_uI M3 9 0 4 0) M6 := fun k o q => ⟨by
          rw [e6]
          show (if k = 9 ∧ o = 0 then _ else M5.1 k o) = _
          rw [if_neg (by omega), e5]
          show (if k = 51 ∧ o = 0 then _ else (g_uI M3 9 0 4 0).1 k o) = _
          rw [if_neg (by omega)], by rw [e6, e5]; rfl⟩
        have hc6 := zTc_sC hp (zTc_sC hp hc3 (zsC_u9 (i := 4) (v := 0))) hs6
        refine zfin_0 ?_ ?_ (hN _ ⟨S, ks, _, er, hc6, hm6, hp⟩)
        · rw [e6, zuI, if_neg (by omega), e5, zuI, if_neg (by omega)]; exact zth
        · rw [(hs6 59 0 (by omega)).2, zuI2, e3, zcl0, zuL, if_pos ⟨rfl, rfl, rfl⟩, e6, zuI, if_pos ⟨rfl, rfl, rfl⟩]
      · rw [f32, f126, nI_toInt (by omega)] at q; omega
    · rw [if_neg (zk_nlt (c := 120) (a := 120) rfl (by omega) (by omega))]
      show (if (1 : Nat) = 0 then _ else _)
      rw [if_neg (by decide), if_pos rfl]
      refine ⟨hV, ?_⟩
      unfold wp_X9_type
      intro M4 e4
      subst e4
      have hm3 := zTm_u9 (v := 0) h2
      refine zm_in (fun q => ?_) (fun q => ?_)
      · have : tx.length = 120 := by omega
        rw [if_neg (by decide), hm3.2.2.2.1, this, if_pos (by decide)]
        unfold wp_X9_fails
        intro M5 e5
        rw [e5]
        exact zthr (zT_9 h) hN (by decide)
      · rw [f32, f126, nI_toInt (by omega)] at q; omega
  · by_cases c1 : x < 32
    · rw [if_pos c1]; exact bad cw
    · rw [if_neg c1, if_neg (fun q => cw ?_)]
      · exact bad cw
      · rw [Int32.lt_iff_toInt_lt, l32] at c1
        rw [Int32.le_iff_toInt_le, l126] at q
        omega
/-! peek -/
def zpv : Nat → zW → Int32
  | 0, _ => -1
  | n + 1, T => if (zQ T 0).length = 0 then -1 else if n = 0 then nI (zgone T) else zpv n (zgoes T)
theorem zpv_cap : ∀ (w n n' : Nat) (T : zW), zInv T 0 0 → zN T 21 0 ≤ w → w < n → w < n' → zpv n T = zpv n' T
  | w, 0, _, _, _, _, h, _ => by omega
  | w, _, 0, _, _, _, _, h => by omega
  | w, n + 1, n' + 1, T, hi, hw, h1, h2 => by
    unfold zpv
    by_cases c : (zQ T 0).length = 0
    · rw [if_pos c, if_pos c]
    · obtain ⟨g1, g2, g3, g4, g5⟩ := zgoes_inv hi c
      match w, hw, h1, h2 with
      | 0, hw, _, _ => omega
      | w + 1, hw, h1, h2 =>
        rw [if_neg c, if_neg c, if_neg (by omega), if_neg (by omega)]
        exact zpv_cap w n n' (zgoes T) g1 (by omega) (by omega) (by omega)
theorem zc_peekL {M0 : gM} {x1 : Int32} {k : Nat} {K : Int32 → gM → Prop} {KX : Nat → gM → Prop} {nn ar : Nat} (hx : x1 = nI k) (hk : k < 2 ^ 31) : ∀ (n i : Nat) (T : zW) (M : gM) (r : Int32) (v : Int32), i + n = min k 64 + 1 → zCW M0 1 nn ar T M → zInv T 0 0 → zN T 0 0 = nn → zN T 1 0 = ar → (n = 0 → r = v) → (n ≠ 0 → zpv n T = v) → (∀ M', zF 1 M0 M' → K v M') → wp_X8_peek_L29 K KX (n + 1) 0 x1 r (nI i) M
  | 0, i, T, M, r, v, e, h, hi, hn, ha, h0, h1, hK => by
    subst hx
    unfold wp_X8_peek_L29
    rw [h0 rfl]
    by_cases c : k ≤ 64
    · rw [if_pos (nI_lt (by omega) (by omega))]; exact hK M h.1
    · by_cases c2 : nI k < nI i
      · rw [if_pos c2]; exact hK M h.1
      · rw [if_neg c2, if_pos (by
          have : (64 : Int32) = nI 64 := rfl
          rw [this]; exact nI_lt (by omega) (by omega))]
        exact hK M h.1
  | n + 1, i, T, M, r, v, e, h, hi, hn, ha, h0, h1, hK => by
    have hv := h1 (by omega)
    have ih := fun (T' : zW) (M' : gM) (r' : Int32) => zc_peekL (M0 := M0) (K := K) (KX := KX) (nn := nn) (ar := ar) hx hk n (i + 1) T' M' r' v (by omega)
    subst hx
    unfold wp_X8_peek_L29
    rw [if_neg (nI_nlt (by omega) (by omega)), if_neg (by
      have : (64 : Int32) = nI 64 := rfl
      rw [this]; exact nI_nlt (by omega) (by omega))]
    unfold zpv at hv
    refine zc_goes h hi hn ha (fun hq => ?_) (fun hq M1 hM1 => ?_)
    · rw [if_pos hq] at hv
      intro n48 e48
      rw [zn_p1] at e48
      subst e48
      refine ih T M (-1) h hi hn ha (fun _ => hv) (fun hne => ?_) hK
      obtain ⟨m, rfl⟩ : ∃ m, n = m + 1 := ⟨n - 1, by omega⟩
      unfold zpv
      rw [if_pos hq]; exact hv
    · rw [if_neg hq] at hv
      obtain ⟨g1, g2, g3, g4, g5⟩ := zgoes_inv hi hq
      intro n48 e48
      rw [zn_p1] at e48
      subst e48
      refine ih (zgoes T) M1 _ hM1 g1 (by rw [g5 0 0 (by omega) (by omega)]; exact hn) (by rw [g5 1 0 (by omega) (by omega)]; exact ha) (fun q => ?_) (fun q => ?_) hK
      · rw [if_pos q] at hv; exact hv
      · rw [if_neg q] at hv; exact hv
theorem zm_peekL {M0 : gM} {x1 : Int32} {k : Nat} {K : Int32 → gM → Prop} {nn ar : Nat} (hx : x1 = nI k) (hk : k < 2 ^ 31) : ∀ (w i : Nat) (T : zW) (M : gM) (r : Int32) (v : Int32), i ≤ k + 1 → i + w ≤ 64 → zMW M0 nn ar T M → zInv T 0 0 → zN T 0 0 = nn → zN T 1 0 = ar → zN T 20 0 < 2 ^ 31 → zN T 21 0 ≤ w → ¬ r < 0 → (i = k + 1 → r = v) → (i ≤ k → zpv (k + 1 - i) T = v) → (∀ M', zFM M0 M' → wp_X9_peek_b44 K 0 v M') → wp_X9_peek_L24 K (w + 2) 0 x1 r (nI i) M
  | w, i, T, M, r, v, e, hiw, h, hi, hn, ha, h20, hw, hr, h0, h1, hK => by
    subst hx
    unfold wp_X9_peek_L24
    by_cases c : i = k + 1
    · rw [if_pos (nI_lt (by omega) (by omega)), h0 c]; exact hK M h.1
    · have hv := h1 (by omega)
      rw [if_neg (nI_nlt (by omega) (by omega)), if_neg hr]
      obtain ⟨m, hm⟩ : ∃ m, k + 1 - i = m + 1 := ⟨k - i, by omega⟩
      rw [hm] at hv
      unfold zpv at hv
      refine zm_goes h hi hn ha h20 (fun hq => ?_) (fun hq M1 hM1 => ?_)
      · rw [if_pos hq] at hv
        intro n38 e38
        rw [zn_p1] at e38
        subst e38
        unfold wp_X9_peek_L24
        have hb := hK M h.1
        rw [← hv] at hb
        by_cases c2 : nI k < nI (i + 1)
        · rw [if_pos c2]; exact hb
        · rw [if_neg c2, if_pos (by decide)]; exact hb
      · rw [if_neg hq] at hv
        obtain ⟨g1, g2, g3, g4, g5⟩ := zgoes_inv hi hq
        intro n38 e38
        rw [zn_p1] at e38
        subst e38
        match w, hw, hiw with
        | 0, hw, _ => omega
        | w + 1, hw, hiw =>
          refine zm_peekL rfl hk w (i + 1) (zgoes T) M1 _ v (by omega) (by omega) hM1 g1 (by rw [g5 0 0 (by omega) (by omega)]; exact hn) (by rw [g5 1 0 (by omega) (by omega)]; exact ha) (by rw [g5 20 0 (by omega) (by omega)]; exact h20) (by omega) (nI_pos (by have := hi.2.2.1.1; omega)) (fun q => ?_) (fun q => ?_) hK
          · rw [if_pos (by omega)] at hv; exact hv
          · rw [if_neg (by omega)] at hv
            rw [show k + 1 - (i + 1) = m by omega]; exact hv
/-- what peeking leaves -/
theorem zTc_ahead {M M' : gM} {S : zW} {ks : List zW} {tx : List Nat} {er : Nat → Int32} {c : Nat} (hp : zTp S ks tx c) (h : zTc M S ks tx er) (hF : zF 1 M M') : zTc M' S ks tx er := by
  obtain ⟨h1, h2, h3, h4, h5, h6⟩ := h
  have e : ∀ k, k = 8 ∨ k = 44 ∨ k = 45 → M'.1 k 0 = M.1 k 0 := fun k hk => (hF k 0 (by unfold zin; omega)).1
  refine ⟨zC_F (zOK_n hp.1).1 (by omega) h1 hF, fun i T hT => zC_F (zOK_n (hp.2.1 i T hT)).1 (by omega) (h2 i T hT) hF, ?_, ?_, fun i a ha => ?_, fun i hi => ?_⟩
  · rw [e 8 (by omega)]; exact h3
  · rw [e 8 (by omega)]; exact h4
  · rw [e 44 (by omega)]; exact h5 i a ha
  · rw [e 45 (by omega)]; exact h6 i hi
/-- the row is laid aside, changed, laid back -/
theorem zTm_back {M M1 M2 M3 : gM} {S : zW} {ks : List zW} {tx : List Nat} {er : Nat → Int32} {c : Nat} (hp : zTp S ks tx c) (h : zTm M S ks tx er) (c1 : zcpR 47 0 48 0 M M1) (f2 : zFM M1 M2) (c3 : zcpR 48 0 47 0 M2 M3) : zTm M3 S ks tx er ∧ zsC M M3 ∧ M3.1 = M.1 := by
  obtain ⟨h1, h2, h3, h4, h5, h6, h7⟩ := h
  obtain ⟨a1, a2, a3⟩ := c1
  obtain ⟨b1, b2, b3⟩ := c3
  have e1 : M3.1 = M.1 := b1.trans (f2.1.trans a1)
  have e2 : ∀ k o, k ≠ 47 → k ≠ 48 → k ≠ 57 → k ≠ 58 → M3.2 k o = M.2 k o := fun k o p q r s => by
    rw [b2 k o (by omega), f2.2 k o p r s, a2 k o (by omega)]
  refine ⟨⟨?_, fun i T hT => ?_, by rw [e1]; exact h3, by rw [e1]; exact h4, fun i a ha => by rw [e1]; exact h5 i a ha, fun i hi => by rw [e1]; exact h6 i hi, by rw [e1]; exact h7⟩, fun k o q => ⟨by rw [e1], e2 k o (by omega) (by omega) (by omega) (by omega)⟩, e1⟩
  · refine zM_congrOK hp.1 h1 (fun j hj => ?_)
    rw [b3, if_pos (by omega), f2.2 48 0 (by omega) (by omega) (by omega), a3, if_pos (by omega), show 0 + (0 + (j - 0) - 0) = j by omega]
  · rw [e2 49 0 (by omega) (by omega) (by omega) (by omega)]; exact h2 i T hT
theorem zq_peek {t : gT} {M : gM} {c : Nat} {x : Int32} {V : Prop} {Nx : gM → Prop} (hc : c < 10000) (h : zT M c) (hV : V) (hN : ∀ M', zT M' c → Nx M') : wp_L_peek t 0 x 0 M (fun r M1 => V ∧ wp_X9_peek 0 x M1 (fun rb M2 => zFin Nx r rb.toInt64 M2)) := by
  have h' := h
  obtain ⟨S, ks, tx, er, h1, h2, h3⟩ := h'
  have hi := h3.1.1
  have h20 := h3.1.2.1.2.1
  have hw := zheld_le hi
  have l0 : (0 : Int32).toInt = 0 := by decide
  unfold wp_L_peek wp_X8_peek
  by_cases cx : 0 ≤ x
  · obtain ⟨k, hk, rfl⟩ := nI_of (x := x) (fun q => by
      rw [Int32.lt_iff_toInt_lt, l0] at q
      rw [Int32.le_iff_toInt_le, l0] at cx
      omega)
    rw [if_pos cx]
    refine zc_copy (w := 1) (w1 := 0) (by omega) h1.1 hi rfl rfl (fun M1 f1 _ hc1 => ?_)
    refine ⟨min k 64 + 2, zc_peekL (M0 := M) (k := k) (nn := zN S 0 0) (ar := zN S 1 0) rfl hk (min k 64 + 1) 0 S M1 (-1) (zpv (min k 64 + 1) S) (by omega) ⟨f1, hc1⟩ hi rfl rfl (fun q => by omega) (fun _ => rfl) (fun M2 f2 => ?_)⟩
    have hc2 := zTc_ahead h3 h1 f2
    have hm2 : zTm M2 S ks tx er := zTm_sM h2 (zsM_F f2)
    refine ⟨zvi (by omega) (by omega), ?_⟩
    intro M3 e3
    refine ⟨hV, ?_⟩
    have hc3 := zTc_X h3 hc2 (zout_X e3)
    have hm3 := zTm_u9 (v := 0) (zTm_X hm2 (zout_X e3))
    unfold wp_X9_peek
    intro M4 e4
    subst e4
    rw [if_pos cx]
    refine zm_lays (Or.inl ⟨rfl, rfl, rfl⟩) (fun M5 c5 => ?_)
    have h5 : zMW M5 (zN S 0 0) (zN S 1 0) S M5 := ⟨zFM_refl, by rw [c5.2.1 47 0 (by omega)]; exact hm3.1⟩
    have ev : zpv (k + 1) S = zpv (min k 64 + 1) S := by
      by_cases q : k ≤ 64
      · rw [Nat.min_eq_left q]
      · exact zpv_cap 64 _ _ S hi (by omega) (by omega) (by omega)
    refine ⟨66, zm_peekL (M0 := M5) (k := k) (nn := zN S 0 0) (ar := zN S 1 0) rfl hk 64 0 S M5 0 (zpv (min k 64 + 1) S) (by omega) (by omega) h5 hi rfl rfl (by omega) (by omega) (by decide) (fun q => by omega) (fun _ => ev) (fun M6 f6 => ?_)⟩
    unfold wp_X9_peek_b44
    refine zm_lays (Or.inr ⟨rfl, rfl, rfl⟩) (fun M7 c7 => ?_)
    obtain ⟨k1, k2, k3⟩ := zTm_back h3 hm3 c5 f6 c7
    refine zfin_0 ?_ ?_ (hN _ ⟨S, ks, tx, er, zTc_sC h3 (zTc_sC h3 hc3 (zsC_u9 (i := 4) (v := 0))) k2, k1, h3⟩)
    · rw [k3]; exact zth
    · rw [(k2 59 0 (by omega)).2, zuI2, e3, zcl0, zuL, if_pos ⟨rfl, rfl, rfl⟩]
  · rw [if_neg cx]
    show (if (2 : Nat) = 2 then _ else _)
    rw [if_pos rfl]
    refine ⟨hV, ?_⟩
    unfold wp_X9_peek
    intro M2 e2
    rw [if_neg cx]
    unfold wp_X9_fails
    intro M3 e3
    rw [e3, e2]
    exact zthr (zT_9 h) hN (by decide)
