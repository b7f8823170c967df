/-! rows of the reference copied -/
theorem zM_congr {nn ar : Nat} {v v' : Nat → Int64} {S : zW} (hn : nn ≤ 12) (ha : ar ≤ 500) (hl : ∀ y, y < nn → (zR S y).length ≤ 64) (hd : (zD S).length ≤ 64) (h : zM nn ar v S) (e : ∀ k, k < 7600 → v' k = v k) : zM nn ar v' S := by
  obtain ⟨hN, hL, hX, hQ, hD⟩ := h
  refine ⟨fun i j ok => ?_, fun i j ok => ?_, ⟨⟨?_, hX.1.2⟩, fun x hx => ⟨?_, ?_⟩, fun k hk => ?_⟩, fun x hx => ⟨?_, fun k b hb => ?_⟩, ?_, fun k b hb => ?_⟩
  · have := zmA_sp hn ha ok
    unfold zmsp at this
    rw [e _ (by omega)]; exact hN i j ok
  · have := zmAL_sp hn ha ok
    unfold zmsp at this
    rw [e _ (by omega)]; exact hL i j ok
  · rw [e _ (by omega)]; exact hX.1.1
  · rw [e _ (by omega)]; exact (hX.2.1 x hx).1
  · rw [e _ (by omega)]; exact (hX.2.1 x hx).2
  · have := hX.1.2
    rw [e _ (by omega)]; exact hX.2.2 k hk
  · rw [e _ (by omega)]; exact (hQ x hx).1
  · have := (List.getElem?_eq_some_iff.mp hb).1
    have := hl x hx
    rw [e _ (by omega), e _ (by omega), e _ (by omega), e _ (by omega)]; exact (hQ x hx).2 k b hb
  · rw [e _ (by omega)]; exact hD.1
  · have := (List.getElem?_eq_some_iff.mp hb).1
    rw [e _ (by omega), e _ (by omega), e _ (by omega)]; exact hD.2 k b hb
theorem zM_congrOK {S : zW} {c : Nat} {v v' : Nat → Int64} (hok : zOK S c) (h : zM (zN S 0 0) (zN S 1 0) v S) (e : ∀ k, k < 7600 → v' k = v k) : zM (zN S 0 0) (zN S 1 0) v' S := zM_congr (zOK_n hok).1 (zOK_n hok).2 (fun y hy => by
  rw [zInv_lenR hok.1 hy]
  have := zlen64 hok.1 hy
  omega) (by have := zheld_le hok.1; omega) h e
/-- one row of longs is copied into another -/
def zcpR (k1 s1 k2 s2 : Nat) (M M' : gM) : Prop := M'.1 = M.1 ∧ (∀ a b, ¬ (a = k2 ∧ b = 0) → M'.2 a b = M.2 a b) ∧ ∀ j, M'.2 k2 0 j = if s2 ≤ j ∧ j < s2 + 7600 then M.2 k1 0 (s1 + (j - s2)) else M.2 k2 0 j
theorem zm_ckL {K : Int32 → gM → Prop} {M0 : gM} {q : Nat} (hq : q < 3) (h3 : M0.1 9 0 3 = nI q) (hK : ∀ M', zcpR 47 0 49 (7600 * q) M0 M' → ∀ M62 : gM, M62 = g_uI M' 9 0 3 ((M'.1 9 0 3) + 1) → K (M62.1 9 0 3) M62) : ∀ (n j : Nat) (M : gM), j + n = 7600 → M.1 = M0.1 → (∀ a b, ¬ (a = 49 ∧ b = 0) → M.2 a b = M0.2 a b) → (∀ i, M.2 49 0 i = if 7600 * q ≤ i ∧ i < 7600 * q + j then M0.2 47 0 (0 + (i - 7600 * q)) else M0.2 49 0 i) → wp_X9_checkpoint_L21 K (n + 1) 0 (nI j) M
  | 0, j, M, e, m1, m2, m3 => by
    unfold wp_X9_checkpoint_L21
    rw [if_pos (zk_le2 (c := 7600) (a := 7600) rfl (by omega) (by omega))]
    have : j = 7600 := by omega
    subst this
    exact hK M ⟨m1, m2, m3⟩
  | n + 1, j, M, e, m1, m2, m3 => by
    unfold wp_X9_checkpoint_L21
    rw [if_neg (zk_nle (c := 7600) (a := 7600) rfl (by omega) (by omega)), m1, h3, zmu, nI_add]
    refine ⟨vp_in_nI (by omega) (by omega), vp_in_nI (by omega) (by omega), ?_⟩
    intro M1 e1 n49 e49
    rw [zn_p1] at e49
    subst e49
    rw [nI_clamp (by omega), nI_clamp (by omega), m2 47 0 (by omega)] at e1
    refine zm_ckL hq h3 hK n (j + 1) M1 (by omega) (by rw [e1]; exact m1) (fun a b z => ?_) (fun i => ?_)
    · rw [e1]
      show (if a = 49 ∧ b = 0 then _ else M.2 a b) = _
      rw [if_neg z]; exact m2 a b z
    · rw [e1, zuL]
      by_cases c : i = 7600 * q + j
      · rw [if_pos ⟨rfl, rfl, c⟩, if_pos (by omega), c, show 0 + (7600 * q + j - 7600 * q) = j by omega]
      · rw [if_neg (fun z => c z.2.2), m3]
        by_cases c2 : 7600 * q ≤ i ∧ i < 7600 * q + j
        · rw [if_pos c2, if_pos (by omega)]
        · rw [if_neg c2, if_neg (by omega)]
theorem zm_rbL {K : Int32 → gM → Prop} {M0 : gM} {q : Nat} (hq : q < 3) (h3 : M0.1 9 0 3 = nI q) (hK : ∀ M', zcpR 49 (7600 * q) 47 0 M0 M' → K (M'.1 9 0 3) M') : ∀ (n j : Nat) (M : gM), j + n = 7600 → M.1 = M0.1 → (∀ a b, ¬ (a = 47 ∧ b = 0) → M.2 a b = M0.2 a b) → (∀ i, M.2 47 0 i = if 0 ≤ i ∧ i < 0 + j then M0.2 49 0 (7600 * q + (i - 0)) else M0.2 47 0 i) → wp_X9_rollback_L30 K (n + 1) 0 (nI j) M
  | 0, j, M, e, m1, m2, m3 => by
    unfold wp_X9_rollback_L30
    rw [if_pos (zk_le2 (c := 7600) (a := 7600) rfl (by omega) (by omega))]
    have : j = 7600 := by omega
    subst this
    exact hK M ⟨m1, m2, m3⟩
  | n + 1, j, M, e, m1, m2, m3 => by
    unfold wp_X9_rollback_L30
    rw [if_neg (zk_nle (c := 7600) (a := 7600) rfl (by omega) (by omega)), m1, h3, zmu, nI_add]
    refine ⟨vp_in_nI (by omega) (by omega), vp_in_nI (by omega) (by omega), ?_⟩
    intro M1 e1 n49 e49
    rw [zn_p1] at e49
    subst e49
    rw [nI_clamp (by omega), nI_clamp (by omega), m2 49 0 (by omega)] at e1
    refine zm_rbL hq h3 hK n (j + 1) M1 (by omega) (by rw [e1]; exact m1) (fun a b z => ?_) (fun i => ?_)
    · rw [e1]
      show (if a = 47 ∧ b = 0 then _ else M.2 a b) = _
      rw [if_neg z]; exact m2 a b z
    · rw [e1, zuL]
      by_cases c : i = j
      · rw [if_pos ⟨rfl, rfl, c⟩, if_pos (by omega), c, show 7600 * q + (j - 0) = 7600 * q + j by omega]
      · rw [if_neg (fun z => c z.2.2), m3]
        by_cases c2 : 0 ≤ i ∧ i < 0 + j
        · rw [if_pos c2, if_pos (by omega)]
        · rw [if_neg c2, if_neg (by omega)]
theorem zm_laysL {K : gM → Prop} {M0 : gM} {x : Int32} {k1 k2 : Nat} (hx : (x = 1 ∧ k1 = 47 ∧ k2 = 48) ∨ (x = 0 ∧ k1 = 48 ∧ k2 = 47)) (hK : ∀ M', zcpR k1 0 k2 0 M0 M' → K M') : ∀ (n j : Nat) (M : gM), j + n = 7600 → M.1 = M0.1 → (∀ a b, ¬ (a = k2 ∧ b = 0) → M.2 a b = M0.2 a b) → (∀ i, M.2 k2 0 i = if 0 ≤ i ∧ i < 0 + j then M0.2 k1 0 (0 + (i - 0)) else M0.2 k2 0 i) → wp_X9_lays_L2 K (n + 1) 0 x (nI j) M
  | 0, j, M, e, m1, m2, m3 => by
    unfold wp_X9_lays_L2
    rw [if_pos (zk_le2 (c := 7600) (a := 7600) rfl (by omega) (by omega))]
    have : j = 7600 := by omega
    subst this
    exact hK M ⟨m1, m2, m3⟩
  | n + 1, j, M, e, m1, m2, m3 => by
    have v : vp_in (nI j) 7600 := vp_in_nI (by omega) (by omega)
    have step : ∀ M1 : gM, M1 = g_uL M k2 0 j (M.2 k1 0 j) → ∀ n40 : Int32, n40 = nI j + Int32.ofInt 1 → wp_X9_lays_L2 K (n + 1) 0 x n40 M1 := by
      intro M1 e1 n49 e49
      rw [zn_p1] at e49
      subst e49
      rw [m2 k1 0 (by omega)] at e1
      refine zm_laysL hx hK n (j + 1) M1 (by omega) (by rw [e1]; exact m1) (fun a b z => ?_) (fun i => ?_)
      · rw [e1]
        show (if a = k2 ∧ b = 0 then _ else M.2 a b) = _
        rw [if_neg z]; exact m2 a b z
      · rw [e1, zuL]
        by_cases c : i = j
        · rw [if_pos ⟨rfl, rfl, c⟩, if_pos (by omega), c, show 0 + (j - 0) = j by omega]
        · rw [if_neg (fun z => c z.2.2), m3]
          by_cases c2 : 0 ≤ i ∧ i < 0 + j
          · rw [if_pos c2, if_pos (by omega)]
          · rw [if_neg c2, if_neg (by omega)]
    unfold wp_X9_lays_L2
    rw [if_neg (zk_nle (c := 7600) (a := 7600) rfl (by omega) (by omega)), nI_clamp (by omega)]
    rcases hx with ⟨rfl, rfl, rfl⟩ | ⟨rfl, rfl, rfl⟩
    · rw [if_neg (by decide)]
      exact ⟨v, v, step⟩
    · rw [if_pos rfl]
      exact ⟨v, v, step⟩
theorem zm_lays {K : gM → Prop} {M : gM} {x : Int32} {k1 k2 : Nat} (hx : (x = 1 ∧ k1 = 47 ∧ k2 = 48) ∨ (x = 0 ∧ k1 = 48 ∧ k2 = 47)) (hK : ∀ M', zcpR k1 0 k2 0 M M' → K M') : wp_X9_lays 0 x M K := ⟨7601, zm_laysL hx hK 7600 0 M (by omega) rfl (fun _ _ _ => rfl) (fun i => by rw [if_neg (by omega)])⟩
/-! commit, checkpoint, rollback -/
theorem zx_needCheckpoint {q : Nat} {M : gM} {K : gM → Prop} {KX : Nat → gM → Prop} (h : M.1 8 0 7 = nI q) (hq : q ≤ 3) (h1 : q ≠ 0 → K M) (h0 : q = 0 → KX 1 M) : wp_X8_needCheckpoint 0 M K KX := by
  unfold wp_X8_needCheckpoint
  rw [h]
  by_cases c : q = 0
  · subst c
    rw [if_pos (by decide)]
    exact h0 rfl
  · rw [if_neg (zk_nlt (c := 1) (a := 1) rfl (by omega) (by omega)), if_pos (zk_le (c := 3) (a := 3) rfl hq (by omega))]
    exact h1 c
theorem zks_drop {ks : List zW} {i : Nat} {T : zW} (h : ks.dropLast[i]? = some T) : ks[i]? = some T := by
  rw [List.getElem?_dropLast] at h
  split at h
  · exact h
  · cases h
theorem zTp_drop {S : zW} {ks : List zW} {tx : List Nat} {c : Nat} (h : zTp S ks tx c) : zTp S ks.dropLast tx c := ⟨h.1, fun i T hT => h.2.1 i T (zks_drop hT), by rw [List.length_dropLast]; have := h.2.2.1; omega, h.2.2.2⟩
theorem zTc_drop {M : gM} {S : zW} {ks : List zW} {tx : List Nat} {er : Nat → Int32} {c : Nat} (hp : zTp S ks tx c) (h : zTc M S ks tx er) (h0 : ks.length ≠ 0) : zTc (g_uI M 8 0 7 (nI (ks.length - 1))) S ks.dropLast tx er := by
  obtain ⟨h1, h2, h3, h4, h5, h6⟩ := h
  have e : ∀ k o, k ≠ 8 → (g_uI M 8 0 7 (nI (ks.length - 1))).1 k o = M.1 k o := fun k o hk => by
    show (if k = 8 ∧ o = 0 then _ else M.1 k o) = _
    rw [if_neg (by omega)]
  have ez : ∀ w k o, zin w k o → k ≠ 8 := fun w k o q => by unfold zin at q; omega
  refine ⟨zC_cong (zOK_n hp.1).1 h1 (fun k o a b q => ⟨e k o (ez _ _ _ q), rfl⟩), fun i T hT => zC_cong (zOK_n (hp.2.1 i T (zks_drop hT))).1 (h2 i T (zks_drop hT)) (fun k o a b q => ⟨e k o (ez _ _ _ q), rfl⟩), ?_, ?_, fun i a ha => ?_, fun i hi => ?_⟩
  · rw [zuI, if_pos ⟨rfl, rfl, rfl⟩, List.length_dropLast]
  · rw [zuI, if_neg (by omega)]; exact h4
  · rw [e 44 0 (by omega)]; exact h5 i a ha
  · rw [e 45 0 (by omega)]; exact h6 i hi
theorem zTm_drop {M : gM} {S : zW} {ks : List zW} {tx : List Nat} {er : Nat → Int32} (h : zTm M S ks tx er) (h0 : ks.length ≠ 0) : zTm (g_uI M 9 0 3 (nI (ks.length - 1))) S ks.dropLast tx er := by
  obtain ⟨h1, h2, h3, h4, h5, h6, h7⟩ := h
  have e : ∀ k, k ≠ 9 → (g_uI M 9 0 3 (nI (ks.length - 1))).1 k 0 = M.1 k 0 := fun k hk => by
    show (if k = 9 ∧ 0 = 0 then _ else M.1 k 0) = _
    rw [if_neg (by omega)]
  refine ⟨h1, fun i T hT => h2 i T (zks_drop hT), ?_, ?_, fun i a ha => ?_, fun i hi => ?_, ?_⟩
  · rw [zuI, if_pos ⟨rfl, rfl, rfl⟩, List.length_dropLast]
  · rw [zuI, if_neg (by omega)]; exact h4
  · rw [e 51 (by omega)]; exact h5 i a ha
  · rw [e 52 (by omega)]; exact h6 i hi
  · rw [e 50 (by omega)]; exact h7
theorem zsM_u8 {M : gM} {i : Nat} {v : Int32} : zsM M (g_uI M 8 0 i v) := fun k o q => ⟨by
  show (if k = 8 ∧ o = 0 then _ else M.1 k o) = _
  rw [if_neg (by omega)], rfl⟩
theorem zq_commit {t : gT} {M : gM} {c : Nat} {Nx : gM → Prop} (h : zT M c) (hN : ∀ M', zT M' c → Nx M') : wp_L_commit t 0 0 M (fun r M1 => wp_X9_commit 0 M1 (fun rb M2 => zFin Nx r rb.toInt64 M2)) := by
  have h' := h
  obtain ⟨S, ks, tx, er, h1, h2, h3⟩ := h'
  have hk := h3.2.2.1
  unfold wp_L_commit wp_X8_commit
  refine zx_needCheckpoint h1.2.2.1 hk (fun c0 => ?_) (fun c0 => ?_)
  · intro M1 e1
    rw [h1.2.2.1, zn_s1 (by omega)] at e1
    have hc1 : zTc M1 S ks.dropLast tx er := by rw [e1]; exact zTc_drop h3 h1 c0
    have hm1 : zTm M1 S ks tx er := zTm_sM h2 (by rw [e1]; exact zsM_u8)
    refine ⟨zvi (by omega) (by omega), ?_⟩
    intro M2 e2
    rw [e1, zuI, if_pos ⟨rfl, rfl, rfl⟩, ← e1] at e2
    have hc2 := zTc_X (zTp_drop h3) hc1 (zout_X e2)
    have hm2 := zTm_X hm1 (zout_X e2)
    unfold wp_X9_commit
    intro M3 e3
    subst e3
    have hm3 := zTm_u9 (v := 0) hm2
    rw [hm3.2.2.1, if_neg (zk_ne (c := 0) (a := 0) rfl c0 (by omega) (by omega)), zn_s1 (by omega)]
    intro M4 e4
    have hm4 : zTm M4 S ks.dropLast tx er := by rw [e4]; exact zTm_drop hm3 c0
    have hc4 : zTc M4 S ks.dropLast tx er := by
      rw [e4]
      exact zTc_sC (zTp_drop h3) (zTc_sC (zTp_drop h3) hc2 (zsC_u9 (i := 4) (v := 0))) zsC_u9
    refine zfin_0 ?_ ?_ (hN _ ⟨S, _, tx, er, hc4, hm4, zTp_drop h3⟩)
    · rw [e4, zuI, if_neg (by omega)]; exact zth
    · rw [e4, zuI2, zuI2, e2, zcl0, zuL, if_pos ⟨rfl, rfl, rfl⟩, zuI, if_pos ⟨rfl, rfl, rfl⟩]
  · rw [if_pos rfl]
    unfold wp_X9_commit
    intro M3 e3
    subst e3
    have hm3 := zTm_u9 (v := 0) h2
    rw [hm3.2.2.1, c0, if_pos (by decide)]
    unfold wp_X9_fails
    intro M4 e4
    rw [e4]
    exact zthr (zT_9 h) hN (by decide)
