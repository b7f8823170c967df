/-! both objects: what they hold -/
def zOK (S : zW) (c : Nat) : Prop := zInv S 0 0 ∧ zBd S c ∧ zDq S
def zTc (M : gM) (S : zW) (ks : List zW) (tx : List Nat) (er : Nat → Int32) : Prop := zC 0 (zN S 0 0) (zN S 1 0) M S ∧ (∀ i T, ks[i]? = some T → zC (2 + i) (zN T 0 0) (zN T 1 0) M T) ∧ M.1 8 0 7 = nI ks.length ∧ M.1 8 0 1 = nI tx.length ∧ (∀ i c, tx[i]? = some c → M.1 44 0 i = nI c) ∧ ∀ i, i < 3 → M.1 45 0 i = er i
def zTm (M : gM) (S : zW) (ks : List zW) (tx : List Nat) (er : Nat → Int32) : Prop := zM (zN S 0 0) (zN S 1 0) (M.2 47 0) S ∧ (∀ i T, ks[i]? = some T → zM (zN T 0 0) (zN T 1 0) (fun k => M.2 49 0 (7600 * i + k)) T) ∧ M.1 9 0 3 = nI ks.length ∧ M.1 9 0 7 = nI tx.length ∧ (∀ i c, tx[i]? = some c → M.1 51 0 i = nI c) ∧ (∀ i, i < 3 → M.1 52 0 i = er i) ∧ M.1 50 0 = k_tpl
def zTp (S : zW) (ks : List zW) (tx : List Nat) (c : Nat) : Prop := zOK S c ∧ (∀ (i : Nat) (T : zW), ks[i]? = some T → zOK T c) ∧ ks.length ≤ 3 ∧ tx.length ≤ 120 ∧ ∀ a ∈ tx, 32 ≤ a ∧ a ≤ 126
def zT (M : gM) (c : Nat) : Prop := ∃ (S : zW) (ks : List zW) (tx : List Nat) (er : Nat → Int32), zTc M S ks tx er ∧ zTm M S ks tx er ∧ zTp S ks tx c
def zsM (M M' : gM) : Prop := ∀ k o, (k = 9 ∨ 47 ≤ k) → M'.1 k o = M.1 k o ∧ M'.2 k o = M.2 k o
def zsC (M M' : gM) : Prop := ∀ k o, (k ≤ 8 ∨ (10 ≤ k ∧ k ≤ 46) ∨ 59 ≤ k) → M'.1 k o = M.1 k o ∧ M'.2 k o = M.2 k o
theorem zsM_refl {M : gM} : zsM M M := fun _ _ _ => ⟨rfl, rfl⟩
theorem zsC_refl {M : gM} : zsC M M := fun _ _ _ => ⟨rfl, rfl⟩
theorem zsC_trans {M0 M1 M2 : gM} (h : zsC M0 M1) (h2 : zsC M1 M2) : zsC M0 M2 := fun k o q => ⟨(h2 k o q).1.trans (h k o q).1, (h2 k o q).2.trans (h k o q).2⟩
theorem zsM_trans {M0 M1 M2 : gM} (h : zsM M0 M1) (h2 : zsM M1 M2) : zsM M0 M2 := fun k o q => ⟨(h2 k o q).1.trans (h k o q).1, (h2 k o q).2.trans (h k o q).2⟩
theorem zsM_F {M M' : gM} {w : Nat} (h : zF w M M') : zsM M M' := fun k o q => h k o (by unfold zin; omega)
theorem zsC_FM {M M' : gM} (h : zFM M M') : zsC M M' := fun k o q => ⟨by rw [h.1], h.2 k o (by omega) (by omega) (by omega)⟩
theorem zsC_u9 {M : gM} {i : Nat} {v : Int32} : zsC M (g_uI M 9 0 i v) := fun k o q => ⟨by
  show (if k = 9 ∧ o = 0 then _ else M.1 k o) = _
  rw [if_neg (by omega)], rfl⟩
/-- a world's cells elsewhere -/
theorem zC_cong {w nn ar : Nat} {M M' : gM} {S : zW} (hn : nn ≤ 12) (h : zC w nn ar M S) (e : ∀ k o, k ≠ 10 → k ≠ 11 → zin w k o → M'.1 k o = M.1 k o ∧ M'.2 k o = M.2 k o) : zC w nn ar M' S := by
  obtain ⟨hN, hL, hX, hQ, hD⟩ := h
  have hk : ∀ i, i < 20 → zcK i ≠ 10 ∧ zcK i ≠ 11 := by decide
  have hkL : ∀ i, i < 9 → zcKL i ≠ 10 ∧ zcKL i ≠ 11 := by decide
  refine ⟨fun a b ok => ?_, fun a b ok => ?_, ⟨?_, fun k hk => ?_⟩, fun x hx => ⟨?_, fun k b hb => ?_⟩, ?_, fun k b hb => ?_⟩
  · have ha : a < 20 := by unfold zokC at ok; omega
    rw [(e _ _ (hk a ha).1 (hk a ha).2 (zcN_in ha (fun q => by unfold zokC at ok; omega))).1]
    exact hN a b ok
  · have ha : a < 9 := by unfold zokL at ok; omega
    rw [(e _ _ (hkL a ha).1 (hkL a ha).2 (zcL_in ha (fun q => by unfold zokL at ok; omega) (fun q => by unfold zokL at ok; omega))).2]
    exact hL a b ok
  · rw [(e 32 w (by omega) (by omega) (by unfold zin; omega)).1]; exact hX.1
  · rw [(e 40 w (by omega) (by omega) (by unfold zin; omega)).1]; exact hX.2 k hk
  · rw [(e 3 (12 * w + x) (by omega) (by omega) (by unfold zin; omega)).1]; exact (hQ x hx).1
  · rw [(e 23 (12 * w + x) (by omega) (by omega) (by unfold zin; omega)).1, (e 24 (12 * w + x) (by omega) (by omega) (by unfold zin; omega)).2, (e 25 (12 * w + x) (by omega) (by omega) (by unfold zin; omega)).1]; exact (hQ x hx).2 k b hb
  · rw [(e 2 w (by omega) (by omega) (by unfold zin; omega)).1]; exact hD.1
  · rw [(e 19 w (by omega) (by omega) (by unfold zin; omega)).1, (e 20 w (by omega) (by omega) (by unfold zin; omega)).1, (e 21 w (by omega) (by omega) (by unfold zin; omega)).2]; exact hD.2 k b hb
theorem zC_F {w w' nn ar : Nat} {M M' : gM} {S : zW} (hn : nn ≤ 12) (hw : w ≠ w') (h : zC w' nn ar M S) (hF : zF w M M') : zC w' nn ar M' S := zC_cong hn h (fun k o a b q => hF k o (by unfold zin at q ⊢; omega))
theorem zC_sC {w nn ar : Nat} {M M' : gM} {S : zW} (hn : nn ≤ 12) (h : zC w nn ar M S) (hs : zsC M M') : zC w nn ar M' S := zC_cong hn h (fun k o a b q => hs k o (by unfold zin at q; omega))
theorem zOK_n {S : zW} {c : Nat} (h : zOK S c) : zN S 0 0 ≤ 12 ∧ zN S 1 0 ≤ 500 := ⟨h.1.1.1.2, h.1.2.2.1.1⟩
theorem zTc_sC {M M' : gM} {S : zW} {ks : List zW} {tx : List Nat} {er : Nat → Int32} {c : Nat} (hp : zTp S ks tx c) (h : zTc M S ks tx er) (hs : zsC M M') : zTc M' S ks tx er := by
  obtain ⟨h1, h2, h3, h4, h5, h6⟩ := h
  refine ⟨zC_sC (zOK_n hp.1).1 h1 hs, fun i T hT => zC_sC (zOK_n (hp.2.1 i T hT)).1 (h2 i T hT) hs, ?_, ?_, fun i a ha => ?_, fun i hi => ?_⟩
  · rw [(hs 8 0 (by omega)).1]; exact h3
  · rw [(hs 8 0 (by omega)).1]; exact h4
  · rw [(hs 44 0 (by omega)).1]; exact h5 i a ha
  · rw [(hs 45 0 (by omega)).1]; exact h6 i hi
theorem zTm_sM {M M' : gM} {S : zW} {ks : List zW} {tx : List Nat} {er : Nat → Int32} (h : zTm M S ks tx er) (hs : zsM M M') : zTm M' S ks tx er := by
  obtain ⟨h1, h2, h3, h4, h5, h6, h7⟩ := h
  refine ⟨?_, fun i T hT => ?_, ?_, ?_, fun i a ha => ?_, fun i hi => ?_, ?_⟩
  · rw [(hs 47 0 (by omega)).2]; exact h1
  · rw [(hs 49 0 (by omega)).2]; exact h2 i T hT
  · rw [(hs 9 0 (by omega)).1]; exact h3
  · rw [(hs 9 0 (by omega)).1]; exact h4
  · rw [(hs 51 0 (by omega)).1]; exact h5 i a ha
  · rw [(hs 52 0 (by omega)).1]; exact h6 i hi
  · rw [(hs 50 0 (by omega)).1]; exact h7
/-- the world at hand has changed, nothing else -/
theorem zTc_now {M M' : gM} {S S' : zW} {ks : List zW} {tx : List Nat} {er : Nat → Int32} {c : Nat} (hp : zTp S ks tx c) (h : zTc M S ks tx er) (h' : zCW M 0 (zN S' 0 0) (zN S' 1 0) S' M') : zTc M' S' ks tx er := by
  obtain ⟨h1, h2, h3, h4, h5, h6⟩ := h
  have e : ∀ k, k = 8 ∨ k = 44 ∨ k = 45 → M'.1 k 0 = M.1 k 0 := fun k hk => (h'.1 k 0 (by unfold zin; omega)).1
  refine ⟨h'.2, fun i T hT => zC_F (zOK_n (hp.2.1 i T hT)).1 (by omega) (h2 i T hT) h'.1, ?_, ?_, fun i a ha => ?_, fun i hi => ?_⟩
  · rw [e 8 (by omega)]; exact h3
  · rw [e 8 (by omega)]; exact h4
  · rw [e 44 (by omega)]; exact h5 i a ha
  · rw [e 45 (by omega)]; exact h6 i hi
theorem zTm_now {M M' : gM} {S S' : zW} {ks : List zW} {tx : List Nat} {er : Nat → Int32} (h : zTm M S ks tx er) (h' : zMW M (zN S' 0 0) (zN S' 1 0) S' M') : zTm M' S' ks tx er := by
  obtain ⟨h1, h2, h3, h4, h5, h6, h7⟩ := h
  refine ⟨h'.2, fun i T hT => ?_, ?_, ?_, fun i a ha => ?_, fun i hi => ?_, ?_⟩
  · rw [h'.1.2 49 0 (by omega) (by omega) (by omega)]; exact h2 i T hT
  · rw [h'.1.1]; exact h3
  · rw [h'.1.1]; exact h4
  · rw [h'.1.1]; exact h5 i a ha
  · rw [h'.1.1]; exact h6 i hi
  · rw [h'.1.1]; exact h7
theorem zTm_u9 {M : gM} {S : zW} {ks : List zW} {tx : List Nat} {er : Nat → Int32} {v : Int32} (h : zTm M S ks tx er) : zTm (g_uI M 9 0 4 v) S ks tx er := by
  obtain ⟨h1, h2, h3, h4, h5, h6, h7⟩ := h
  have e : ∀ k, k ≠ 9 → (g_uI M 9 0 4 v).1 k 0 = M.1 k 0 := fun k hk => by
    show (if k = 9 ∧ 0 = 0 then _ else M.1 k 0) = _
    rw [if_neg (by omega)]
  refine ⟨h1, h2, ?_, ?_, fun i a ha => ?_, fun i hi => ?_, ?_⟩
  · rw [zuI, if_neg (by omega)]; exact h3
  · rw [zuI, if_neg (by omega)]; exact h4
  · rw [e 51 (by omega)]; exact h5 i a ha
  · rw [e 52 (by omega)]; exact h6 i hi
  · rw [e 50 (by omega)]; exact h7
theorem zth {M : gM} {v : Int32} : (g_uI M 9 0 4 v).1 9 0 4 = v := by rw [zuI, if_pos ⟨rfl, rfl, rfl⟩]
theorem zOK_mono {S : zW} {c c' : Nat} (h : zOK S c) (hc : c ≤ c') : zOK S c' := ⟨h.1, zBd_mono h.2.1 hc, h.2.2⟩
theorem zTp_mono {S : zW} {ks : List zW} {tx : List Nat} {c c' : Nat} (h : zTp S ks tx c) (hc : c ≤ c') : zTp S ks tx c' := ⟨zOK_mono h.1 hc, fun i T hT => zOK_mono (h.2.1 i T hT) hc, h.2.2⟩
/-! how the law ends a call -/
def zFin (Nx : gM → Prop) (kc : Int32) (rb : Int64) (M : gM) : Prop := if M.1 9 0 4 = kc then (if kc = 0 then vp_in 0 1 ∧ (if M.2 59 0 (0 : Int32).toNatClampNeg = rb then Nx M else (0 : Int32) = 1) else Nx M) else (0 : Int32) = 1
theorem zfin_0 {Nx : gM → Prop} {rb : Int64} {M : gM} (h : M.1 9 0 4 = 0) (ho : M.2 59 0 0 = rb) (hN : Nx M) : zFin Nx 0 rb M := by
  unfold zFin
  rw [if_pos h, if_pos rfl]
  refine ⟨zvi (by omega) (by omega), ?_⟩
  rw [zcl0, if_pos ho]; exact hN
theorem zfin_x {Nx : gM → Prop} {kc : Int32} {rb : Int64} {M : gM} (h : M.1 9 0 4 = kc) (h0 : kc ≠ 0) (hN : Nx M) : zFin Nx kc rb M := by
  unfold zFin
  rw [if_pos h, if_neg h0]; exact hN
/-- the class has answered: out is written -/
theorem zout {M M1 : gM} {r : Int64} (e : M1 = g_uL M 59 0 (0 : Int32).toNatClampNeg r) : zsC M M1 = zsC M M1 ∧ M1.2 59 0 0 = r ∧ zsM M M1 = zsM M M1 := ⟨rfl, by rw [e, zuL]; simp, rfl⟩
def zsX (M M' : gM) : Prop := ∀ k o, k ≠ 59 → M'.1 k o = M.1 k o ∧ M'.2 k o = M.2 k o
theorem zout_X {M M1 : gM} {r : Int64} (e : M1 = g_uL M 59 0 (0 : Int32).toNatClampNeg r) : zsX M M1 := fun k o q => ⟨by rw [e]; rfl, by
  rw [e]
  show (if k = 59 ∧ o = 0 then _ else M.2 k o) = _
  rw [if_neg (by omega)]⟩
theorem zTc_X {M M' : gM} {S : zW} {ks : List zW} {tx : List Nat} {er : Nat → Int32} {c : Nat} (hp : zTp S ks tx c) (h : zTc M S ks tx er) (hs : zsX M M') : zTc M' S ks tx er := by
  obtain ⟨h1, h2, h3, h4, h5, h6⟩ := h
  refine ⟨zC_cong (zOK_n hp.1).1 h1 (fun k o a b q => hs k o (by unfold zin at q; omega)), fun i T hT => zC_cong (zOK_n (hp.2.1 i T hT)).1 (h2 i T hT) (fun k o a b q => hs k o (by unfold zin at q; omega)), ?_, ?_, fun i a ha => ?_, fun i hi => ?_⟩
  · rw [(hs 8 0 (by omega)).1]; exact h3
  · rw [(hs 8 0 (by omega)).1]; exact h4
  · rw [(hs 44 0 (by omega)).1]; exact h5 i a ha
  · rw [(hs 45 0 (by omega)).1]; exact h6 i hi
theorem zTm_X {M M' : gM} {S : zW} {ks : List zW} {tx : List Nat} {er : Nat → Int32} (h : zTm M S ks tx er) (hs : zsX M M') : zTm M' S ks tx er := by
  obtain ⟨h1, h2, h3, h4, h5, h6, h7⟩ := h
  refine ⟨?_, fun i T hT => ?_, ?_, ?_, fun i a ha => ?_, fun i hi => ?_, ?_⟩
  · rw [(hs 47 0 (by omega)).2]; exact h1
  · rw [(hs 49 0 (by omega)).2]; exact h2 i T hT
  · rw [(hs 9 0 (by omega)).1]; exact h3
  · rw [(hs 9 0 (by omega)).1]; exact h4
  · rw [(hs 51 0 (by omega)).1]; exact h5 i a ha
  · rw [(hs 52 0 (by omega)).1]; exact h6 i hi
  · rw [(hs 50 0 (by omega)).1]; exact h7
