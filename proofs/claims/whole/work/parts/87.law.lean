/-! the law's loop -/
theorem yite {c : Prop} [Decidable c] {P Q : Prop} (hp : P) (hq : Q) : if c then P else Q := by
  split
  · exact hp
  · exact hq
theorem yiten {c : Prop} [Decidable c] {P Q : Prop} (hc : ¬ c) (hq : Q) : if c then P else Q := (if_neg hc).symm ▸ hq
theorem yitep {c : Prop} [Decidable c] {P Q : Prop} (hc : c) (hp : P) : if c then P else Q := (if_pos hc).symm ▸ hp
def yNx (t : gT) (f j : Nat) (M : gM) : Prop := ∀ n : Int32, n = nI j + Int32.ofInt (5) → wp_L_law_L33 t f 0 0 0 n M
set_option maxHeartbeats 4000000 in
theorem zlaw_step {t : gT} {f j c : Nat} {M : gM} (hL : j + 4 < gScL t) (hb : gScL t ≤ 2561) (hc : c < 4000) (h : zT M c) (hN : ∀ M', zT M' (c + 2) → yNx t f j M') : wp_L_law_L33 t (f + 1) 0 0 0 (nI j) M := by
  have h0 : ∀ M', zT M' c → yNx t f j M' := fun M' q => hN M' (zT_mono q (by omega))
  have v0 : vp_in (nI j) (gScL t) := vp_in_nI (by omega) (by omega)
  have v1 : vp_in (nI j + 1) (gScL t) := by rw [zad]; exact vp_in_nI (by omega) (by omega)
  have v2 : vp_in (nI j + 2) (gScL t) := by rw [zad]; exact vp_in_nI (by omega) (by omega)
  have v3 : vp_in (nI j + 3) (gScL t) := by rw [zad]; exact vp_in_nI (by omega) (by omega)
  have v4 : vp_in (nI j + 4) (gScL t) := by rw [zad]; exact vp_in_nI (by omega) (by omega)
  unfold wp_L_law_L33
  have en : ¬ Int32.ofNat (gScL t) - 5 < nI j := by
    have e : Int32.ofNat (gScL t) - 5 = nI (gScL t - 5) := zn_sub (b := 5) (by omega)
    rw [e]; exact nI_nlt (by omega) (by omega)
  refine yiten en ⟨v0, ?_⟩
  refine yite ⟨v1, zq_type (Nx := yNx t f j) (V := vp_in (nI j + 1) (gScL t)) h v1 h0⟩ ?_
  refine yite (zq_clearText (Nx := yNx t f j) h h0) ?_
  refine yite (zq_loadTree (Nx := yNx t f j) h h0) ?_
  refine yite ⟨v1, zq_loadTemplate (Nx := yNx t f j) (V := vp_in (nI j + 1) (gScL t)) h v1 h0⟩ ?_
  refine yite ⟨v1, zq_errorPosition (Nx := yNx t f j) (V := vp_in (nI j + 1) (gScL t)) h v1 h0⟩ ?_
  refine yite (zq_nodes (Nx := yNx t f j) h h0) ?_
  refine yite ⟨v1, zq_parentOf (Nx := yNx t f j) (V := vp_in (nI j + 1) (gScL t)) h v1 h0⟩ ?_
  refine yite ⟨v1, zq_children (Nx := yNx t f j) (V := vp_in (nI j + 1) (gScL t)) h v1 h0⟩ ?_
  refine yite ⟨v1, zq_tieRule (Nx := yNx t f j) (V := vp_in (nI j + 1) (gScL t)) h v1 h0⟩ ?_
  refine yite ⟨v1, v2, zq_setFlowWeight (Nx := yNx t f j) (V := fun _ p => vp_in (nI j + 1) (gScL t) ∧ vp_in (nI j + 2) (gScL t) ∧ p) h (fun _ _ q => ⟨v1, v2, q⟩) h0⟩ ?_
  refine yite ⟨v1, v2, zq_setNodeWeight (Nx := yNx t f j) (V := fun _ p => vp_in (nI j + 1) (gScL t) ∧ vp_in (nI j + 2) (gScL t) ∧ p) h (fun _ _ q => ⟨v1, v2, q⟩) h0⟩ ?_
  refine yite ⟨v1, v2, zq_assign (Nx := yNx t f j) (V := fun _ p => vp_in (nI j + 1) (gScL t) ∧ vp_in (nI j + 2) (gScL t) ∧ p) h (fun _ _ q => ⟨v1, v2, q⟩) h0⟩ ?_
  refine yite ⟨v1, zq_leafOf (Nx := yNx t f j) (V := vp_in (nI j + 1) (gScL t)) h v1 h0⟩ ?_
  refine yite ⟨v1, zq_setLinkRate (Nx := yNx t f j) (V := vp_in (nI j + 1) (gScL t)) h v1 h0⟩ ?_
  refine yite ⟨v1, v2, v3, v4, zq_enqueue (Nx := yNx t f j) (V := fun _ p => vp_in (nI j + 1) (gScL t) ∧ vp_in (nI j + 2) (gScL t) ∧ vp_in (nI j + 3) (gScL t) ∧ vp_in (nI j + 4) (gScL t) ∧ p) (by omega) h (fun _ _ q => ⟨v1, v2, v3, v4, q⟩) hN⟩ ?_
  refine yite (zq_dequeue (Nx := yNx t f j) (by omega) h hN) ?_
  refine yite (zq_transmit (Nx := yNx t f j) (by omega) h hN) ?_
  refine yite ⟨v1, zq_advance (Nx := yNx t f j) (V := vp_in (nI j + 1) (gScL t)) (by omega) h v1 hN⟩ ?_
  refine yite (zq_time (Nx := yNx t f j) h h0) ?_
  refine yite (zq_nextRelease (Nx := yNx t f j) h h0) ?_
  refine yite (zq_shaped (Nx := yNx t f j) h h0) ?_
  refine yite (zq_waiting (Nx := yNx t f j) h h0) ?_
  refine yite ⟨v1, zq_queueLength (Nx := yNx t f j) (V := vp_in (nI j + 1) (gScL t)) h v1 h0⟩ ?_
  refine yite ⟨v1, v2, zq_queueItem (Nx := yNx t f j) (V := fun _ p => vp_in (nI j + 1) (gScL t) ∧ vp_in (nI j + 2) (gScL t) ∧ p) (by omega) h (fun _ _ q => ⟨v1, v2, q⟩) h0⟩ ?_
  refine yite ⟨v1, v2, zq_queueRank (Nx := yNx t f j) (V := fun _ p => vp_in (nI j + 1) (gScL t) ∧ vp_in (nI j + 2) (gScL t) ∧ p) (by omega) h (fun _ _ q => ⟨v1, v2, q⟩) h0⟩ ?_
  refine yite ⟨v1, zq_virtualTime (Nx := yNx t f j) (V := vp_in (nI j + 1) (gScL t)) h v1 h0⟩ ?_
  refine yite ⟨v1, v2, zq_state (Nx := yNx t f j) (V := fun _ p => vp_in (nI j + 1) (gScL t) ∧ vp_in (nI j + 2) (gScL t) ∧ p) h (fun _ _ q => ⟨v1, v2, q⟩) h0⟩ ?_
  refine yite ⟨v1, v2, v3, v4, zq_rankIf (Nx := yNx t f j) (V := fun _ p => vp_in (nI j + 1) (gScL t) ∧ vp_in (nI j + 2) (gScL t) ∧ vp_in (nI j + 3) (gScL t) ∧ vp_in (nI j + 4) (gScL t) ∧ p) h (fun _ _ q => ⟨v1, v2, v3, v4, q⟩) h0⟩ ?_
  refine yite ⟨v1, zq_peek (Nx := yNx t f j) (V := vp_in (nI j + 1) (gScL t)) (by omega) h v1 h0⟩ ?_
  refine yite ⟨v1, zq_departureIf (Nx := yNx t f j) (V := vp_in (nI j + 1) (gScL t)) (by omega) h v1 h0⟩ ?_
  refine yite ⟨v1, zq_flowOf (Nx := yNx t f j) (V := vp_in (nI j + 1) (gScL t)) h v1 h0⟩ ?_
  refine yite ⟨v1, zq_deadlineOf (Nx := yNx t f j) (V := vp_in (nI j + 1) (gScL t)) h v1 h0⟩ ?_
  refine yite ⟨v1, zq_departureOf (Nx := yNx t f j) (V := vp_in (nI j + 1) (gScL t)) h v1 h0⟩ ?_
  refine yite ⟨v1, zq_sent (Nx := yNx t f j) (V := vp_in (nI j + 1) (gScL t)) h v1 h0⟩ ?_
  refine yite ⟨v1, zq_sentBytes (Nx := yNx t f j) (V := vp_in (nI j + 1) (gScL t)) h v1 h0⟩ ?_
  refine yite ⟨v1, zq_totalDelay (Nx := yNx t f j) (V := vp_in (nI j + 1) (gScL t)) h v1 h0⟩ ?_
  refine yite ⟨v1, zq_greatestDelay (Nx := yNx t f j) (V := vp_in (nI j + 1) (gScL t)) h v1 h0⟩ ?_
  refine yite ⟨v1, zq_missed (Nx := yNx t f j) (V := vp_in (nI j + 1) (gScL t)) h v1 h0⟩ ?_
  refine yite ⟨v1, zq_share (Nx := yNx t f j) (V := vp_in (nI j + 1) (gScL t)) (by omega) h v1 h0⟩ ?_
  refine yite (zq_checkpoint (Nx := yNx t f j) h h0) ?_
  refine yite (zq_rollback (Nx := yNx t f j) h h0) ?_
  refine yite (zq_commit (Nx := yNx t f j) h h0) ?_
  refine yite (zq_fingerprint (Nx := yNx t f j) (by omega) h h0) ?_
  exact h0 M h
theorem ylow : ∀ L, L < 5 → (Int32.ofNat L - 5 : Int32) < 0 := by decide
theorem zlaw {t : gT} (hb : gScL t ≤ 2561) : ∀ (f j c : Nat) (M : gM), zT M c → c + 2 * f ≤ 3000 → gScL t + 5 < j + 5 * f → j ≤ gScL t + 5 → wp_L_law_L33 t f 0 0 0 (nI j) M
  | 0, j, c, M, _, _, h1, h2 => by omega
  | f + 1, j, c, M, h, hc, h1, h2 => by
    by_cases q : j + 4 < gScL t
    · refine zlaw_step q hb (by omega) h (fun M' h' n en => ?_)
      have e : nI j + Int32.ofInt 5 = nI (j + 5) := nI_add j 5
      rw [en, e]
      exact zlaw hb f (j + 5) (c + 2) M' h' (by omega) (by omega) (by omega)
    · unfold wp_L_law_L33
      refine yitep ?_ rfl
      by_cases q5 : 5 ≤ gScL t
      · have e : Int32.ofNat (gScL t) - 5 = nI (gScL t - 5) := zn_sub (b := 5) q5
        rw [e]; exact nI_lt (by omega) (by omega)
      · have l := ylow (gScL t) (by omega)
        have p := nI_pos' (n := j) (by omega)
        rw [Int32.lt_iff_toInt_lt] at l ⊢
        rw [Int32.le_iff_toInt_le] at p
        omega
theorem goal (L : Nat) (xs : Nat → Int32) (hL : L ≤ 2561) : g_Goal L xs := by
  unfold g_Goal
  refine zstart (Q := fun M => ∃ f : Nat, f ≤ 600 ∧ ∀ t : gT, gScL t = L → gScX t = xs → wp_L_law_L33 t f 0 0 0 1 M) (fun M h => ?_)
  obtain ⟨F, hF⟩ : ∃ F : Nat, F = 520 := ⟨520, rfl⟩
  refine ⟨F, by omega, fun t hl _ => ?_⟩
  exact zlaw (t := t) (by omega) F 1 0 M h (by omega) (by omega) (by omega)
