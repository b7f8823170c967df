/-! reading and writing by the tables: class -/
theorem zcK_inj : ∀ i, i < 20 → ∀ i', i' < 20 → zcK i = zcK i' → i = i' := by decide
theorem zcK_ne : ∀ i, i < 20 → (zcK i ≠ 23 ∧ zcK i ≠ 25 ∧ zcK i ≠ 2 ∧ zcK i ≠ 19 ∧ zcK i ≠ 20 ∧ zcK i ≠ 40) ∧ (zcK i = 32 → i = 18) ∧ (zcK i = 3 → i = 14) := by decide
theorem zcKL_inj : ∀ i, i < 9 → ∀ i', i' < 9 → zcKL i = zcKL i' → i = i' ∨ (i = 3 ∧ i' = 4) ∨ (i = 4 ∧ i' = 3) := by decide
theorem zcKL_ne : ∀ i, i < 9 → zcKL i ≠ 24 ∧ zcKL i ≠ 21 := by decide
theorem zc_oth (i w j : Nat) (h : i ≠ 14) : zcO i w j = w := by
  unfold zcO; split
  · omega
  · rfl
theorem zc_sl (i j : Nat) (h : i ≠ 14) (h2 : i ≠ 2) : zcS i j = j := by
  unfold zcS; split
  · omega
  · omega
  · rfl
theorem zc_jj {i w j j' : Nat} (h2 : i = 2 → j = j') (ho : zcO i w j = zcO i w j') (hs : zcS i j = zcS i j') : j = j' := by
  by_cases h : i = 14
  · subst h
    have : 12 * w + j = 12 * w + j' := ho
    omega
  · by_cases h3 : i = 2
    · exact h2 h3
    · rwa [zc_sl i j h h3, zc_sl i j' h h3] at hs
theorem zC_uN {w nn ar : Nat} {M : gM} {S : zW} {i j v : Nat} (hi : i < 20) (h9 : i ≠ 9) (h18 : i ≠ 18) (h2 : i = 2 → j = 0) (h : zC w nn ar M S) : zC w nn ar (g_uI M (zcK i) (zcO i w j) (zcS i j) (nI v)) (zsN S i j v) := by
  obtain ⟨hN, hL, hX, hQ, hD⟩ := h
  obtain ⟨⟨n1, n2, n3, n4, n5, n6⟩, n7, n8⟩ := zcK_ne i hi
  refine ⟨fun a b ok => ?_, fun a b ok => hL a b ok, ⟨?_, fun k hk => ?_⟩, fun x hx => ⟨?_, fun k e he => ⟨?_, ?_, ?_⟩⟩, ?_, fun k e he => ⟨?_, ?_, ?_⟩⟩
  · have ok' : zokC nn ar S a b := by
      unfold zokC at ok ⊢
      rw [zN_sN, if_neg (by omega)] at ok
      exact ok
    rw [zuI, zN_sN]
    by_cases e : a = i ∧ b = j
    · obtain ⟨rfl, rfl⟩ := e
      rw [if_pos ⟨rfl, rfl, rfl⟩, if_pos ⟨rfl, rfl⟩]
    · rw [if_neg e, if_neg (fun z => ?_)]
      · exact hN a b ok'
      · have ha : a < 20 := by unfold zokC at ok'; omega
        have e1 := zcK_inj a ha i hi z.1
        subst e1
        exact e ⟨rfl, zc_jj (fun q => by have := h2 q; unfold zokC at ok'; omega) z.2.1 z.2.2⟩
  · rw [zuI, if_neg (fun z => h18 (n7 z.1.symm))]
    exact hX.1
  · rw [zN_sN, if_neg (by omega)] at hk ⊢
    rw [zuI, if_neg (fun z => n6 z.1.symm)]
    exact hX.2 k hk
  · rw [zuI, if_neg (fun z => ?_)]
    · exact (hQ x hx).1
    · have := n8 z.1.symm
      subst this
      exact absurd z.2.2 (by show ¬ (4 = 0); decide)
  · rw [zuI, if_neg (fun z => n1 z.1.symm)]
    exact ((hQ x hx).2 k e he).1
  · exact ((hQ x hx).2 k e he).2.1
  · rw [zuI, if_neg (fun z => n2 z.1.symm)]
    exact ((hQ x hx).2 k e he).2.2
  · rw [zuI, if_neg (fun z => n3 z.1.symm)]
    exact hD.1
  · exact (hD.2 k e he).1
  · rw [zuI, if_neg (fun z => n4 z.1.symm)]
    exact (hD.2 k e he).2.1
  · rw [zuI, if_neg (fun z => n5 z.1.symm)]
    exact (hD.2 k e he).2.2
theorem zcL_oth (i w j : Nat) (h : i ≠ 3) (h2 : i ≠ 4) (h3 : i ≠ 5) : zcOL i w j = w ∧ zcSL i j = j := by
  refine ⟨?_, ?_⟩
  · unfold zcOL; split <;> first | omega | rfl
  · unfold zcSL; split <;> first | omega | rfl
theorem zcL_jj {i w j j' : Nat} (ho : zcOL i w j = zcOL i w j') (hs : zcSL i j = zcSL i j') : j = j' := by
  by_cases h : i = 3
  · subst h
    have : 12 * w + j = 12 * w + j' := ho
    omega
  · by_cases h2 : i = 4
    · subst h2
      have : 12 * w + j = 12 * w + j' := ho
      omega
    · by_cases h3 : i = 5
      · subst h3
        have e1 : 12 * w + j / 16 = 12 * w + j' / 16 := ho
        have e2 : j % 16 = j' % 16 := hs
        omega
      · rwa [(zcL_oth i w j h h2 h3).2, (zcL_oth i w j' h h2 h3).2] at hs
theorem zC_uL {w nn ar : Nat} {M : gM} {S : zW} {i j : Nat} {v : Int64} (hi : i < 9) (h : zC w nn ar M S) : zC w nn ar (g_uL M (zcKL i) (zcOL i w j) (zcSL i j) v) (zsL S i j v) := by
  obtain ⟨hN, hL, hX, hQ, hD⟩ := h
  obtain ⟨n1, n2⟩ := zcKL_ne i hi
  refine ⟨fun a b ok => hN a b ok, fun a b ok => ?_, hX, fun x hx => ⟨(hQ x hx).1, fun k e he => ⟨((hQ x hx).2 k e he).1, ?_, ((hQ x hx).2 k e he).2.2⟩⟩, hD.1, fun k e he => ⟨?_, (hD.2 k e he).2⟩⟩
  · rw [zuL, zL_sL]
    by_cases e : a = i ∧ b = j
    · obtain ⟨rfl, rfl⟩ := e
      rw [if_pos ⟨rfl, rfl, rfl⟩, if_pos ⟨rfl, rfl⟩]
    · rw [if_neg e, if_neg (fun z => ?_)]
      · exact hL a b ok
      · have ha : a < 9 := by unfold zokL at ok; omega
        rcases zcKL_inj a ha i hi z.1 with e1 | ⟨e1, e2⟩ | ⟨e1, e2⟩
        · subst e1
          exact e ⟨rfl, zcL_jj z.2.1 z.2.2⟩
        · subst e1; subst e2
          exact absurd z.2.2 (by show ¬ (2 = 1); decide)
        · subst e1; subst e2
          exact absurd z.2.2 (by show ¬ (1 = 2); decide)
  · rw [zuL, if_neg (fun z => n1 z.1.symm)]
    exact ((hQ x hx).2 k e he).2.1
  · rw [zuL, if_neg (fun z => n2 z.1.symm)]
    exact (hD.2 k e he).1
theorem zcN_in {w i j : Nat} (hi : i < 20) (hj : i = 14 → j < 12) : zin w (zcK i) (zcO i w j) := by
  by_cases h : i = 14
  · subst h
    exact Or.inr (Or.inr (Or.inl ⟨Or.inl rfl, by show 12 * w ≤ 12 * w + j; omega, by show 12 * w + j < 12 * w + 12; have := hj rfl; omega⟩))
  · rw [zc_oth i w j h]
    have hk : ∀ i, i < 20 → i ≠ 14 → (zcK i = 1 ∨ zcK i = 2 ∨ zcK i = 4 ∨ zcK i = 5 ∨ zcK i = 7 ∨ (12 ≤ zcK i ∧ zcK i ≤ 21) ∨ (26 ≤ zcK i ∧ zcK i ≤ 40)) := by decide
    exact Or.inr (Or.inr (Or.inr ⟨hk i hi h, rfl⟩))
theorem zcL_in {w i j : Nat} (hi : i < 9) (hj : i = 3 ∨ i = 4 → j < 12) (h5 : i = 5 → j < 192) : zin w (zcKL i) (zcOL i w j) := by
  by_cases h : i = 3
  · subst h
    exact Or.inr (Or.inr (Or.inl ⟨Or.inl rfl, by show 12 * w ≤ 12 * w + j; omega, by show 12 * w + j < 12 * w + 12; have := hj (Or.inl rfl); omega⟩))
  · by_cases h2 : i = 4
    · subst h2
      exact Or.inr (Or.inr (Or.inl ⟨Or.inl rfl, by show 12 * w ≤ 12 * w + j; omega, by show 12 * w + j < 12 * w + 12; have := hj (Or.inr rfl); omega⟩))
    · by_cases h3 : i = 5
      · subst h3
        exact Or.inr (Or.inr (Or.inl ⟨Or.inr (by decide), by show 12 * w ≤ 12 * w + j / 16; omega, by show 12 * w + j / 16 < 12 * w + 12; have := h5 rfl; omega⟩))
      · rw [(zcL_oth i w j h h2 h3).1]
        have hk : ∀ i, i < 9 → (i ≠ 3 ∧ i ≠ 4 ∧ i ≠ 5) → (zcKL i = 1 ∨ zcKL i = 2 ∨ zcKL i = 4 ∨ zcKL i = 5 ∨ zcKL i = 7 ∨ (12 ≤ zcKL i ∧ zcKL i ≤ 21) ∨ (26 ≤ zcKL i ∧ zcKL i ≤ 40)) := by decide
        exact Or.inr (Or.inr (Or.inr ⟨hk i hi ⟨h, h2, h3⟩, rfl⟩))
theorem zCW_uN {M0 : gM} {w nn ar : Nat} {M : gM} {S : zW} {i j v : Nat} (hi : i < 20) (h9 : i ≠ 9) (h18 : i ≠ 18) (h2 : i = 2 → j = 0) (hj : i = 14 → j < 12) (h : zCW M0 w nn ar S M) : zCW M0 w nn ar (zsN S i j v) (g_uI M (zcK i) (zcO i w j) (zcS i j) (nI v)) := ⟨zF_uI h.1 (zcN_in hi hj), zC_uN hi h9 h18 h2 h.2⟩
theorem zCW_uL {M0 : gM} {w nn ar : Nat} {M : gM} {S : zW} {i j : Nat} {v : Int64} (hi : i < 9) (hj : i = 3 ∨ i = 4 → j < 12) (h5 : i = 5 → j < 192) (h : zCW M0 w nn ar S M) : zCW M0 w nn ar (zsL S i j v) (g_uL M (zcKL i) (zcOL i w j) (zcSL i j) v) := ⟨zF_uL h.1 (zcL_in hi hj h5), zC_uL hi h.2⟩
/-- cells that belong to no picture: the calculator's -/
theorem zC_calc {w nn ar : Nat} {M : gM} {S : zW} {k o i : Nat} {v : Int64} (hk : k = 10 ∨ k = 11) (h : zC w nn ar M S) : zC w nn ar (g_uL M k o i v) S := by
  obtain ⟨hN, hL, hX, hQ, hD⟩ := h
  have hk' : ∀ i, i < 9 → zcKL i ≠ 10 ∧ zcKL i ≠ 11 := by decide
  refine ⟨fun a b ok => hN a b ok, fun a b ok => ?_, hX, fun x hx => ⟨(hQ x hx).1, fun k e he => ⟨((hQ x hx).2 k e he).1, ?_, ((hQ x hx).2 k e he).2.2⟩⟩, hD.1, fun k e he => ⟨?_, (hD.2 k e he).2⟩⟩
  · have ha : a < 9 := by unfold zokL at ok; omega
    have := hk' a ha
    rw [zuL, if_neg (fun z => by omega)]
    exact hL a b ok
  · rw [zuL, if_neg (fun z => by omega)]
    exact ((hQ x hx).2 k e he).2.1
  · rw [zuL, if_neg (fun z => by omega)]
    exact (hD.2 k e he).1
theorem zCW_calc {M0 : gM} {w nn ar : Nat} {M : gM} {S : zW} {k o i : Nat} {v : Int64} (hk : k = 10 ∨ k = 11) (h : zCW M0 w nn ar S M) : zCW M0 w nn ar S (g_uL M k o i v) := ⟨zF_uL h.1 (by unfold zin; omega), zC_calc hk h.2⟩
theorem zc_nodes {w nn ar : Nat} {M : gM} {S : zW} (h : zC w nn ar M S) : M.1 5 w 0 = nI (zN S 0 0) := h.1 0 0 (by unfold zokC; omega)
theorem zc_arrived {w nn ar : Nat} {M : gM} {S : zW} (h : zC w nn ar M S) : M.1 4 w 0 = nI (zN S 1 0) := h.1 1 0 (by unfold zokC; omega)
theorem zc_link {w nn ar : Nat} {M : gM} {S : zW} (h : zC w nn ar M S) : M.1 7 w 1 = nI (zN S 2 0) := h.1 2 0 (by unfold zokC; omega)
theorem zc_fweight {w nn ar : Nat} {M : gM} {S : zW} {j : Nat} (h : zC w nn ar M S) (hj : j < 16) : M.1 12 w j = nI (zN S 3 j) := h.1 3 j (by unfold zokC; omega)
theorem zc_leaf {w nn ar : Nat} {M : gM} {S : zW} {j : Nat} (h : zC w nn ar M S) (hj : j < 16) : M.1 13 w j = nI (zN S 4 j) := h.1 4 j (by unfold zokC; omega)
theorem zc_sent {w nn ar : Nat} {M : gM} {S : zW} {j : Nat} (h : zC w nn ar M S) (hj : j < 16) : M.1 14 w j = nI (zN S 5 j) := h.1 5 j (by unfold zokC; omega)
theorem zc_bytes {w nn ar : Nat} {M : gM} {S : zW} {j : Nat} (h : zC w nn ar M S) (hj : j < 16) : M.1 15 w j = nI (zN S 6 j) := h.1 6 j (by unfold zokC; omega)
theorem zc_missed {w nn ar : Nat} {M : gM} {S : zW} {j : Nat} (h : zC w nn ar M S) (hj : j < 16) : M.1 18 w j = nI (zN S 7 j) := h.1 7 j (by unfold zokC; omega)
theorem zc_tie {w nn ar : Nat} {M : gM} {S : zW} {j : Nat} (h : zC w nn ar M S) (hj : j < nn) : M.1 34 w j = nI (zN S 8 j) := h.1 8 j (by unfold zokC; omega)
theorem zc_rate {w nn ar : Nat} {M : gM} {S : zW} {j : Nat} (h : zC w nn ar M S) (hj : j < nn) : M.1 35 w j = nI (zN S 9 j) := h.1 9 j (by unfold zokC; omega)
theorem zc_burst {w nn ar : Nat} {M : gM} {S : zW} {j : Nat} (h : zC w nn ar M S) (hj : j < nn) (hr : 0 < zN S 9 j) : M.1 36 w j = nI (zN S 10 j) := h.1 10 j (by unfold zokC; omega)
theorem zc_rankFrom {w nn ar : Nat} {M : gM} {S : zW} {j : Nat} (h : zC w nn ar M S) (hj : j < nn) : M.1 37 w j = nI (zN S 11 j) := h.1 11 j (by unfold zokC; omega)
theorem zc_stateFrom {w nn ar : Nat} {M : gM} {S : zW} {j : Nat} (h : zC w nn ar M S) (hj : j < nn) : M.1 38 w j = nI (zN S 12 j) := h.1 12 j (by unfold zokC; omega)
theorem zc_progEnd {w nn ar : Nat} {M : gM} {S : zW} {j : Nat} (h : zC w nn ar M S) (hj : j < nn) : M.1 39 w j = nI (zN S 13 j) := h.1 13 j (by unfold zokC; omega)
theorem zc_nweight {w nn ar : Nat} {M : gM} {S : zW} {j : Nat} (h : zC w nn ar M S) (hj : j < nn) : M.1 3 (12 * w + j) 0 = nI (zN S 14 j) := h.1 14 j (by unfold zokC; omega)
theorem zc_flow {w nn ar : Nat} {M : gM} {S : zW} {j : Nat} (h : zC w nn ar M S) (hj : j < ar) : M.1 26 w j = nI (zN S 15 j) := h.1 15 j (by unfold zokC; omega)
theorem zc_length {w nn ar : Nat} {M : gM} {S : zW} {j : Nat} (h : zC w nn ar M S) (hj : j < ar) : M.1 27 w j = nI (zN S 16 j) := h.1 16 j (by unfold zokC; omega)
theorem zc_priority {w nn ar : Nat} {M : gM} {S : zW} {j : Nat} (h : zC w nn ar M S) (hj : j < ar) : M.1 28 w j = nI (zN S 17 j) := h.1 17 j (by unfold zokC; omega)
theorem zc_parent {w nn ar : Nat} {M : gM} {S : zW} {j : Nat} (h : zC w nn ar M S) (h0 : 0 < j) (hj : j < nn) : M.1 32 w j = nI (zN S 18 j) := h.1 18 j (by unfold zokC; omega)
theorem zc_childCount {w nn ar : Nat} {M : gM} {S : zW} {j : Nat} (h : zC w nn ar M S) (hj : j < nn) : M.1 33 w j = nI (zN S 19 j) := h.1 19 j (by unfold zokC; omega)
theorem zc_time {w nn ar : Nat} {M : gM} {S : zW} (h : zC w nn ar M S) : M.2 7 w 0 = zL S 0 0 := h.2.1 0 0 (by unfold zokL; omega)
theorem zc_delay {w nn ar : Nat} {M : gM} {S : zW} {j : Nat} (h : zC w nn ar M S) (hj : j < 16) : M.2 16 w j = zL S 1 j := h.2.1 1 j (by unfold zokL; omega)
theorem zc_most {w nn ar : Nat} {M : gM} {S : zW} {j : Nat} (h : zC w nn ar M S) (hj : j < 16) : M.2 17 w j = zL S 2 j := h.2.1 2 j (by unfold zokL; omega)
theorem zc_mark {w nn ar : Nat} {M : gM} {S : zW} {j : Nat} (h : zC w nn ar M S) (hj : j < nn) : M.2 3 (12 * w + j) 2 = zL S 3 j := h.2.1 3 j (by unfold zokL; omega)
theorem zc_virtual {w nn ar : Nat} {M : gM} {S : zW} {j : Nat} (h : zC w nn ar M S) (hj : j < nn) : M.2 3 (12 * w + j) 1 = zL S 4 j := h.2.1 4 j (by unfold zokL; omega)
theorem zc_arrival {w nn ar : Nat} {M : gM} {S : zW} {j : Nat} (h : zC w nn ar M S) (hj : j < ar) : M.2 29 w j = zL S 6 j := h.2.1 6 j (by unfold zokL; omega)
theorem zc_deadline {w nn ar : Nat} {M : gM} {S : zW} {j : Nat} (h : zC w nn ar M S) (hj : j < ar) : M.2 30 w j = zL S 7 j := h.2.1 7 j (by unfold zokL; omega)
theorem zc_departure {w nn ar : Nat} {M : gM} {S : zW} {j : Nat} (h : zC w nn ar M S) (hj : j < ar) : M.2 31 w j = zL S 8 j := h.2.1 8 j (by unfold zokL; omega)
theorem zc_state {w nn ar : Nat} {M : gM} {S : zW} {x j : Nat} (h : zC w nn ar M S) (hx : x < nn) (hj : j < 16) : M.2 22 (12 * w + x) j = zL S 5 (16 * x + j) := by
  have := h.2.1 5 (16 * x + j) (by unfold zokL; omega)
  have e : M.2 22 (12 * w + (16 * x + j) / 16) ((16 * x + j) % 16) = zL S 5 (16 * x + j) := this
  rwa [show (16 * x + j) / 16 = x by omega, show (16 * x + j) % 16 = j by omega] at e
/-! the reference -/
def zmG : Nat → Nat
  | 0 => 0 | 1 => 0 | 2 => 0 | 3 => 1 | 4 => 1 | 5 => 1 | 6 => 1 | 7 => 1 | 8 => 2 | 9 => 2 | 10 => 2 | 11 => 2 | 12 => 2 | 14 => 2 | 15 => 3 | 16 => 3 | 17 => 3 | 18 => 2 | 20 => 0 | 21 => 0 | 22 => 3
  | _ => 9
def zmO : Nat → Nat
  | 0 => 2 | 1 => 3 | 2 => 1 | 3 => 0 | 4 => 1 | 5 => 2 | 6 => 3 | 7 => 6 | 8 => 1 | 9 => 2 | 10 => 3 | 11 => 7 | 12 => 9 | 14 => 5 | 15 => 0 | 16 => 1 | 17 => 2 | 18 => 0 | 20 => 5 | 21 => 7 | 22 => 6
  | _ => 7599
def zmA (i j : Nat) : Nat := if zmG i = 1 then 10 + 7 * j + zmO i else if zmG i = 2 then 130 + 12 * j + zmO i else if zmG i = 3 then 640 + 7 * j + zmO i else zmO i
def zokM (nn ar : Nat) (i j : Nat) : Prop := (i ≤ 2 ∧ j = 0) ∨ (3 ≤ i ∧ i ≤ 7 ∧ j < 16) ∨ (8 ≤ i ∧ i ≤ 12 ∧ j < nn) ∨ (i = 14 ∧ j < nn) ∨ (15 ≤ i ∧ i ≤ 17 ∧ j < ar) ∨ (i = 18 ∧ 0 < j ∧ j < nn) ∨ (20 ≤ i ∧ i ≤ 21 ∧ j = 0) ∨ (i = 22 ∧ j < ar)
def zmGL : Nat → Nat
  | 0 => 0 | 1 => 1 | 2 => 1 | 3 => 2 | 4 => 2 | 5 => 4 | 6 => 3 | 7 => 3 | 8 => 3
  | _ => 9
def zmOL : Nat → Nat
  | 0 => 0 | 1 => 4 | 2 => 5 | 3 => 4 | 4 => 6 | 5 => 0 | 6 => 3 | 7 => 4 | 8 => 5
  | _ => 7599
def zmAL (i j : Nat) : Nat := if zmGL i = 1 then 10 + 7 * j + zmOL i else if zmGL i = 2 then 130 + 12 * j + zmOL i else if zmGL i = 3 then 640 + 7 * j + zmOL i else if zmGL i = 4 then 280 + j else zmOL i
def zMN (nn ar : Nat) (v : Nat → Int64) (S : zW) : Prop := ∀ i j, zokM nn ar i j → v (zmA i j) = lN (zN S i j)
def zML (nn ar : Nat) (v : Nat → Int64) (S : zW) : Prop := ∀ i j, zokL nn ar i j → v (zmAL i j) = zL S i j
def zMX (nn : Nat) (v : Nat → Int64) (S : zW) : Prop := (v 130 = -1 ∧ zN S 23 0 ≤ 120) ∧ (∀ x, x < nn → v (130 + 12 * x + 8) = lN (zN S 12 x - zN S 11 x) ∧ v (130 + 12 * x + 10) = lN (zN S 13 x - zN S 12 x)) ∧ ∀ k, k < zN S 23 0 → v (480 + k) = zmst (zN S 24 k)
def zMQ (nn : Nat) (v : Nat → Int64) (S : zW) : Prop := ∀ x, x < nn → v (130 + 12 * x + 11) = lN (zR S x).length ∧ ∀ i e, (zR S x)[i]? = some e → v (4150 + 4 * (64 * x + i) + 0) = lN e.1 ∧ v (4150 + 4 * (64 * x + i) + 1) = e.2.1 ∧ v (4150 + 4 * (64 * x + i) + 2) = lN e.2.2.2.1 ∧ v (4150 + 4 * (64 * x + i) + 3) = lN e.2.2.2.2
def zMD (v : Nat → Int64) (S : zW) : Prop := v 4 = lN (zD S).length ∧ ∀ i e, (zD S)[i]? = some e → v (7230 + 4 * i + 0) = e.1 ∧ v (7230 + 4 * i + 2) = lN e.2.1 ∧ v (7230 + 4 * i + 3) = lN e.2.2
def zM (nn ar : Nat) (v : Nat → Int64) (S : zW) : Prop := zMN nn ar v S ∧ zML nn ar v S ∧ zMX nn v S ∧ zMQ nn v S ∧ zMD v S
def zFM (M0 M : gM) : Prop := M.1 = M0.1 ∧ ∀ k o, k ≠ 47 → k ≠ 57 → k ≠ 58 → M.2 k o = M0.2 k o
def zMW (M0 : gM) (nn ar : Nat) (S : zW) (M : gM) : Prop := zFM M0 M ∧ zM nn ar (M.2 47 0) S
theorem zm_nodes {nn ar : Nat} {v : Nat → Int64} {S : zW} (h : zM nn ar v S) : v 2 = lN (zN S 0 0) := h.1 0 0 (by unfold zokM; omega)
theorem zm_arrived {nn ar : Nat} {v : Nat → Int64} {S : zW} (h : zM nn ar v S) : v 3 = lN (zN S 1 0) := h.1 1 0 (by unfold zokM; omega)
theorem zm_link {nn ar : Nat} {v : Nat → Int64} {S : zW} (h : zM nn ar v S) : v 1 = lN (zN S 2 0) := h.1 2 0 (by unfold zokM; omega)
theorem zm_fweight {nn ar : Nat} {v : Nat → Int64} {S : zW} {j : Nat} (h : zM nn ar v S) (hj : j < 16) : v (10 + 7 * j + 0) = lN (zN S 3 j) := h.1 3 j (by unfold zokM; omega)
theorem zm_leaf {nn ar : Nat} {v : Nat → Int64} {S : zW} {j : Nat} (h : zM nn ar v S) (hj : j < 16) : v (10 + 7 * j + 1) = lN (zN S 4 j) := h.1 4 j (by unfold zokM; omega)
theorem zm_sent {nn ar : Nat} {v : Nat → Int64} {S : zW} {j : Nat} (h : zM nn ar v S) (hj : j < 16) : v (10 + 7 * j + 2) = lN (zN S 5 j) := h.1 5 j (by unfold zokM; omega)
theorem zm_bytes {nn ar : Nat} {v : Nat → Int64} {S : zW} {j : Nat} (h : zM nn ar v S) (hj : j < 16) : v (10 + 7 * j + 3) = lN (zN S 6 j) := h.1 6 j (by unfold zokM; omega)
theorem zm_missed {nn ar : Nat} {v : Nat → Int64} {S : zW} {j : Nat} (h : zM nn ar v S) (hj : j < 16) : v (10 + 7 * j + 6) = lN (zN S 7 j) := h.1 7 j (by unfold zokM; omega)
theorem zm_tie {nn ar : Nat} {v : Nat → Int64} {S : zW} {j : Nat} (h : zM nn ar v S) (hj : j < nn) : v (130 + 12 * j + 1) = lN (zN S 8 j) := h.1 8 j (by unfold zokM; omega)
theorem zm_rate {nn ar : Nat} {v : Nat → Int64} {S : zW} {j : Nat} (h : zM nn ar v S) (hj : j < nn) : v (130 + 12 * j + 2) = lN (zN S 9 j) := h.1 9 j (by unfold zokM; omega)
theorem zm_burst {nn ar : Nat} {v : Nat → Int64} {S : zW} {j : Nat} (h : zM nn ar v S) (hj : j < nn) : v (130 + 12 * j + 3) = lN (zN S 10 j) := h.1 10 j (by unfold zokM; omega)
theorem zm_rankAt {nn ar : Nat} {v : Nat → Int64} {S : zW} {j : Nat} (h : zM nn ar v S) (hj : j < nn) : v (130 + 12 * j + 7) = lN (zN S 11 j) := h.1 11 j (by unfold zokM; omega)
theorem zm_stateAt {nn ar : Nat} {v : Nat → Int64} {S : zW} {j : Nat} (h : zM nn ar v S) (hj : j < nn) : v (130 + 12 * j + 9) = lN (zN S 12 j) := h.1 12 j (by unfold zokM; omega)
theorem zm_nweight {nn ar : Nat} {v : Nat → Int64} {S : zW} {j : Nat} (h : zM nn ar v S) (hj : j < nn) : v (130 + 12 * j + 5) = lN (zN S 14 j) := h.1 14 j (by unfold zokM; omega)
theorem zm_flow {nn ar : Nat} {v : Nat → Int64} {S : zW} {j : Nat} (h : zM nn ar v S) (hj : j < ar) : v (640 + 7 * j + 0) = lN (zN S 15 j) := h.1 15 j (by unfold zokM; omega)
theorem zm_length {nn ar : Nat} {v : Nat → Int64} {S : zW} {j : Nat} (h : zM nn ar v S) (hj : j < ar) : v (640 + 7 * j + 1) = lN (zN S 16 j) := h.1 16 j (by unfold zokM; omega)
theorem zm_priority {nn ar : Nat} {v : Nat → Int64} {S : zW} {j : Nat} (h : zM nn ar v S) (hj : j < ar) : v (640 + 7 * j + 2) = lN (zN S 17 j) := h.1 17 j (by unfold zokM; omega)
theorem zm_parent {nn ar : Nat} {v : Nat → Int64} {S : zW} {j : Nat} (h : zM nn ar v S) (hj : 0 < j ∧ j < nn) : v (130 + 12 * j + 0) = lN (zN S 18 j) := h.1 18 j (by unfold zokM; omega)
theorem zm_entered {nn ar : Nat} {v : Nat → Int64} {S : zW} (h : zM nn ar v S) : v 5 = lN (zN S 20 0) := h.1 20 0 (by unfold zokM; omega)
theorem zm_waiting {nn ar : Nat} {v : Nat → Int64} {S : zW} (h : zM nn ar v S) : v 7 = lN (zN S 21 0) := h.1 21 0 (by unfold zokM; omega)
theorem zm_isQueued {nn ar : Nat} {v : Nat → Int64} {S : zW} {j : Nat} (h : zM nn ar v S) (hj : j < ar) : v (640 + 7 * j + 6) = lN (zN S 22 j) := h.1 22 j (by unfold zokM; omega)
theorem zm_time {nn ar : Nat} {v : Nat → Int64} {S : zW} (h : zM nn ar v S) : v 0 = zL S 0 0 := h.2.1 0 0 (by unfold zokL; omega)
theorem zm_delay {nn ar : Nat} {v : Nat → Int64} {S : zW} {j : Nat} (h : zM nn ar v S) (hj : j < 16) : v (10 + 7 * j + 4) = zL S 1 j := h.2.1 1 j (by unfold zokL; omega)
theorem zm_most {nn ar : Nat} {v : Nat → Int64} {S : zW} {j : Nat} (h : zM nn ar v S) (hj : j < 16) : v (10 + 7 * j + 5) = zL S 2 j := h.2.1 2 j (by unfold zokL; omega)
theorem zm_mark {nn ar : Nat} {v : Nat → Int64} {S : zW} {j : Nat} (h : zM nn ar v S) (hj : j < nn) : v (130 + 12 * j + 4) = zL S 3 j := h.2.1 3 j (by unfold zokL; omega)
theorem zm_virtual {nn ar : Nat} {v : Nat → Int64} {S : zW} {j : Nat} (h : zM nn ar v S) (hj : j < nn) : v (130 + 12 * j + 6) = zL S 4 j := h.2.1 4 j (by unfold zokL; omega)
theorem zm_arrival {nn ar : Nat} {v : Nat → Int64} {S : zW} {j : Nat} (h : zM nn ar v S) (hj : j < ar) : v (640 + 7 * j + 3) = zL S 6 j := h.2.1 6 j (by unfold zokL; omega)
theorem zm_deadline {nn ar : Nat} {v : Nat → Int64} {S : zW} {j : Nat} (h : zM nn ar v S) (hj : j < ar) : v (640 + 7 * j + 4) = zL S 7 j := h.2.1 7 j (by unfold zokL; omega)
theorem zm_departure {nn ar : Nat} {v : Nat → Int64} {S : zW} {j : Nat} (h : zM nn ar v S) (hj : j < ar) : v (640 + 7 * j + 5) = zL S 8 j := h.2.1 8 j (by unfold zokL; omega)
theorem zm_state {nn ar : Nat} {v : Nat → Int64} {S : zW} {x j : Nat} (h : zM nn ar v S) (hx : x < nn) (hj : j < 16) : v (280 + 16 * x + j) = zL S 5 (16 * x + j) := by
  have := h.2.1 5 (16 * x + j) (by unfold zokL; omega)
  have e : v (280 + (16 * x + j)) = zL S 5 (16 * x + j) := this
  rwa [← Nat.add_assoc] at e
theorem zm_par0 {nn ar : Nat} {v : Nat → Int64} {S : zW} (h : zM nn ar v S) : v (130 + 12 * 0 + 0) = -1 := h.2.2.1.1.1
theorem zmG_tab : ∀ i, i < 23 → ((i ≤ 2 ∨ i = 20 ∨ i = 21) → zmG i = 0) ∧ ((3 ≤ i ∧ i ≤ 7) → zmG i = 1) ∧ (((8 ≤ i ∧ i ≤ 12) ∨ i = 14 ∨ i = 18) → zmG i = 2) ∧ (((15 ≤ i ∧ i ≤ 17) ∨ i = 22) → zmG i = 3) := by decide
theorem zmO_tab0 : ∀ i, i < 23 → zmG i = 0 → (zmO i = 1 ∨ zmO i = 2 ∨ zmO i = 3 ∨ zmO i = 5 ∨ zmO i = 7) := by decide
theorem zmO_tab1 : ∀ i, i < 23 → zmG i = 1 → (zmO i < 4 ∨ zmO i = 6) := by decide
theorem zmO_tab2 : ∀ i, i < 23 → zmG i = 2 → (zmO i < 4 ∨ zmO i = 5 ∨ zmO i = 7 ∨ zmO i = 9) := by decide
theorem zmO_tab3 : ∀ i, i < 23 → zmG i = 3 → (zmO i < 3 ∨ zmO i = 6) := by decide
theorem zmO_tab4 : ∀ i, i < 23 → (zmG i = 2 ∧ zmO i = 0) → i = 18 := by decide
theorem zmO_tab (i : Nat) (hi : i < 23) : (zmG i = 0 → (zmO i = 1 ∨ zmO i = 2 ∨ zmO i = 3 ∨ zmO i = 5 ∨ zmO i = 7)) ∧ (zmG i = 1 → (zmO i < 4 ∨ zmO i = 6)) ∧ (zmG i = 2 → ((zmO i < 4 ∨ zmO i = 5 ∨ zmO i = 7 ∨ zmO i = 9) ∧ (zmO i = 0 → i = 18))) ∧ (zmG i = 3 → (zmO i < 3 ∨ zmO i = 6)) := ⟨zmO_tab0 i hi, zmO_tab1 i hi, fun g => ⟨zmO_tab2 i hi g, fun q => zmO_tab4 i hi ⟨g, q⟩⟩, zmO_tab3 i hi⟩
theorem zmG_inj : ∀ i, i < 23 → ∀ i', i' < 23 → (zmG i = zmG i' ∧ zmO i = zmO i' ∧ zmG i < 9) → i = i' := by decide
theorem zmGL_tab : ∀ i, i < 9 → (i = 0 → zmGL i = 0 ∧ zmOL i = 0) ∧ ((1 ≤ i ∧ i ≤ 2) → zmGL i = 1 ∧ (zmOL i = 4 ∨ zmOL i = 5)) ∧ ((3 ≤ i ∧ i ≤ 4) → zmGL i = 2 ∧ (zmOL i = 4 ∨ zmOL i = 6)) ∧ (i = 5 → zmGL i = 4) ∧ ((6 ≤ i ∧ i ≤ 8) → zmGL i = 3 ∧ (zmOL i = 3 ∨ zmOL i = 4 ∨ zmOL i = 5)) := by decide
theorem zmGL_inj : ∀ i, i < 9 → ∀ i', i' < 9 → (zmGL i = zmGL i' ∧ zmOL i = zmOL i') → i = i' := by decide
/-- what an address of the tables is -/
theorem zmA_form {nn ar i j : Nat} (h : zokM nn ar i j) : i < 23 ∧ ((zmG i = 0 ∧ j = 0 ∧ zmA i j = zmO i ∧ (zmO i = 1 ∨ zmO i = 2 ∨ zmO i = 3 ∨ zmO i = 5 ∨ zmO i = 7)) ∨ (zmG i = 1 ∧ j < 16 ∧ zmA i j = 10 + 7 * j + zmO i ∧ (zmO i < 4 ∨ zmO i = 6)) ∨ (zmG i = 2 ∧ j < nn ∧ zmA i j = 130 + 12 * j + zmO i ∧ (zmO i < 4 ∨ zmO i = 5 ∨ zmO i = 7 ∨ zmO i = 9) ∧ (zmO i = 0 → 0 < j)) ∨ (zmG i = 3 ∧ j < ar ∧ zmA i j = 640 + 7 * j + zmO i ∧ (zmO i < 3 ∨ zmO i = 6))) := by
  have hi : i < 23 := by unfold zokM at h; omega
  refine ⟨hi, ?_⟩
  obtain ⟨t1, t2, t3, t4⟩ := zmG_tab i hi
  obtain ⟨o1, o2, o3, o4⟩ := zmO_tab i hi
  unfold zokM at h
  unfold zmA
  rcases h with h | h | h | h | h | h | h | h
  · have g := t1 (by omega); have := o1 g
    left; rw [if_neg (by omega), if_neg (by omega), if_neg (by omega)]; omega
  · have g := t2 (by omega); have := o2 g
    right; left; rw [if_pos g]; omega
  · have g := t3 (by omega); have := o3 g
    right; right; left; rw [if_neg (by omega), if_pos g]; omega
  · have g := t3 (by omega); have := o3 g
    right; right; left; rw [if_neg (by omega), if_pos g]; omega
  · have g := t4 (by omega); have := o4 g
    right; right; right; rw [if_neg (by omega), if_neg (by omega), if_pos g]; omega
  · have g := t3 (by omega); have := o3 g
    right; right; left; rw [if_neg (by omega), if_pos g]; omega
  · have g := t1 (by omega); have := o1 g
    left; rw [if_neg (by omega), if_neg (by omega), if_neg (by omega)]; omega
  · have g := t4 (by omega); have := o4 g
    right; right; right; rw [if_neg (by omega), if_neg (by omega), if_pos g]; omega
theorem zmAL_form {nn ar i j : Nat} (h : zokL nn ar i j) : i < 9 ∧ ((zmGL i = 0 ∧ j = 0 ∧ zmAL i j = 0 ∧ zmOL i = 0) ∨ (zmGL i = 1 ∧ j < 16 ∧ zmAL i j = 10 + 7 * j + zmOL i ∧ (zmOL i = 4 ∨ zmOL i = 5)) ∨ (zmGL i = 2 ∧ j < nn ∧ zmAL i j = 130 + 12 * j + zmOL i ∧ (zmOL i = 4 ∨ zmOL i = 6)) ∨ (zmGL i = 3 ∧ j < ar ∧ zmAL i j = 640 + 7 * j + zmOL i ∧ (zmOL i = 3 ∨ zmOL i = 4 ∨ zmOL i = 5)) ∨ (i = 5 ∧ zmGL i = 4 ∧ j < 16 * nn ∧ zmAL i j = 280 + j)) := by
  have hi : i < 9 := by unfold zokL at h; omega
  refine ⟨hi, ?_⟩
  obtain ⟨t1, t2, t3, t4, t5⟩ := zmGL_tab i hi
  unfold zokL at h
  unfold zmAL
  rcases h with h | h | h | h | h
  · have g := t1 (by omega)
    left; rw [if_neg (by omega), if_neg (by omega), if_neg (by omega), if_neg (by omega)]; omega
  · have g := t2 (by omega)
    right; left; rw [if_pos g.1]; omega
  · have g := t3 (by omega)
    right; right; left; rw [if_neg (by omega), if_pos g.1]; omega
  · have g := t4 (by omega)
    right; right; right; right; rw [if_neg (by omega), if_neg (by omega), if_neg (by omega), if_pos g]; omega
  · have g := t5 (by omega)
    right; right; right; left; rw [if_neg (by omega), if_neg (by omega), if_pos g.1]; omega
theorem zmA_inj {nn ar : Nat} (hn : nn ≤ 12) (ha : ar ≤ 500) {i j i' j' : Nat} (h : zokM nn ar i j) (h' : zokM 12 500 i' j') (e : zmA i j = zmA i' j') : i = i' ∧ j = j' := by
  obtain ⟨a1, f1⟩ := zmA_form h
  obtain ⟨a2, f2⟩ := zmA_form h'
  have key : zmG i = zmG i' ∧ zmO i = zmO i' ∧ j = j' ∧ zmG i < 9 := by
    rcases f1 with f1 | f1 | f1 | f1 <;> rcases f2 with f2 | f2 | f2 | f2 <;> omega
  exact ⟨zmG_inj i a1 i' a2 ⟨key.1, key.2.1, key.2.2.2⟩, key.2.2.1⟩
theorem zmAL_ne {nn ar : Nat} (hn : nn ≤ 12) (ha : ar ≤ 500) {i j i' j' : Nat} (h : zokM nn ar i j) (h' : zokL 12 500 i' j') : zmA i j ≠ zmAL i' j' := by
  obtain ⟨a1, f1⟩ := zmA_form h
  obtain ⟨a2, f2⟩ := zmAL_form h'
  rcases f1 with f1 | f1 | f1 | f1 <;> rcases f2 with f2 | f2 | f2 | f2 | f2 <;> omega
theorem zmAL_ne' {nn ar : Nat} (hn : nn ≤ 12) (ha : ar ≤ 500) {i j i' j' : Nat} (h : zokM 12 500 i j) (h' : zokL nn ar i' j') : zmAL i' j' ≠ zmA i j := by
  obtain ⟨a1, f1⟩ := zmA_form h
  obtain ⟨a2, f2⟩ := zmAL_form h'
  rcases f1 with f1 | f1 | f1 | f1 <;> rcases f2 with f2 | f2 | f2 | f2 | f2 <;> omega
theorem zmAL_inj {nn ar : Nat} (hn : nn ≤ 12) (ha : ar ≤ 500) {i j i' j' : Nat} (h : zokL nn ar i j) (h' : zokL 12 500 i' j') (e : zmAL i j = zmAL i' j') : i = i' ∧ j = j' := by
  obtain ⟨a1, f1⟩ := zmAL_form h
  obtain ⟨a2, f2⟩ := zmAL_form h'
  have key : j = j' ∧ ((zmGL i = zmGL i' ∧ zmOL i = zmOL i') ∨ (i = 5 ∧ i' = 5)) := by
    rcases f1 with f1 | f1 | f1 | f1 | f1 <;> rcases f2 with f2 | f2 | f2 | f2 | f2 <;> omega
  rcases key with ⟨k1, k2 | k2⟩
  · exact ⟨zmGL_inj i a1 i' a2 k2, k1⟩
  · exact ⟨by omega, k1⟩
/-- no table's address is one of the marked ones -/
def zmsp (a : Nat) : Prop := a = 4 ∨ a = 6 ∨ 4150 ≤ a ∨ (130 ≤ a ∧ a < 274 ∧ ((a - 130) % 12 = 11 ∨ (a - 130) % 12 = 8 ∨ (a - 130) % 12 = 10 ∨ a = 130)) ∨ (480 ≤ a ∧ a < 640)
theorem zmA_sp {nn ar : Nat} (hn : nn ≤ 12) (ha : ar ≤ 500) {i j : Nat} (h : zokM nn ar i j) : ¬ zmsp (zmA i j) := by
  obtain ⟨a1, f1⟩ := zmA_form h
  unfold zmsp
  rcases f1 with f1 | f1 | f1 | f1 <;> omega
theorem zmAL_sp {nn ar : Nat} (hn : nn ≤ 12) (ha : ar ≤ 500) {i j : Nat} (h : zokL nn ar i j) : ¬ zmsp (zmAL i j) := by
  obtain ⟨a1, f1⟩ := zmAL_form h
  unfold zmsp
  rcases f1 with f1 | f1 | f1 | f1 | f1 <;> omega
theorem zM_uN {nn ar : Nat} (hn : nn ≤ 12) (ha : ar ≤ 500) {v : Nat → Int64} {S : zW} {i j a x : Nat} (ok : zokM 12 500 i j) (hi : i < 23) (h : zM nn ar v S) (h1112 : i ≠ 11 ∧ i ≠ 12) (ea : a = zmA i j) : zM nn ar (fun k => if k = a then lN x else v k) (zsN S i j x) := by
  obtain ⟨hN, hL, hX, hQ, hD⟩ := h
  subst ea
  have sp := zmA_sp (Nat.le_refl 12) (Nat.le_refl 500) ok
  unfold zmsp at sp
  have h13 : i ≠ 13 ∧ i ≠ 23 ∧ i ≠ 24 := by unfold zokM at ok; omega
  refine ⟨fun p q hp => ?_, fun p q hp => ?_, ⟨⟨?_, ?_⟩, fun y hy => ⟨?_, ?_⟩, fun k hk => ?_⟩, fun y hy => ⟨?_, fun k e he => ?_⟩, ?_, fun k e he => ?_⟩
  · rw [zN_sN]
    by_cases e : p = i ∧ q = j
    · obtain ⟨rfl, rfl⟩ := e
      simp
    · rw [if_neg e]
      show (if zmA p q = zmA i j then _ else _) = _
      rw [if_neg (fun z => e (zmA_inj hn ha hp ok z))]
      exact hN p q hp
  · show (if zmAL p q = zmA i j then _ else _) = _
    rw [if_neg (zmAL_ne' hn ha ok hp)]
    exact hL p q hp
  · show (if 130 = zmA i j then _ else _) = _
    rw [if_neg (by omega)]
    exact hX.1.1
  · rw [zN_sN, if_neg (by omega)]
    exact hX.1.2
  · show (if 130 + 12 * y + 8 = zmA i j then _ else _) = _
    rw [if_neg (by omega), zN_sN, zN_sN, if_neg (by omega), if_neg (by omega)]
    exact (hX.2.1 y hy).1
  · show (if 130 + 12 * y + 10 = zmA i j then _ else _) = _
    rw [if_neg (by omega), zN_sN, zN_sN, if_neg (by omega), if_neg (by omega)]
    exact (hX.2.1 y hy).2
  · rw [zN_sN, if_neg (by omega)] at hk ⊢
    have hk3 := hX.1.2
    show (if 480 + k = zmA i j then _ else _) = _
    rw [if_neg (by omega)]
    exact hX.2.2 k hk
  · show (if 130 + 12 * y + 11 = zmA i j then _ else _) = _
    rw [if_neg (by omega)]
    exact (hQ y hy).1
  · obtain ⟨e1, e2, e3, e4⟩ := (hQ y hy).2 k e he
    refine ⟨?_, ?_, ?_, ?_⟩
    · show (if 4150 + 4 * (64 * y + k) + 0 = zmA i j then _ else _) = _
      rw [if_neg (by omega)]; exact e1
    · show (if 4150 + 4 * (64 * y + k) + 1 = zmA i j then _ else _) = _
      rw [if_neg (by omega)]; exact e2
    · show (if 4150 + 4 * (64 * y + k) + 2 = zmA i j then _ else _) = _
      rw [if_neg (by omega)]; exact e3
    · show (if 4150 + 4 * (64 * y + k) + 3 = zmA i j then _ else _) = _
      rw [if_neg (by omega)]; exact e4
  · show (if 4 = zmA i j then _ else _) = _
    rw [if_neg (by omega)]
    exact hD.1
  · obtain ⟨e1, e2, e3⟩ := hD.2 k e he
    refine ⟨?_, ?_, ?_⟩
    · show (if 7230 + 4 * k + 0 = zmA i j then _ else _) = _
      rw [if_neg (by omega)]; exact e1
    · show (if 7230 + 4 * k + 2 = zmA i j then _ else _) = _
      rw [if_neg (by omega)]; exact e2
    · show (if 7230 + 4 * k + 3 = zmA i j then _ else _) = _
      rw [if_neg (by omega)]; exact e3
theorem zM_uL {nn ar : Nat} (hn : nn ≤ 12) (ha : ar ≤ 500) {v : Nat → Int64} {S : zW} {i j a : Nat} {x : Int64} (ok : zokL 12 500 i j) (h : zM nn ar v S) (ea : a = zmAL i j) : zM nn ar (fun k => if k = a then x else v k) (zsL S i j x) := by
  obtain ⟨hN, hL, hX, hQ, hD⟩ := h
  subst ea
  have sp := zmAL_sp (Nat.le_refl 12) (Nat.le_refl 500) ok
  unfold zmsp at sp
  refine ⟨fun p q hp => ?_, fun p q hp => ?_, ⟨⟨?_, ?_⟩, fun y hy => ⟨?_, ?_⟩, fun k hk => ?_⟩, fun y hy => ⟨?_, fun k e he => ?_⟩, ?_, fun k e he => ?_⟩
  · show (if zmA p q = zmAL i j then _ else _) = _
    rw [if_neg (zmAL_ne hn ha hp ok)]
    exact hN p q hp
  · rw [zL_sL]
    by_cases e : p = i ∧ q = j
    · obtain ⟨rfl, rfl⟩ := e
      simp
    · rw [if_neg e]
      show (if zmAL p q = zmAL i j then _ else _) = _
      rw [if_neg (fun z => e (zmAL_inj hn ha hp ok z))]
      exact hL p q hp
  · show (if 130 = zmAL i j then _ else _) = _
    rw [if_neg (by omega)]
    exact hX.1.1
  · exact hX.1.2
  · show (if 130 + 12 * y + 8 = zmAL i j then _ else _) = _
    rw [if_neg (by omega)]
    exact (hX.2.1 y hy).1
  · show (if 130 + 12 * y + 10 = zmAL i j then _ else _) = _
    rw [if_neg (by omega)]
    exact (hX.2.1 y hy).2
  · have hk : k < zN S 23 0 := hk
    have hk3 := hX.1.2
    show (if 480 + k = zmAL i j then _ else _) = _
    rw [if_neg (by omega)]
    exact hX.2.2 k hk
  · show (if 130 + 12 * y + 11 = zmAL i j then _ else _) = _
    rw [if_neg (by omega)]
    exact (hQ y hy).1
  · obtain ⟨e1, e2, e3, e4⟩ := (hQ y hy).2 k e he
    refine ⟨?_, ?_, ?_, ?_⟩
    · show (if 4150 + 4 * (64 * y + k) + 0 = zmAL i j then _ else _) = _
      rw [if_neg (by omega)]; exact e1
    · show (if 4150 + 4 * (64 * y + k) + 1 = zmAL i j then _ else _) = _
      rw [if_neg (by omega)]; exact e2
    · show (if 4150 + 4 * (64 * y + k) + 2 = zmAL i j then _ else _) = _
      rw [if_neg (by omega)]; exact e3
    · show (if 4150 + 4 * (64 * y + k) + 3 = zmAL i j then _ else _) = _
      rw [if_neg (by omega)]; exact e4
  · show (if 4 = zmAL i j then _ else _) = _
    rw [if_neg (by omega)]
    exact hD.1
  · obtain ⟨e1, e2, e3⟩ := hD.2 k e he
    refine ⟨?_, ?_, ?_⟩
    · show (if 7230 + 4 * k + 0 = zmAL i j then _ else _) = _
      rw [if_neg (by omega)]; exact e1
    · show (if 7230 + 4 * k + 2 = zmAL i j then _ else _) = _
      rw [if_neg (by omega)]; exact e2
    · show (if 7230 + 4 * k + 3 = zmAL i j then _ else _) = _
      rw [if_neg (by omega)]; exact e3
theorem zFM_refl {M : gM} : zFM M M := ⟨rfl, fun _ _ _ _ _ => rfl⟩
theorem zFM_trans {M0 M1 M2 : gM} (h : zFM M0 M1) (h2 : zFM M1 M2) : zFM M0 M2 := ⟨h2.1.trans h.1, fun k o a b c => (h2.2 k o a b c).trans (h.2 k o a b c)⟩
theorem zFM_u {M0 M : gM} {k o i : Nat} {v : Int64} (hk : k = 47 ∨ k = 57 ∨ k = 58) (h : zFM M0 M) : zFM M0 (g_uL M k o i v) := ⟨h.1, fun a b p q r => by
  show (if a = k ∧ b = o then _ else M.2 a b) = _
  rw [if_neg (by omega)]
  exact h.2 a b p q r⟩
theorem zv_u (M : gM) (i : Nat) (v : Int64) : (g_uL M 47 0 i v).2 47 0 = fun k => if k = i then v else M.2 47 0 k := by
  funext k
  rw [zuL]
  simp
theorem zMW_uN {M0 : gM} {nn ar : Nat} (hn : nn ≤ 12) (ha : ar ≤ 500) {M : gM} {S : zW} {i j x : Nat} (ok : zokM 12 500 i j) (h1112 : i ≠ 11 ∧ i ≠ 12) (h : zMW M0 nn ar S M) : zMW M0 nn ar (zsN S i j x) (g_uL M 47 0 (zmA i j) (lN x)) := ⟨zFM_u (Or.inl rfl) h.1, by rw [zv_u]; exact zM_uN hn ha ok (by unfold zokM at ok; omega) h.2 h1112 rfl⟩
theorem zMW_uL {M0 : gM} {nn ar : Nat} (hn : nn ≤ 12) (ha : ar ≤ 500) {M : gM} {S : zW} {i j : Nat} {x : Int64} (ok : zokL 12 500 i j) (h : zMW M0 nn ar S M) : zMW M0 nn ar (zsL S i j x) (g_uL M 47 0 (zmAL i j) x) := ⟨zFM_u (Or.inl rfl) h.1, by rw [zv_u]; exact zM_uL hn ha ok h.2 rfl⟩
theorem zMW_scr {M0 : gM} {nn ar : Nat} {M : gM} {S : zW} {k o i : Nat} {x : Int64} (hk : k = 57 ∨ k = 58) (h : zMW M0 nn ar S M) : zMW M0 nn ar S (g_uL M k o i x) := ⟨zFM_u (Or.inr hk) h.1, by
  have e : (g_uL M k o i x).2 47 0 = M.2 47 0 := by
    funext c
    rw [zuL, if_neg (by omega)]
  rw [e]; exact h.2⟩
