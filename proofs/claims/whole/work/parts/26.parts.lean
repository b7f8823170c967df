/-! changes that touch one queue, or the line, or scratch alone -/
theorem zC_SX {w nn ar : Nat} {M M' : gM} {S : zW} (h : zC w nn ar M S) (hs : zSX 11 M M') : zC w nn ar M' S := by
  obtain ⟨hN, hL, hX, hQ, hD⟩ := h
  have hk : ∀ i, i < 9 → zcKL i ≠ 11 := by decide
  refine ⟨fun a b ok => ?_, fun a b ok => ?_, ⟨?_, fun k hk => ?_⟩, fun x hx => ⟨?_, fun k e he => ?_⟩, ?_, fun k e he => ?_⟩
  · rw [hs.1]; exact hN a b ok
  · rw [hs.2 _ _ (hk a (by unfold zokL at ok; omega))]; exact hL a b ok
  · rw [hs.1]; exact hX.1
  · rw [hs.1]; exact hX.2 k hk
  · rw [hs.1]; exact (hQ x hx).1
  · rw [hs.1, hs.2 _ _ (by decide)]; exact (hQ x hx).2 k e he
  · rw [hs.1]; exact hD.1
  · rw [hs.1, hs.2 _ _ (by decide)]; exact hD.2 k e he
theorem zCW_SX {M0 : gM} {w nn ar : Nat} {M M' : gM} {S : zW} (h : zCW M0 w nn ar S M) (hs : zSX 11 M M') : zCW M0 w nn ar S M' := ⟨fun k o q => by
  have hk : k ≠ 11 := fun z => q (by unfold zin; omega)
  rw [hs.1, hs.2 k o hk]
  exact h.1 k o q, zC_SX h.2 hs⟩
def zSQ (o : Nat) (M M' : gM) : Prop := (∀ a b c, ¬ ((a = 23 ∨ a = 25) ∧ b = o) → ¬ (a = 3 ∧ b = o ∧ c = 4) → M'.1 a b c = M.1 a b c) ∧ (∀ a b c, ¬ (a = 24 ∧ b = o) → M'.2 a b c = M.2 a b c)
theorem zSQ_refl {o : Nat} {M : gM} : zSQ o M M := ⟨fun _ _ _ _ _ => rfl, fun _ _ _ _ => rfl⟩
theorem zSQ_trans {o : Nat} {M M1 M2 : gM} (h : zSQ o M M1) (h2 : zSQ o M1 M2) : zSQ o M M2 := ⟨fun a b c p q => (h2.1 a b c p q).trans (h.1 a b c p q), fun a b c p => (h2.2 a b c p).trans (h.2 a b c p)⟩
theorem zSQ_uI {o k i : Nat} {M : gM} {v : Int32} (hk : k = 23 ∨ k = 25 ∨ (k = 3 ∧ i = 4)) : zSQ o M (g_uI M k o i v) := ⟨fun a b c p q => by rw [zuI, if_neg (fun z => by omega)], fun _ _ _ _ => rfl⟩
theorem zSQ_uL {o i : Nat} {M : gM} {v : Int64} : zSQ o M (g_uL M 24 o i v) := ⟨fun _ _ _ _ _ => rfl, fun a b c p => by rw [zuL, if_neg (fun z => by omega)]⟩
theorem zSQ_cI {o k sp dp n : Nat} {M : gM} (hk : k = 23 ∨ k = 25) : zSQ o M (g_cI M k o k o sp dp n) := ⟨fun a b c p q => by rw [zcI, if_neg (fun z => by omega)], fun _ _ _ _ => rfl⟩
theorem zSQ_cL {o sp dp n : Nat} {M : gM} : zSQ o M (g_cL M 24 o 24 o sp dp n) := ⟨fun _ _ _ _ _ => rfl, fun a b c p => by rw [zcL, if_neg (fun z => by omega)]⟩
def zar (M : gM) (o i : Nat) (e : zE) : Prop := M.1 23 o i = nI e.1 ∧ M.2 24 o i = e.2.1 ∧ M.1 25 o i = nI e.2.2.1
theorem zC_SQ {w nn ar x : Nat} {M M' : gM} {S : zW} {q r : List zE} (hx : x < 12) (h : zC w nn ar M S) (hs : zSQ (12 * w + x) M M') (h1 : M'.1 3 (12 * w + x) 4 = nI q.length) (h2 : ∀ i e, q[i]? = some e → zar M' (12 * w + x) i e) : zC w nn ar M' (zsQ S x q r) := by
  obtain ⟨hN, hL, hX, hQ, hD⟩ := h
  have hk : ∀ i, i < 20 → zcK i ≠ 23 ∧ zcK i ≠ 25 ∧ (zcK i = 3 → i = 14) := by decide
  have hkL : ∀ i, i < 9 → zcKL i ≠ 24 := by decide
  refine ⟨fun a b ok => ?_, fun a b ok => ?_, ⟨?_, fun k hk => ?_⟩, fun y hy => ?_, ?_, fun k e he => ?_⟩
  · have ha : a < 20 := by unfold zokC at ok; omega
    obtain ⟨k1, k2, k3⟩ := hk a ha
    rw [hs.1 _ _ _ (by omega) (fun z => by
      have := k3 z.1
      subst this
      exact absurd z.2.2 (by show ¬ (0 = 4); decide))]
    exact hN a b ok
  · have ha : a < 9 := by unfold zokL at ok; omega
    have := hkL a ha
    rw [hs.2 _ _ _ (by omega)]
    exact hL a b ok
  · rw [hs.1 _ _ _ (by omega) (by omega)]; exact hX.1
  · rw [hs.1 _ _ _ (by omega) (by omega)]; exact hX.2 k hk
  · rw [zQ_sQ]
    by_cases e : y = x
    · subst e
      rw [if_pos rfl]
      exact ⟨h1, h2⟩
    · rw [if_neg e]
      refine ⟨?_, fun k e he => ⟨?_, ?_, ?_⟩⟩
      · rw [hs.1 _ _ _ (by omega) (by omega)]; exact (hQ y hy).1
      · rw [hs.1 _ _ _ (by omega) (by omega)]; exact ((hQ y hy).2 k e he).1
      · rw [hs.2 _ _ _ (by omega)]; exact ((hQ y hy).2 k e he).2.1
      · rw [hs.1 _ _ _ (by omega) (by omega)]; exact ((hQ y hy).2 k e he).2.2
  · rw [hs.1 _ _ _ (by omega) (by omega)]; exact hD.1
  · rw [hs.1 _ _ _ (by omega) (by omega), hs.1 _ _ _ (by omega) (by omega), hs.2 _ _ _ (by omega)]; exact hD.2 k e he
theorem zF_SQ {M0 : gM} {w x : Nat} {M M' : gM} (hx : x < 12) (h : zF w M0 M) (hs : zSQ (12 * w + x) M M') : zF w M0 M' := fun k o q => by
  unfold zin at q
  refine ⟨?_, ?_⟩
  · rw [← (h k o (by unfold zin; exact q)).1]
    funext c
    exact hs.1 k o c (by omega) (by omega)
  · rw [← (h k o (by unfold zin; exact q)).2]
    funext c
    exact hs.2 k o c (by omega)
theorem zCW_SQ {M0 : gM} {w nn ar x : Nat} {M M' : gM} {S : zW} {q r : List zE} (hx : x < 12) (h : zCW M0 w nn ar S M) (hs : zSQ (12 * w + x) M M') (h1 : M'.1 3 (12 * w + x) 4 = nI q.length) (h2 : ∀ i e, q[i]? = some e → zar M' (12 * w + x) i e) : zCW M0 w nn ar (zsQ S x q r) M' := ⟨zF_SQ hx h.1 hs, zC_SQ hx h.2 hs h1 h2⟩
/-! the line -/
def zSD (w : Nat) (M M' : gM) : Prop := (∀ a b c, ¬ ((a = 2 ∨ a = 19 ∨ a = 20) ∧ b = w) → M'.1 a b c = M.1 a b c) ∧ (∀ a b c, ¬ (a = 21 ∧ b = w) → M'.2 a b c = M.2 a b c)
theorem zSD_refl {o : Nat} {M : gM} : zSD o M M := ⟨fun _ _ _ _ => rfl, fun _ _ _ _ => rfl⟩
theorem zSD_trans {o : Nat} {M M1 M2 : gM} (h : zSD o M M1) (h2 : zSD o M1 M2) : zSD o M M2 := ⟨fun a b c p => (h2.1 a b c p).trans (h.1 a b c p), fun a b c p => (h2.2 a b c p).trans (h.2 a b c p)⟩
theorem zSD_uI {o k i : Nat} {M : gM} {v : Int32} (hk : k = 2 ∨ k = 19 ∨ k = 20) : zSD o M (g_uI M k o i v) := ⟨fun a b c p => by rw [zuI, if_neg (fun z => by omega)], fun _ _ _ _ => rfl⟩
theorem zSD_uL {o i : Nat} {M : gM} {v : Int64} : zSD o M (g_uL M 21 o i v) := ⟨fun _ _ _ _ => rfl, fun a b c p => by rw [zuL, if_neg (fun z => by omega)]⟩
theorem zSD_cI {o k sp dp n : Nat} {M : gM} (hk : k = 19 ∨ k = 20) : zSD o M (g_cI M k o k o sp dp n) := ⟨fun a b c p => by rw [zcI, if_neg (fun z => by omega)], fun _ _ _ _ => rfl⟩
theorem zSD_cL {o sp dp n : Nat} {M : gM} : zSD o M (g_cL M 21 o 21 o sp dp n) := ⟨fun _ _ _ _ => rfl, fun a b c p => by rw [zcL, if_neg (fun z => by omega)]⟩
theorem zC_SD {w nn ar : Nat} {M M' : gM} {S : zW} {d : List zH} (h : zC w nn ar M S) (hs : zSD w M M') (h1 : M'.1 2 w 0 = nI d.length) (h2 : ∀ i e, d[i]? = some e → M'.2 21 w i = e.1 ∧ M'.1 19 w i = nI e.2.1 ∧ M'.1 20 w i = nI e.2.2) : zC w nn ar M' (zsD S d) := by
  obtain ⟨hN, hL, hX, hQ, hD⟩ := h
  have hk : ∀ i, i < 20 → zcK i ≠ 2 ∧ zcK i ≠ 19 ∧ zcK i ≠ 20 := by decide
  have hkL : ∀ i, i < 9 → zcKL i ≠ 21 := by decide
  refine ⟨fun a b ok => ?_, fun a b ok => ?_, ⟨?_, fun k hk => ?_⟩, fun y hy => ⟨?_, fun k e he => ⟨?_, ?_, ?_⟩⟩, h1, h2⟩
  · have ha : a < 20 := by unfold zokC at ok; omega
    have := hk a ha
    rw [hs.1 _ _ _ (by omega)]
    exact hN a b ok
  · have ha : a < 9 := by unfold zokL at ok; omega
    have := hkL a ha
    rw [hs.2 _ _ _ (by omega)]
    exact hL a b ok
  · rw [hs.1 _ _ _ (by omega)]; exact hX.1
  · rw [hs.1 _ _ _ (by omega)]; exact hX.2 k hk
  · rw [hs.1 _ _ _ (by omega)]; exact (hQ y hy).1
  · rw [hs.1 _ _ _ (by omega)]; exact ((hQ y hy).2 k e he).1
  · rw [hs.2 _ _ _ (by omega)]; exact ((hQ y hy).2 k e he).2.1
  · rw [hs.1 _ _ _ (by omega)]; exact ((hQ y hy).2 k e he).2.2
theorem zF_SD {M0 : gM} {w : Nat} {M M' : gM} (h : zF w M0 M) (hs : zSD w M M') : zF w M0 M' := fun k o q => by
  unfold zin at q
  refine ⟨?_, ?_⟩
  · rw [← (h k o (by unfold zin; exact q)).1]
    funext c
    exact hs.1 k o c (by omega)
  · rw [← (h k o (by unfold zin; exact q)).2]
    funext c
    exact hs.2 k o c (by omega)
theorem zCW_SD {M0 : gM} {w nn ar : Nat} {M M' : gM} {S : zW} {d : List zH} (h : zCW M0 w nn ar S M) (hs : zSD w M M') (h1 : M'.1 2 w 0 = nI d.length) (h2 : ∀ i e, d[i]? = some e → M'.2 21 w i = e.1 ∧ M'.1 19 w i = nI e.2.1 ∧ M'.1 20 w i = nI e.2.2) : zCW M0 w nn ar (zsD S d) M' := ⟨zF_SD h.1 hs, zC_SD h.2 hs h1 h2⟩
/-! the reference: one queue, what is held, scratch -/
theorem zM_VQ {nn ar x : Nat} (hn : nn ≤ 12) (ha : ar ≤ 500) (hx : x < nn) {v v' : Nat → Int64} {S : zW} {q r : List zE} (h : zM nn ar v S) (hl : ∀ y, y < nn → (zR S y).length ≤ 64) (hs : ∀ a, a ≠ 130 + 12 * x + 11 → ¬ (4150 + 256 * x ≤ a ∧ a < 4150 + 256 * x + 256) → v' a = v a) (h1 : v' (130 + 12 * x + 11) = lN r.length) (h2 : ∀ i e, r[i]? = some e → v' (4150 + 4 * (64 * x + i) + 0) = lN e.1 ∧ v' (4150 + 4 * (64 * x + i) + 1) = e.2.1 ∧ v' (4150 + 4 * (64 * x + i) + 2) = lN e.2.2.2.1 ∧ v' (4150 + 4 * (64 * x + i) + 3) = lN e.2.2.2.2) : zM nn ar v' (zsQ S x q r) := by
  obtain ⟨hN, hL, hX, hQ, hD⟩ := h
  refine ⟨fun p j hp => ?_, fun p j hp => ?_, ⟨⟨?_, hX.1.2⟩, fun y hy => ⟨?_, ?_⟩, fun k hk => ?_⟩, fun y hy => ?_, ?_, fun k e he => ?_⟩
  · have sp := zmA_sp hn ha hp
    unfold zmsp at sp
    rw [hs _ (by omega) (by omega)]; exact hN p j hp
  · have sp := zmAL_sp hn ha hp
    unfold zmsp at sp
    rw [hs _ (by omega) (by omega)]; exact hL p j hp
  · rw [hs _ (by omega) (by omega)]; exact hX.1.1
  · rw [hs _ (by omega) (by omega)]; exact (hX.2.1 y hy).1
  · rw [hs _ (by omega) (by omega)]; exact (hX.2.1 y hy).2
  · have hk2 : k < zN S 23 0 := hk
    have hk3 := hX.1.2
    rw [hs _ (by omega) (by omega)]; exact hX.2.2 k hk
  · rw [zR_sQ]
    by_cases e : y = x
    · subst e
      rw [if_pos rfl]
      exact ⟨h1, h2⟩
    · rw [if_neg e]
      refine ⟨?_, fun k e he => ?_⟩
      · rw [hs _ (by omega) (by omega)]; exact (hQ y hy).1
      · have hk : k < (zR S y).length := (List.getElem?_eq_some_iff.mp he).1
        have := hl y hy
        rw [hs _ (by omega) (by omega), hs _ (by omega) (by omega), hs _ (by omega) (by omega), hs _ (by omega) (by omega)]
        exact (hQ y hy).2 k e he
  · rw [hs _ (by omega) (by omega)]; exact hD.1
  · rw [hs _ (by omega) (by omega), hs _ (by omega) (by omega), hs _ (by omega) (by omega)]; exact hD.2 k e he
theorem zM_VD {nn ar : Nat} (hn : nn ≤ 12) (ha : ar ≤ 500) {v v' : Nat → Int64} {S : zW} {d : List zH} (h : zM nn ar v S) (hl : ∀ y, y < nn → (zR S y).length ≤ 64) (hs : ∀ a, a ≠ 4 → a ≠ 6 → a < 7230 → v' a = v a) (h1 : v' 4 = lN d.length) (h2 : ∀ i e, d[i]? = some e → v' (7230 + 4 * i + 0) = e.1 ∧ v' (7230 + 4 * i + 2) = lN e.2.1 ∧ v' (7230 + 4 * i + 3) = lN e.2.2) : zM nn ar v' (zsD S d) := by
  obtain ⟨hN, hL, hX, hQ, hD⟩ := h
  refine ⟨fun p j hp => ?_, fun p j hp => ?_, ⟨⟨?_, hX.1.2⟩, fun y hy => ⟨?_, ?_⟩, fun k hk => ?_⟩, fun y hy => ⟨?_, fun k e he => ?_⟩, h1, h2⟩
  · have sp := zmA_sp hn ha hp
    unfold zmsp at sp
    rw [hs _ (by omega) (by omega) (by omega)]; exact hN p j hp
  · have sp := zmAL_sp hn ha hp
    unfold zmsp at sp
    rw [hs _ (by omega) (by omega) (by omega)]; exact hL p j hp
  · rw [hs _ (by omega) (by omega) (by omega)]; exact hX.1.1
  · rw [hs _ (by omega) (by omega) (by omega)]; exact (hX.2.1 y hy).1
  · rw [hs _ (by omega) (by omega) (by omega)]; exact (hX.2.1 y hy).2
  · have hk2 : k < zN S 23 0 := hk
    have hk3 := hX.1.2
    rw [hs _ (by omega) (by omega) (by omega)]; exact hX.2.2 k hk
  · rw [hs _ (by omega) (by omega) (by omega)]; exact (hQ y hy).1
  · have hk : k < (zR S y).length := (List.getElem?_eq_some_iff.mp he).1
    have := hl y hy
    rw [hs _ (by omega) (by omega) (by omega), hs _ (by omega) (by omega) (by omega), hs _ (by omega) (by omega) (by omega), hs _ (by omega) (by omega) (by omega)]
    exact (hQ y hy).2 k e he
theorem zMW_SX {M0 : gM} {nn ar k : Nat} {M M' : gM} {S : zW} (hk : k = 57 ∨ k = 58) (h : zMW M0 nn ar S M) (hs : zSX k M M') : zMW M0 nn ar S M' := ⟨⟨hs.1.trans h.1.1, fun a b p q r => (hs.2 a b (by omega)).trans (h.1.2 a b p q r)⟩, by rw [hs.2 47 0 (by omega)]; exact h.2⟩
