/-! the abstract world: numbers, longs, queues (sorted; in the order of entering), what is held -/
abbrev zE : Type := Nat × Int64 × Nat × Nat × Nat
abbrev zH : Type := Int64 × Nat × Nat
abbrev zW : Type := (Nat → Nat → Nat) × (Nat → Nat → Int64) × (Nat → List zE) × (Nat → List zE) × List zH
def zN (S : zW) : Nat → Nat → Nat := S.1
def zL (S : zW) : Nat → Nat → Int64 := S.2.1
def zQ (S : zW) : Nat → List zE := S.2.2.1
def zR (S : zW) : Nat → List zE := S.2.2.2.1
def zD (S : zW) : List zH := S.2.2.2.2
def zsN (S : zW) (i j v : Nat) : zW := (fun a b => if a = i ∧ b = j then v else zN S a b, S.2)
def zsL (S : zW) (i j : Nat) (v : Int64) : zW := (S.1, fun a b => if a = i ∧ b = j then v else zL S a b, S.2.2)
def zsQ (S : zW) (x : Nat) (q r : List zE) : zW := (S.1, S.2.1, fun a => if a = x then q else zQ S a, fun a => if a = x then r else zR S a, S.2.2.2.2)
def zsD (S : zW) (d : List zH) : zW := (S.1, S.2.1, S.2.2.1, S.2.2.2.1, d)
theorem zN_sN {S : zW} {i j v a b : Nat} : zN (zsN S i j v) a b = if a = i ∧ b = j then v else zN S a b := rfl
theorem zN_sL {S : zW} {i j : Nat} {v : Int64} : zN (zsL S i j v) = zN S := rfl
theorem zN_sQ {S : zW} {x : Nat} {q r : List zE} : zN (zsQ S x q r) = zN S := rfl
theorem zN_sD {S : zW} {d : List zH} : zN (zsD S d) = zN S := rfl
theorem zL_sN {S : zW} {i j v : Nat} : zL (zsN S i j v) = zL S := rfl
theorem zL_sL {S : zW} {i j a b : Nat} {v : Int64} : zL (zsL S i j v) a b = if a = i ∧ b = j then v else zL S a b := rfl
theorem zL_sQ {S : zW} {x : Nat} {q r : List zE} : zL (zsQ S x q r) = zL S := rfl
theorem zL_sD {S : zW} {d : List zH} : zL (zsD S d) = zL S := rfl
theorem zQ_sN {S : zW} {i j v : Nat} : zQ (zsN S i j v) = zQ S := rfl
theorem zQ_sL {S : zW} {i j : Nat} {v : Int64} : zQ (zsL S i j v) = zQ S := rfl
theorem zQ_sQ {S : zW} {x a : Nat} {q r : List zE} : zQ (zsQ S x q r) a = if a = x then q else zQ S a := rfl
theorem zQ_sD {S : zW} {d : List zH} : zQ (zsD S d) = zQ S := rfl
theorem zR_sN {S : zW} {i j v : Nat} : zR (zsN S i j v) = zR S := rfl
theorem zR_sL {S : zW} {i j : Nat} {v : Int64} : zR (zsL S i j v) = zR S := rfl
theorem zR_sQ {S : zW} {x a : Nat} {q r : List zE} : zR (zsQ S x q r) a = if a = x then r else zR S a := rfl
theorem zR_sD {S : zW} {d : List zH} : zR (zsD S d) = zR S := rfl
theorem zD_sN {S : zW} {i j v : Nat} : zD (zsN S i j v) = zD S := rfl
theorem zD_sL {S : zW} {i j : Nat} {v : Int64} : zD (zsL S i j v) = zD S := rfl
theorem zD_sQ {S : zW} {x : Nat} {q r : List zE} : zD (zsQ S x q r) = zD S := rfl
theorem zD_sD {S : zW} {d : List zH} : zD (zsD S d) = d := rfl
/-! reading an updated memory -/
theorem zuI {M : gM} {k o i a b c : Nat} {v : Int32} : (g_uI M k o i v).1 a b c = if a = k ∧ b = o ∧ c = i then v else M.1 a b c := by
  show (if a = k ∧ b = o then upd (M.1 k o) i v else M.1 a b) c = _
  by_cases h : a = k ∧ b = o
  · obtain ⟨rfl, rfl⟩ := h
    rw [if_pos ⟨rfl, rfl⟩]
    show (if c = i then v else M.1 a b c) = _
    by_cases hc : c = i
    · rw [if_pos hc, if_pos ⟨rfl, rfl, hc⟩]
    · rw [if_neg hc, if_neg (fun q => hc q.2.2)]
  · rw [if_neg h, if_neg (fun q => h ⟨q.1, q.2.1⟩)]
theorem zuL {M : gM} {k o i a b c : Nat} {v : Int64} : (g_uL M k o i v).2 a b c = if a = k ∧ b = o ∧ c = i then v else M.2 a b c := by
  show (if a = k ∧ b = o then vp_updL (M.2 k o) i v else M.2 a b) c = _
  by_cases h : a = k ∧ b = o
  · obtain ⟨rfl, rfl⟩ := h
    rw [if_pos ⟨rfl, rfl⟩]
    show (if c = i then v else M.2 a b c) = _
    by_cases hc : c = i
    · rw [if_pos hc, if_pos ⟨rfl, rfl, hc⟩]
    · rw [if_neg hc, if_neg (fun q => hc q.2.2)]
  · rw [if_neg h, if_neg (fun q => h ⟨q.1, q.2.1⟩)]
theorem zuI2 {M : gM} {k o i : Nat} {v : Int32} : (g_uI M k o i v).2 = M.2 := rfl
theorem zuL1 {M : gM} {k o i : Nat} {v : Int64} : (g_uL M k o i v).1 = M.1 := rfl
theorem zcI {M : gM} {k' o' k o sp dp n a b c : Nat} : (g_cI M k' o' k o sp dp n).1 a b c = if a = k ∧ b = o ∧ dp ≤ c ∧ c < dp + n then M.1 k' o' (sp + (c - dp)) else M.1 a b c := by
  show (if a = k ∧ b = o then va_cpy (M.1 k' o') (M.1 k o) sp dp n else M.1 a b) c = _
  by_cases h : a = k ∧ b = o
  · obtain ⟨rfl, rfl⟩ := h
    rw [if_pos ⟨rfl, rfl⟩]
    show (if dp ≤ c ∧ c < dp + n then M.1 k' o' (sp + (c - dp)) else M.1 a b c) = _
    by_cases hc : dp ≤ c ∧ c < dp + n
    · rw [if_pos hc, if_pos ⟨rfl, rfl, hc⟩]
    · rw [if_neg hc, if_neg (fun q => hc q.2.2)]
  · rw [if_neg h, if_neg (fun q => h ⟨q.1, q.2.1⟩)]
theorem zcL {M : gM} {k' o' k o sp dp n a b c : Nat} : (g_cL M k' o' k o sp dp n).2 a b c = if a = k ∧ b = o ∧ dp ≤ c ∧ c < dp + n then M.2 k' o' (sp + (c - dp)) else M.2 a b c := by
  show (if a = k ∧ b = o then va_cpy (M.2 k' o') (M.2 k o) sp dp n else M.2 a b) c = _
  by_cases h : a = k ∧ b = o
  · obtain ⟨rfl, rfl⟩ := h
    rw [if_pos ⟨rfl, rfl⟩]
    show (if dp ≤ c ∧ c < dp + n then M.2 k' o' (sp + (c - dp)) else M.2 a b c) = _
    by_cases hc : dp ≤ c ∧ c < dp + n
    · rw [if_pos hc, if_pos ⟨rfl, rfl, hc⟩]
    · rw [if_neg hc, if_neg (fun q => hc q.2.2)]
  · rw [if_neg h, if_neg (fun q => h ⟨q.1, q.2.1⟩)]
theorem zcI2 {M : gM} {k' o' k o sp dp n : Nat} : (g_cI M k' o' k o sp dp n).2 = M.2 := rfl
theorem zcL1 {M : gM} {k' o' k o sp dp n : Nat} : (g_cL M k' o' k o sp dp n).1 = M.1 := rfl
/-! where the class keeps the numbers: 0 nodes 1 arrived 2 link 3 fweight 4 leaf 5 sent 6 bytes 7 missed 8 tie 9 rate 10 burst 11 rankFrom 12 stateFrom 13 programEnd 14 nweight 15 flow 16 length 17 priority 18 parent 19 childCount; the reference alone: 20 entered 21 waiting 22 isQueued; 23 codeLength 24 code -/
def zcK : Nat → Nat
  | 0 => 5 | 1 => 4 | 2 => 7 | 3 => 12 | 4 => 13 | 5 => 14 | 6 => 15 | 7 => 18 | 8 => 34 | 9 => 35 | 10 => 36 | 11 => 37 | 12 => 38 | 13 => 39 | 14 => 3 | 15 => 26 | 16 => 27 | 17 => 28 | 18 => 32 | 19 => 33
  | _ => 60
def zcO : Nat → Nat → Nat → Nat
  | 14, w, j => 12 * w + j
  | _, w, _ => w
def zcS : Nat → Nat → Nat
  | 14, _ => 0
  | 2, _ => 1
  | _, j => j
def zokC (nn ar : Nat) (S : zW) (i j : Nat) : Prop := (i ≤ 2 ∧ j = 0) ∨ (3 ≤ i ∧ i ≤ 7 ∧ j < 16) ∨ (8 ≤ i ∧ i ≤ 14 ∧ i ≠ 10 ∧ j < nn) ∨ (i = 10 ∧ j < nn ∧ 0 < zN S 9 j) ∨ (15 ≤ i ∧ i ≤ 17 ∧ j < ar) ∨ (i = 18 ∧ 0 < j ∧ j < nn) ∨ (i = 19 ∧ j < nn)
/-- longs: 0 time 1 delay 2 most 3 mark 4 virtual 5 states 6 arrival 7 deadline 8 departure -/
def zcKL : Nat → Nat
  | 0 => 7 | 1 => 16 | 2 => 17 | 3 => 3 | 4 => 3 | 5 => 22 | 6 => 29 | 7 => 30 | 8 => 31
  | _ => 60
def zcOL : Nat → Nat → Nat → Nat
  | 3, w, j => 12 * w + j
  | 4, w, j => 12 * w + j
  | 5, w, j => 12 * w + j / 16
  | _, w, _ => w
def zcSL : Nat → Nat → Nat
  | 3, _ => 2
  | 4, _ => 1
  | 5, j => j % 16
  | _, j => j
def zokL (nn ar : Nat) (i j : Nat) : Prop := (i = 0 ∧ j = 0) ∨ (1 ≤ i ∧ i ≤ 2 ∧ j < 16) ∨ (3 ≤ i ∧ i ≤ 4 ∧ j < nn) ∨ (i = 5 ∧ j < 16 * nn) ∨ (6 ≤ i ∧ i ≤ 8 ∧ j < ar)
/-- steps: 0..6 operators, 7..16 variables, from 17 on numbers -/
def zcst (c : Nat) : Int32 := if c = 0 then -43 else if c = 1 then -45 else if c = 2 then -42 else if c = 3 then -47 else if c = 4 then -126 else if c = 5 then -77 else if c = 6 then -109 else if c < 17 then -1 - nI (c - 7) else nI (c - 17)
def zmst (c : Nat) : Int64 := if c < 7 then -1 - lN c else if c < 17 then -10 - lN (c - 7) else lN (c - 17)
def zCN (w nn ar : Nat) (M : gM) (S : zW) : Prop := ∀ i j, zokC nn ar S i j → M.1 (zcK i) (zcO i w j) (zcS i j) = nI (zN S i j)
def zCL (w nn ar : Nat) (M : gM) (S : zW) : Prop := ∀ i j, zokL nn ar i j → M.2 (zcKL i) (zcOL i w j) (zcSL i j) = zL S i j
def zCX (w : Nat) (M : gM) (S : zW) : Prop := M.1 32 w 0 = -1 ∧ ∀ k, k < zN S 23 0 → M.1 40 w k = zcst (zN S 24 k)
def zCQ (w nn : Nat) (M : gM) (S : zW) : Prop := ∀ x, x < nn → M.1 3 (12 * w + x) 4 = nI (zQ S x).length ∧ ∀ i e, (zQ S x)[i]? = some e → M.1 23 (12 * w + x) i = nI e.1 ∧ M.2 24 (12 * w + x) i = e.2.1 ∧ M.1 25 (12 * w + x) i = nI e.2.2.1
def zCD (w : Nat) (M : gM) (S : zW) : Prop := M.1 2 w 0 = nI (zD S).length ∧ ∀ i e, (zD S)[i]? = some e → M.2 21 w i = e.1 ∧ M.1 19 w i = nI e.2.1 ∧ M.1 20 w i = nI e.2.2
def zC (w nn ar : Nat) (M : gM) (S : zW) : Prop := zCN w nn ar M S ∧ zCL w nn ar M S ∧ zCX w M S ∧ zCQ w nn M S ∧ zCD w M S
/-- cells of world w -/
def zin (w k o : Nat) : Prop := k = 10 ∨ k = 11 ∨ ((k = 3 ∨ (22 ≤ k ∧ k ≤ 25)) ∧ 12 * w ≤ o ∧ o < 12 * w + 12) ∨ ((k = 1 ∨ k = 2 ∨ k = 4 ∨ k = 5 ∨ k = 7 ∨ (12 ≤ k ∧ k ≤ 21) ∨ (26 ≤ k ∧ k ≤ 40)) ∧ o = w)
def zF (w : Nat) (M0 M : gM) : Prop := ∀ k o, ¬ zin w k o → M.1 k o = M0.1 k o ∧ M.2 k o = M0.2 k o
def zCW (M0 : gM) (w nn ar : Nat) (S : zW) (M : gM) : Prop := zF w M0 M ∧ zC w nn ar M S
theorem zF_refl {w : Nat} {M : gM} : zF w M M := fun _ _ _ => ⟨rfl, rfl⟩
theorem zF_trans {w : Nat} {M0 M1 M2 : gM} (h : zF w M0 M1) (h2 : zF w M1 M2) : zF w M0 M2 := fun k o q => ⟨(h2 k o q).1.trans (h k o q).1, (h2 k o q).2.trans (h k o q).2⟩
theorem zF_uI {w : Nat} {M0 M : gM} {k o i : Nat} {v : Int32} (h : zF w M0 M) (hi : zin w k o) : zF w M0 (g_uI M k o i v) := fun a b q => by
  have hn : ¬ (a = k ∧ b = o) := fun z => q (by rw [z.1, z.2]; exact hi)
  refine ⟨?_, (h a b q).2⟩
  show (if a = k ∧ b = o then _ else M.1 a b) = _
  rw [if_neg hn]
  exact (h a b q).1
theorem zF_uL {w : Nat} {M0 M : gM} {k o i : Nat} {v : Int64} (h : zF w M0 M) (hi : zin w k o) : zF w M0 (g_uL M k o i v) := fun a b q => by
  have hn : ¬ (a = k ∧ b = o) := fun z => q (by rw [z.1, z.2]; exact hi)
  refine ⟨(h a b q).1, ?_⟩
  show (if a = k ∧ b = o then _ else M.2 a b) = _
  rw [if_neg hn]
  exact (h a b q).2
theorem zF_cI {w : Nat} {M0 M : gM} {k' o' k o sp dp n : Nat} (h : zF w M0 M) (hi : zin w k o) : zF w M0 (g_cI M k' o' k o sp dp n) := fun a b q => by
  have hn : ¬ (a = k ∧ b = o) := fun z => q (by rw [z.1, z.2]; exact hi)
  refine ⟨?_, (h a b q).2⟩
  show (if a = k ∧ b = o then _ else M.1 a b) = _
  rw [if_neg hn]
  exact (h a b q).1
theorem zF_cL {w : Nat} {M0 M : gM} {k' o' k o sp dp n : Nat} (h : zF w M0 M) (hi : zin w k o) : zF w M0 (g_cL M k' o' k o sp dp n) := fun a b q => by
  have hn : ¬ (a = k ∧ b = o) := fun z => q (by rw [z.1, z.2]; exact hi)
  refine ⟨(h a b q).1, ?_⟩
  show (if a = k ∧ b = o then _ else M.2 a b) = _
  rw [if_neg hn]
  exact (h a b q).2
