/-! reading a tree: what it does -/
/-- parent, tie, rate, burst, start, middle, end of the programs -/
abbrev yNd : Type := Nat × Nat × Nat × Nat × Nat × Nat × Nat
def ypar (lt : Nat → Nat) (x a : Nat) : Nat × Nat × Nat :=
  if x = 0 then (1, a, 0) else if lt (zrd lt 2 a 0).1 = 60 ∧ (zrd lt 2 a 0).1 ≠ a ∧ (zrd lt 2 a 0).2 < x then (1, (zrd lt 2 a 0).1 + 1, (zrd lt 2 a 0).2) else (0, a, 0)
def yprog2 (lt : Nat → Nat) (r : Nat × Nat × List Nat) : Nat × Nat × Nat × List Nat :=
  if r.1 = 0 then (0, r.2.1, 0, r.2.2) else if lt r.2.1 = 58 then ((zexp lt 1 122 1 (r.2.1 + 1) [] r.2.2).1, (zexp lt 1 122 1 (r.2.1 + 1) [] r.2.2).2.1, r.2.2.length, (zexp lt 1 122 1 (r.2.1 + 1) [] r.2.2).2.2) else (1, r.2.1, r.2.2.length, r.2.2)
def yprog (lt : Nat → Nat) (a : Nat) (cd : List Nat) : Nat × Nat × Nat × List Nat := yprog2 lt (zexp lt 0 122 1 a [] cd)
def ynum (lt : Nat → Nat) (a : Nat) : Nat × Nat × Nat := if (48 ≤ lt (zrd lt 4 a 0).1 ∧ lt (zrd lt 4 a 0).1 ≤ 57) ∨ (zrd lt 4 a 0).1 = a then (0, (zrd lt 4 a 0).1, 0) else (1, zrd lt 4 a 0)
def yshp (lt : Nat → Nat) (x a : Nat) : Nat × Nat × Nat × Nat :=
  if x = 0 ∨ lt a ≠ 64 then (1, a, 0, 0)
  else if (ynum lt (a + 1)).1 = 0 then (0, (ynum lt (a + 1)).2.1, 0, 0)
  else if (ynum lt (a + 1)).2.2 = 0 then (0, a + 1, 0, 0)
  else if lt (ynum lt (a + 1)).2.1 ≠ 44 then (0, (ynum lt (a + 1)).2.1, 0, 0)
  else ((ynum lt ((ynum lt (a + 1)).2.1 + 1)).1, (ynum lt ((ynum lt (a + 1)).2.1 + 1)).2.1, (ynum lt (a + 1)).2.2, (ynum lt ((ynum lt (a + 1)).2.1 + 1)).2.2)
def ytie (c : Nat) : Nat := if c = 94 then 1 else if c = 37 then 2 else if c = 38 then 3 else 0
def yend (lt : Nat → Nat) (a : Nat) : Nat := if ytie (lt a) = 0 then a else a + 1
abbrev yendok (lt : Nat → Nat) (len a : Nat) : Prop := yend lt a = len ∨ lt (yend lt a) = 59
/-- one node: right, place, codes, the node, what is wrong -/
def ynode (lt : Nat → Nat) (len x a : Nat) (cd : List Nat) : Nat × Nat × List Nat × yNd × (Int32 × Int32 × Int32) :=
  if 12 ≤ x then (0, a, cd, (0, 0, 0, 0, 0, 0, 0), (nI a, nI a, -1))
  else if (ypar lt x a).1 = 0 then (0, a, cd, (0, 0, 0, 0, 0, 0, 0), (nI a, nI a, -1))
  else if (yprog lt (ypar lt x a).2.1 cd).1 = 0 then (0, a, cd, (0, 0, 0, 0, 0, 0, 0), (nI a, nI (ypar lt x a).2.1, nI (yprog lt (ypar lt x a).2.1 cd).2.1))
  else if (yshp lt x (yprog lt (ypar lt x a).2.1 cd).2.1).1 = 0 then (0, a, cd, (0, 0, 0, 0, 0, 0, 0), (nI a, nI (yprog lt (ypar lt x a).2.1 cd).2.1, nI (yshp lt x (yprog lt (ypar lt x a).2.1 cd).2.1).2.1))
  else if ¬ yendok lt len (yshp lt x (yprog lt (ypar lt x a).2.1 cd).2.1).2.1 then (0, a, cd, (0, 0, 0, 0, 0, 0, 0), (nI a, nI (yend lt (yshp lt x (yprog lt (ypar lt x a).2.1 cd).2.1).2.1), -1))
  else (1, yend lt (yshp lt x (yprog lt (ypar lt x a).2.1 cd).2.1).2.1, (yprog lt (ypar lt x a).2.1 cd).2.2.2, ((ypar lt x a).2.2, ytie (lt (yshp lt x (yprog lt (ypar lt x a).2.1 cd).2.1).2.1), (yshp lt x (yprog lt (ypar lt x a).2.1 cd).2.1).2.2.1, (yshp lt x (yprog lt (ypar lt x a).2.1 cd).2.1).2.2.2, cd.length, (yprog lt (ypar lt x a).2.1 cd).2.2.1, (yprog lt (ypar lt x a).2.1 cd).2.2.2.length), (0, 0, 0))
/-- all nodes -/
def ytree (lt : Nat → Nat) (len : Nat) : Nat → Nat → Nat → List Nat → List yNd → Nat × List Nat × List yNd × (Int32 × Int32 × Int32)
  | 0, _, _, cd, nd => (0, cd, nd, (0, 0, 0))
  | f + 1, x, a, cd, nd => if (ynode lt len x a cd).1 = 0 then (0, cd, nd, (ynode lt len x a cd).2.2.2.2) else if (ynode lt len x a cd).2.1 = len then (1, (ynode lt len x a cd).2.2.1, nd ++ [(ynode lt len x a cd).2.2.2.1], (0, 0, 0)) else ytree lt len f (x + 1) ((ynode lt len x a cd).2.1 + 1) (ynode lt len x a cd).2.2.1 (nd ++ [(ynode lt len x a cd).2.2.2.1])
/-! what programs keep -/
theorem zexp_new {lt : Nat → Nat} {rk len a : Nat} {cd : List Nat} (hl : zlok lt len) (ha : a ≤ len) (hc : cd.length ≤ a) : (zexp lt rk 122 1 a [] cd).2.1 ≤ len ∧ a ≤ (zexp lt rk 122 1 a [] cd).2.1 ∧ ((zexp lt rk 122 1 a [] cd).1 = 0 ∨ (zexp lt rk 122 1 a [] cd).1 = 1 ∧ cd <+: (zexp lt rk 122 1 a [] cd).2.2 ∧ (zexp lt rk 122 1 a [] cd).2.2.length ≤ (zexp lt rk 122 1 a [] cd).2.1 ∧ zrun ((zexp lt rk 122 1 a [] cd).2.2.drop cd.length) 0 1 ∧ (rk = 0 → ∀ c ∈ (zexp lt rk 122 1 a [] cd).2.2.drop cd.length, c ≠ 16)) := by
  have hlen := hl.1
  have hp : zpi rk len cd.length 1 a [] cd := ⟨by simpa using hc, ha, trivial, by omega, by simp, Nat.le_refl _, by simp [zrun, zbin], by simp⟩
  obtain ⟨k1, k2, k3⟩ := zexp_keep (k0 := cd.length) hl 122 1 a [] cd (Or.inl rfl) hp (by omega)
  refine ⟨k1, k2, k3.elim Or.inl (fun q => Or.inr ⟨q.1, q.2.1, ?_, ?_, q.2.2.2.2.2.2.2.2.2⟩)⟩
  · have := q.2.2.1; simpa using this
  · have := q.2.2.2.2.2.2.2.2.1
    simpa [zbin] using this
/-- a program: its codes are two runs, the second perhaps none -/
theorem yprog_keep {lt : Nat → Nat} {len a : Nat} {cd : List Nat} (hl : zlok lt len) (ha : a ≤ len) (hc : cd.length ≤ a) : (yprog lt a cd).2.1 ≤ len ∧ ((yprog lt a cd).1 = 0 ∨ (yprog lt a cd).1 = 1 ∧ a ≤ (yprog lt a cd).2.1 ∧ cd <+: (yprog lt a cd).2.2.2 ∧ (yprog lt a cd).2.2.2.length ≤ (yprog lt a cd).2.1 ∧ cd.length ≤ (yprog lt a cd).2.2.1 ∧ (yprog lt a cd).2.2.1 ≤ (yprog lt a cd).2.2.2.length ∧ zrun (((yprog lt a cd).2.2.2.take (yprog lt a cd).2.2.1).drop cd.length) 0 1 ∧ (∀ c ∈ ((yprog lt a cd).2.2.2.take (yprog lt a cd).2.2.1).drop cd.length, c ≠ 16) ∧ ((yprog lt a cd).2.2.1 = (yprog lt a cd).2.2.2.length ∨ zrun ((yprog lt a cd).2.2.2.drop (yprog lt a cd).2.2.1) 0 1)) := by
  unfold yprog
  obtain ⟨k1, k2, k3⟩ := zexp_new (rk := 0) hl ha hc
  generalize zexp lt 0 122 1 a [] cd = r at k1 k2 k3
  unfold yprog2
  rcases k3 with k3 | ⟨k3, k4, k5, k6, k7⟩
  · rw [if_pos k3]
    exact ⟨k1, Or.inl rfl⟩
  · rw [if_neg (by omega)]
    have hpl : cd.length ≤ r.2.2.length := k4.length_le
    by_cases c : lt r.2.1 = 58
    · rw [if_pos c]
      have al := zlok_lt hl (i := r.2.1) (by omega)
      obtain ⟨j1, j2, j3⟩ := zexp_new (rk := 1) (a := r.2.1 + 1) (cd := r.2.2) hl al (by omega)
      generalize zexp lt 1 122 1 (r.2.1 + 1) [] r.2.2 = q at j1 j2 j3
      rcases j3 with j3 | ⟨j3, j4, j5, j6, j7⟩
      · exact ⟨j1, Or.inl j3⟩
      · have et : q.2.2.take r.2.2.length = r.2.2 := (List.prefix_iff_eq_take.mp j4).symm
        refine ⟨j1, Or.inr ⟨j3, by show a ≤ q.2.1; omega, k4.trans j4, j5, hpl, j4.length_le, ?_, ?_, Or.inr j6⟩⟩
        · show zrun ((q.2.2.take r.2.2.length).drop cd.length) 0 1
          rw [et]; exact k6
        · show ∀ c ∈ (q.2.2.take r.2.2.length).drop cd.length, c ≠ 16
          rw [et]; exact k7 rfl
    · rw [if_neg c]
      refine ⟨k1, Or.inr ⟨rfl, k2, k4, k5, hpl, Nat.le_refl _, ?_, ?_, Or.inl rfl⟩⟩
      · show zrun ((r.2.2.take r.2.2.length).drop cd.length) 0 1
        rw [List.take_length]; exact k6
      · show ∀ c ∈ (r.2.2.take r.2.2.length).drop cd.length, c ≠ 16
        rw [List.take_length]; exact k7 rfl
