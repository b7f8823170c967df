/-! one node, the class -/
def yPn (x k o i : Nat) : Prop := (k = 6 ∧ o = 0 ∧ 3 ≤ i ∧ i ≤ 8) ∨ (k = 42 ∧ o = 0) ∨ (k = 5 ∧ o = 5 ∧ (i = 0 ∨ i = 10)) ∨ (k = 40 ∧ o = 5) ∨ (k = 33 ∧ o = 5) ∨ (32 ≤ k ∧ k ≤ 39 ∧ o = 5 ∧ i = x)
theorem yPe_n {x : Nat} : ∀ k o i, yPe k o i → yPn x k o i := fun k o i h => by
  rcases h with ⟨a, b, c⟩ | ⟨a, b⟩ | ⟨a, b, c⟩ | ⟨a, b⟩
  · exact Or.inl ⟨a, b, by omega, by omega⟩
  · exact Or.inr (Or.inl ⟨a, b⟩)
  · exact Or.inr (Or.inr (Or.inl ⟨a, b, Or.inr c⟩))
  · exact Or.inr (Or.inr (Or.inr (Or.inl ⟨a, b⟩)))
theorem yPa_n {x : Nat} : ∀ k o i, yPa x k o i → yPn x k o i := fun k o i h => by
  rcases h with ⟨a, b, c⟩ | ⟨a, b⟩ | ⟨a, b, c⟩
  · exact Or.inr (Or.inr (Or.inl ⟨a, b, Or.inl c⟩))
  · exact Or.inr (Or.inr (Or.inr (Or.inr (Or.inl ⟨a, b⟩))))
  · exact Or.inr (Or.inr (Or.inr (Or.inr (Or.inr ⟨by omega, by omega, b, c⟩))))
theorem yPb_n {x : Nat} : ∀ k o i, yPb x k o i → yPn x k o i := fun k o i h => by
  rcases h with h | h | ⟨a, b, c⟩
  · exact yPe_n k o i h
  · exact yPa_n k o i h
  · exact Or.inl ⟨a, b, by omega, by omega⟩
theorem yPp_n {x : Nat} : ∀ k o i, yPp x k o i → yPn x k o i := fun k o i h => by
  rcases h with h | ⟨a, b, c⟩ | ⟨a, b, c⟩
  · exact yPe_n k o i h
  · exact Or.inl ⟨a, b, by omega, by omega⟩
  · exact Or.inr (Or.inr (Or.inr (Or.inr (Or.inr ⟨by omega, by omega, b, c⟩))))
theorem yPs_n {x : Nat} : ∀ k o i, yPs x k o i → yPn x k o i := fun k o i h => by
  rcases h with h | ⟨a, b, c⟩ | ⟨a, b, c⟩
  · exact yPe_n k o i h
  · exact Or.inl ⟨a, b, by omega, by omega⟩
  · exact Or.inr (Or.inr (Or.inr (Or.inr (Or.inr ⟨by omega, by omega, b, c⟩))))
theorem yPt_n {x : Nat} : ∀ k o i, yPt x k o i → yPn x k o i := fun k o i h => by
  rcases h with ⟨a, b, c⟩ | ⟨a, b, c⟩
  · exact Or.inl ⟨a, b, by omega, by omega⟩
  · exact Or.inr (Or.inr (Or.inr (Or.inr (Or.inr ⟨by omega, by omega, b, c⟩))))
theorem ypar_le {lt : Nat → Nat} {len x a : Nat} (hl : zlok lt len) (ha : a ≤ len) : (ypar lt x a).2.1 ≤ len ∧ a ≤ (ypar lt x a).2.1 ∧ ((ypar lt x a).1 = 0 ∨ (ypar lt x a).1 = 1) := by
  have r1 := zrd_le (f := 2) (v := 0) hl ha
  have r3 := (zrd_lt lt 2 a 0).1
  unfold ypar
  by_cases c : x = 0
  · rw [if_pos c]; exact ⟨ha, Nat.le_refl _, Or.inr rfl⟩
  · rw [if_neg c]
    by_cases d : lt (zrd lt 2 a 0).1 = 60 ∧ (zrd lt 2 a 0).1 ≠ a ∧ (zrd lt 2 a 0).2 < x
    · rw [if_pos d]
      have := zlok_lt hl (i := (zrd lt 2 a 0).1) (by omega)
      exact ⟨by show (zrd lt 2 a 0).1 + 1 ≤ len; omega, by show a ≤ (zrd lt 2 a 0).1 + 1; omega, Or.inr rfl⟩
    · rw [if_neg d]; exact ⟨ha, Nat.le_refl _, Or.inl rfl⟩
theorem yshp_le {lt : Nat → Nat} {len x a : Nat} (hl : zlok lt len) (ha : a ≤ len) : (yshp lt x a).2.1 ≤ len ∧ a ≤ (yshp lt x a).2.1 ∧ ((yshp lt x a).1 = 0 ∨ (yshp lt x a).1 = 1) ∧ (yshp lt x a).2.2.1 < 10000 ∧ (yshp lt x a).2.2.2 < 10000 := by
  unfold yshp
  by_cases c : x = 0 ∨ lt a ≠ 64
  · rw [if_pos c]; exact ⟨ha, Nat.le_refl _, Or.inr rfl, by show 0 < 10000; omega, by show 0 < 10000; omega⟩
  rw [if_neg c]
  have al := zlok_lt hl (i := a) (by omega)
  obtain ⟨n1, n2, n3, n4⟩ := ynum_le (a := a + 1) hl al
  by_cases c1 : (ynum lt (a + 1)).1 = 0
  · rw [if_pos c1]; exact ⟨n1, by show a ≤ (ynum lt (a + 1)).2.1; omega, Or.inl rfl, by show 0 < 10000; omega, by show 0 < 10000; omega⟩
  rw [if_neg c1]
  by_cases c2 : (ynum lt (a + 1)).2.2 = 0
  · rw [if_pos c2]; exact ⟨al, by show a ≤ a + 1; omega, Or.inl rfl, by show 0 < 10000; omega, by show 0 < 10000; omega⟩
  rw [if_neg c2]
  by_cases c3 : lt (ynum lt (a + 1)).2.1 ≠ 44
  · rw [if_pos c3]; exact ⟨n1, by show a ≤ (ynum lt (a + 1)).2.1; omega, Or.inl rfl, by show 0 < 10000; omega, by show 0 < 10000; omega⟩
  rw [if_neg c3]
  have al2 := zlok_lt hl (i := (ynum lt (a + 1)).2.1) (by omega)
  obtain ⟨q1, q2, q3, q4⟩ := ynum_le (a := (ynum lt (a + 1)).2.1 + 1) hl al2
  exact ⟨q1, by show a ≤ (ynum lt ((ynum lt (a + 1)).2.1 + 1)).2.1; omega, q4, n2, q2⟩
