/-! reading expressions: what it does -/
def zstr (s : Nat) : Nat := if s < 2 then 1 else 2
def zpop4 : List Nat → List Nat → List Nat × List Nat
  | [], cd => ([], cd)
  | s :: t, cd => if s = 4 then zpop4 t (cd ++ [4]) else (s :: t, cd)
def zset (k : Nat) : List Nat → List Nat → List Nat × List Nat
  | [], cd => ([], cd)
  | s :: t, cd => if s < 4 ∧ k ≤ zstr s then zset k t (cd ++ [s]) else (s :: t, cd)
def zdig (c : Nat) : Prop := 48 ≤ c ∧ c ≤ 57
theorem zdig_dec (c : Nat) : zdig c ∨ ¬ zdig c := by unfold zdig; omega
/-- at most so many digits: the place behind them, the number -/
def zrd (lt : Nat → Nat) : Nat → Nat → Nat → Nat × Nat
  | 0, at', a => (at', a)
  | f + 1, at', a => if 48 ≤ lt at' ∧ lt at' ≤ 57 then zrd lt f (at' + 1) (10 * a + (lt at' - 48)) else (at', a)
/-- which variable a letter is; 10: none -/
def zvr (c : Nat) : Nat := if c = 112 then 0 else if c = 108 then 1 else if c = 100 then 2 else if c = 102 then 3 else if c = 119 then 4 else if c = 97 then 5 else if c = 116 then 6 else if c = 118 then 7 else if c = 110 then 8 else if c = 114 then 9 else 10
def zop1 (c : Nat) : Nat := if c = 43 then 0 else if c = 45 then 1 else if c = 42 then 2 else if c = 47 then 3 else 4
/-- one operand: (0 wrong, 1 an operand is due, 2 an operator is due, 3 the end; place; stack; codes) -/
def zoprd (lt : Nat → Nat) (rk : Nat) (a : Nat) (st cd : List Nat) : Nat × Nat × List Nat × List Nat :=
  if 48 ≤ lt a ∧ lt a ≤ 57 then
    (if 48 ≤ lt (zrd lt 6 a 0).1 ∧ lt (zrd lt 6 a 0).1 ≤ 57 then (0, (zrd lt 6 a 0).1, st, cd) else (2, (zrd lt 6 a 0).1, zpop4 st (cd ++ [17 + (zrd lt 6 a 0).2])))
  else if lt a = 45 then (1, a + 1, 4 :: st, cd)
  else if lt a = 40 then (1, a + 1, 7 :: st, cd)
  else if lt a = 77 then (if lt (a + 1) = 40 then (1, a + 2, 8 :: st, cd) else (0, a + 1, st, cd))
  else if lt a = 109 then (if lt (a + 1) = 40 then (1, a + 2, 9 :: st, cd) else (0, a + 1, st, cd))
  else if zvr (lt a) = 10 ∨ (zvr (lt a) = 9 ∧ rk = 0) then (0, a, st, cd)
  else (2, a + 1, zpop4 st (cd ++ [7 + zvr (lt a)]))
def zoprt2 (lt : Nat → Nat) (a : Nat) (q : List Nat × List Nat) : Nat × Nat × List Nat × List Nat := match q.1 with
  | [] => (3, a, [], q.2)
  | b :: t => if lt a = 44 ∧ (b = 8 ∨ b = 9) then (1, a + 1, (b - 3) :: t, q.2)
    else if lt a = 41 ∧ b ≠ 8 ∧ b ≠ 9 then (2, a + 1, zpop4 t (if b = 7 then q.2 else q.2 ++ [b]))
    else (0, a, b :: t, q.2)
def zoprt (lt : Nat → Nat) (a : Nat) (st cd : List Nat) : Nat × Nat × List Nat × List Nat :=
  if zop1 (lt a) < 4 then (1, a + 1, zop1 (lt a) :: (zset (zstr (zop1 (lt a))) st cd).1, (zset (zstr (zop1 (lt a))) st cd).2)
  else zoprt2 lt a (zset 1 st cd)
/-- an expression: whether it is right, the place, the codes -/
def zexp (lt : Nat → Nat) (rk : Nat) : Nat → Nat → Nat → List Nat → List Nat → Nat × Nat × List Nat
  | 0, _, a, _, cd => (0, a, cd)
  | f + 1, due, a, st, cd =>
    let r := if due = 1 then zoprd lt rk a st cd else zoprt lt a st cd
    if r.1 = 0 then (0, r.2.1, r.2.2.2) else if r.1 = 3 then (1, r.2.1, r.2.2.2) else zexp lt rk f r.1 r.2.1 r.2.2.1 r.2.2.2
/-! what always holds of the stack -/
def znoN : List Nat → Prop
  | [] => True
  | [_] => True
  | s :: t :: l => ¬ (s < 4 ∧ t = 4) ∧ znoN (t :: l)
def zbin : List Nat → Nat
  | [] => 0
  | s :: t => zbin t + (if s < 4 ∨ s = 5 ∨ s = 6 then 1 else 0)
def zrun : List Nat → Nat → Nat → Prop
  | [], d, d' => d = d'
  | c :: l, d, d' => c < 1000017 ∧ (c < 7 → 1 ≤ d) ∧ (c < 7 → c ≠ 4 → 2 ≤ d) ∧ zrun l (znd c d) d'
theorem zrun_snoc : ∀ {l : List Nat} {c d d1 : Nat}, zrun l d d1 → c < 1000017 → (c < 7 → 1 ≤ d1) → (c < 7 → c ≠ 4 → 2 ≤ d1) → zrun (l ++ [c]) d (znd c d1)
  | [], c, d, d1, h, h1, h2, h3 => by
    have : d = d1 := h
    subst this
    exact ⟨h1, h2, h3, rfl⟩
  | a :: l, c, d, d1, h, h1, h2, h3 => ⟨h.1, h.2.1, h.2.2.1, zrun_snoc h.2.2.2 h1 h2 h3⟩
theorem zrun_wf : ∀ {l : List Nat} {code : Nat → Nat} {k d : Nat}, zrun l d 1 → (∀ i c, l[i]? = some c → code (k + i) = c) → zwf code l.length k d
  | [], code, k, d, h, _ => h
  | a :: l, code, k, d, h, hc => by
    have h0 : code k = a := hc 0 a rfl
    refine ⟨by rw [h0]; exact h.1, by rw [h0]; exact h.2.1, by rw [h0]; exact h.2.2.1, ?_⟩
    rw [h0]
    exact zrun_wf h.2.2.2 (fun i c hi => by
      have := hc (i + 1) c (by simpa using hi)
      rw [show k + 1 + i = k + (i + 1) by omega]; exact this)
/-- all that is kept: due, place, stack, codes; k0: where the expression's codes begin -/
def zpi (rk len k0 due a : Nat) (st cd : List Nat) : Prop := cd.length + st.length ≤ a ∧ a ≤ len ∧ znoN st ∧ (due = 2 → ∀ t, st ≠ 4 :: t) ∧ (∀ s ∈ st, s ≤ 9) ∧ k0 ≤ cd.length ∧ zrun (cd.drop k0) 0 (zbin st + (if due = 1 then 0 else 1)) ∧ (rk = 0 → ∀ c ∈ cd.drop k0, c ≠ 16)
theorem znoN_tail {s : Nat} {t : List Nat} (h : znoN (s :: t)) : znoN t := by
  match t, h with
  | [], _ => trivial
  | _ :: _, h => exact h.2
theorem znoN_top {s : Nat} {t : List Nat} (h : znoN (s :: t)) (hs : s < 4) : ∀ u, t ≠ 4 :: u := by
  intro u e
  subst e
  exact h.1 ⟨hs, rfl⟩
theorem znoN_cons {s : Nat} {t : List Nat} (h : znoN t) (hs : s < 4 → ∀ u, t ≠ 4 :: u) : znoN (s :: t) := by
  match t, h, hs with
  | [], _, _ => trivial
  | a :: l, h, hs => exact ⟨fun q => hs q.1 l (by rw [q.2]), h⟩
theorem zdrop_snoc {cd : List Nat} {k0 c : Nat} (h : k0 ≤ cd.length) : (cd ++ [c]).drop k0 = cd.drop k0 ++ [c] := by
  rw [List.drop_append_of_le_length h]
/-- minus signs ahead of a factor -/
theorem zpop4_keep {rk len k0 a : Nat} : ∀ {st cd : List Nat}, cd.length + st.length ≤ a → a ≤ len → znoN st → (∀ s ∈ st, s ≤ 9) → k0 ≤ cd.length → zrun (cd.drop k0) 0 (zbin st + 1) → (rk = 0 → ∀ c ∈ cd.drop k0, c ≠ 16) → zpi rk len k0 2 a (zpop4 st cd).1 (zpop4 st cd).2 ∧ cd.length ≤ (zpop4 st cd).2.length
  | [], cd, h1, h2, h3, h4, h5, h6, h7 => ⟨⟨h1, h2, h3, fun _ _ => by simp [zpop4], h4, h5, h6, h7⟩, Nat.le_refl _⟩
  | s :: t, cd, h1, h2, h3, h4, h5, h6, h7 => by
    unfold zpop4
    by_cases c : s = 4
    · subst c
      rw [if_pos rfl]
      have hb : zbin (4 :: t) = zbin t := by simp [zbin]
      rw [hb] at h6
      have hs := zrun_snoc (c := 4) h6 (by omega) (by omega) (by omega)
      have e : znd 4 (zbin t + 1) = zbin t + 1 := rfl
      rw [e, ← zdrop_snoc h5] at hs
      obtain ⟨k1, k2⟩ := zpop4_keep (rk := rk) (len := len) (k0 := k0) (a := a) (st := t) (cd := cd ++ [4]) (by simp at h1 ⊢; omega) h2 (znoN_tail h3) (fun u hu => h4 u (List.mem_cons_of_mem _ hu)) (by simp; omega) hs (fun q c hc => by
        rw [zdrop_snoc h5] at hc
        rcases List.mem_append.mp hc with z | z
        · exact h7 q c z
        · rw [List.mem_singleton] at z; omega)
      exact ⟨k1, by simp at k2; omega⟩
    · rw [if_neg c]
      exact ⟨⟨h1, h2, h3, fun _ u e => c (by injection e), h4, h5, h6, h7⟩, Nat.le_refl _⟩
/-- operators that bind at least so strongly become codes -/
theorem zset_keep {rk len k0 a k : Nat} : ∀ {st cd : List Nat}, zpi rk len k0 2 a st cd → zpi rk len k0 2 a (zset k st cd).1 (zset k st cd).2 ∧ cd.length ≤ (zset k st cd).2.length
  | [], cd, h => ⟨h, Nat.le_refl _⟩
  | s :: t, cd, h => by
    unfold zset
    by_cases c : s < 4 ∧ k ≤ zstr s
    · rw [if_pos c]
      obtain ⟨h1, h2, h3, h4, h5, h6, h7, h8⟩ := h
      have hb : zbin (s :: t) = zbin t + 1 := by simp [zbin, c.1]
      have h7' : zrun (cd.drop k0) 0 (zbin (s :: t) + 1) := h7
      rw [hb] at h7'
      have hs := zrun_snoc (c := s) h7' (by omega) (by omega) (by omega)
      have e : znd s (zbin t + 1 + 1) = zbin t + 1 := by
        unfold znd
        rw [if_pos (by omega), if_neg (by omega)]; rfl
      rw [e, ← zdrop_snoc h6] at hs
      obtain ⟨k1, k2⟩ := zset_keep (k := k) (st := t) (cd := cd ++ [s]) ⟨by simp at h1 ⊢; omega, h2, znoN_tail h3, fun _ => znoN_top h3 c.1, fun u hu => h5 u (List.mem_cons_of_mem _ hu), by simp; omega, hs, fun q c' hc => by
        rw [zdrop_snoc h6] at hc
        rcases List.mem_append.mp hc with z | z
        · exact h8 q c' z
        · rw [List.mem_singleton] at z; omega⟩
      exact ⟨k1, by simp at k2; omega⟩
    · rw [if_neg c]
      exact ⟨h, Nat.le_refl _⟩
theorem zrd_lt (lt : Nat → Nat) : ∀ (f a v : Nat), a ≤ (zrd lt f a v).1 ∧ (zrd lt f a v).1 ≤ a + f ∧ (∀ j, a ≤ j → j < (zrd lt f a v).1 → 48 ≤ lt j ∧ lt j ≤ 57)
  | 0, a, v => ⟨Nat.le_refl _, Nat.le_refl _, fun j h1 h2 => by
    have h2 : j < a := h2
    omega⟩
  | f + 1, a, v => by
    unfold zrd
    by_cases c : 48 ≤ lt a ∧ lt a ≤ 57
    · rw [if_pos c]
      obtain ⟨h1, h2, h3⟩ := zrd_lt lt f (a + 1) (10 * v + (lt a - 48))
      refine ⟨by omega, by omega, fun j q1 q2 => ?_⟩
      by_cases e : j = a
      · subst e; exact c
      · exact h3 j (by omega) q2
    · rw [if_neg c]
      exact ⟨Nat.le_refl _, by omega, fun j h1 h2 => by
        have h2 : j < a := h2
        omega⟩
theorem zrd_val (lt : Nat → Nat) : ∀ (f a v : Nat), (zrd lt f a v).2 < (v + 1) * 10 ^ f
  | 0, a, v => by
    show v < (v + 1) * 10 ^ 0
    omega
  | f + 1, a, v => by
    unfold zrd
    have hp : 10 ^ (f + 1) = 10 ^ f * 10 := Nat.pow_succ 10 f
    have h0 : 0 < 10 ^ f := Nat.pow_pos (by omega)
    by_cases c : 48 ≤ lt a ∧ lt a ≤ 57
    · rw [if_pos c]
      have := zrd_val lt f (a + 1) (10 * v + (lt a - 48))
      refine Nat.lt_of_lt_of_le this ?_
      have h1 : 10 * v + (lt a - 48) + 1 ≤ (v + 1) * 10 := by omega
      calc (10 * v + (lt a - 48) + 1) * 10 ^ f ≤ ((v + 1) * 10) * 10 ^ f := Nat.mul_le_mul_right _ h1
        _ = (v + 1) * 10 ^ (f + 1) := by rw [hp, Nat.mul_assoc, Nat.mul_comm 10]
    · rw [if_neg c]
      show v < (v + 1) * 10 ^ (f + 1)
      have : v + 1 ≤ (v + 1) * 10 ^ (f + 1) := Nat.le_mul_of_pos_right _ (Nat.pow_pos (by omega))
      omega
theorem zvr_le (c : Nat) : zvr c ≤ 10 := by
  unfold zvr
  repeat' split
  all_goals omega
theorem zvr_nz {c : Nat} (h : zvr c ≠ 10) : c ≠ 0 := by
  intro e
  subst e
  exact h rfl
/-- letters of a text of so many -/
def zlok (lt : Nat → Nat) (len : Nat) : Prop := len ≤ 120 ∧ (∀ i, i < len → 32 ≤ lt i ∧ lt i ≤ 126) ∧ ∀ i, len ≤ i → lt i = 0
theorem zlok_lt {lt : Nat → Nat} {len i : Nat} (h : zlok lt len) (hi : lt i ≠ 0) : i < len := by
  by_cases c : i < len
  · exact c
  · exact absurd (h.2.2 i (by omega)) hi
/-- an operand keeps it -/
theorem zoprd_keep {lt : Nat → Nat} {rk len k0 a : Nat} {st cd : List Nat} (hl : zlok lt len) (h : zpi rk len k0 1 a st cd) : (zoprd lt rk a st cd).2.1 ≤ len ∧ ((zoprd lt rk a st cd).1 = 0 ∨ ((zoprd lt rk a st cd).1 = 1 ∨ (zoprd lt rk a st cd).1 = 2) ∧ a < (zoprd lt rk a st cd).2.1 ∧ zpi rk len k0 (zoprd lt rk a st cd).1 (zoprd lt rk a st cd).2.1 (zoprd lt rk a st cd).2.2.1 (zoprd lt rk a st cd).2.2.2) := by
  obtain ⟨h1, h2, h3, h4, h5, h6, h7, h8⟩ := h
  have h7 : zrun (cd.drop k0) 0 (zbin st) := h7
  unfold zoprd
  by_cases c1 : 48 ≤ lt a ∧ lt a ≤ 57
  · rw [if_pos c1]
    obtain ⟨r1, r2, r3⟩ := zrd_lt lt 6 a 0
    have rv := zrd_val lt 6 a 0
    have ra : a < (zrd lt 6 a 0).1 := by
      have : (zrd lt 6 a 0).1 = (zrd lt 5 (a + 1) (10 * 0 + (lt a - 48))).1 := by
        show (if 48 ≤ lt a ∧ lt a ≤ 57 then _ else _ : Nat × Nat).1 = _
        rw [if_pos c1]
      have := (zrd_lt lt 5 (a + 1) (10 * 0 + (lt a - 48))).1
      omega
    have rl : (zrd lt 6 a 0).1 ≤ len := by
      have := r3 ((zrd lt 6 a 0).1 - 1) (by omega) (by omega)
      have := zlok_lt hl (i := (zrd lt 6 a 0).1 - 1) (by omega)
      omega
    by_cases c2 : 48 ≤ lt (zrd lt 6 a 0).1 ∧ lt (zrd lt 6 a 0).1 ≤ 57
    · rw [if_pos c2]
      exact ⟨rl, Or.inl rfl⟩
    · rw [if_neg c2]
      have hs := zrun_snoc (c := 17 + (zrd lt 6 a 0).2) h7 (by omega) (by omega) (by omega)
      have e : znd (17 + (zrd lt 6 a 0).2) (zbin st) = zbin st + 1 := by unfold znd; rw [if_neg (by omega)]
      rw [e, ← zdrop_snoc h6] at hs
      obtain ⟨k1, k2⟩ := zpop4_keep (rk := rk) (len := len) (k0 := k0) (a := (zrd lt 6 a 0).1) (st := st) (cd := cd ++ [17 + (zrd lt 6 a 0).2]) (by simp; omega) rl h3 h5 (by simp; omega) hs (fun q c hc => by
        rw [zdrop_snoc h6] at hc
        rcases List.mem_append.mp hc with z | z
        · exact h8 q c z
        · rw [List.mem_singleton] at z; omega)
      exact ⟨rl, Or.inr ⟨Or.inr rfl, ra, k1⟩⟩
  · rw [if_neg c1]
    have push : ∀ (s a' : Nat), a' ≤ len → a < a' → s = 4 ∨ s = 7 ∨ s = 8 ∨ s = 9 → zpi rk len k0 1 a' (s :: st) cd := fun s a' q1 q2 q3 => by
      refine ⟨by simp; omega, q1, znoN_cons h3 (by omega), by omega, fun u hu => ?_, h6, ?_, h8⟩
      · rcases List.mem_cons.mp hu with z | z
        · omega
        · exact h5 u z
      · show zrun (cd.drop k0) 0 (zbin st + (if s < 4 ∨ s = 5 ∨ s = 6 then 1 else 0) + 0)
        rw [if_neg (by omega)]
        exact h7
    have la : lt a ≠ 0 → a + 1 ≤ len := fun q => zlok_lt hl q
    by_cases c2 : lt a = 45
    · rw [if_pos c2]
      exact ⟨la (by omega), Or.inr ⟨Or.inl rfl, by show a < a + 1; omega, push 4 (a + 1) (la (by omega)) (by omega) (by omega)⟩⟩
    · rw [if_neg c2]
      by_cases c3 : lt a = 40
      · rw [if_pos c3]
        exact ⟨la (by omega), Or.inr ⟨Or.inl rfl, by show a < a + 1; omega, push 7 (a + 1) (la (by omega)) (by omega) (by omega)⟩⟩
      · rw [if_neg c3]
        by_cases c4 : lt a = 77
        · rw [if_pos c4]
          by_cases c5 : lt (a + 1) = 40
          · rw [if_pos c5]
            have := zlok_lt hl (i := a + 1) (by omega)
            exact ⟨by show a + 2 ≤ len; omega, Or.inr ⟨Or.inl rfl, by show a < a + 2; omega, push 8 (a + 2) (by omega) (by omega) (by omega)⟩⟩
          · rw [if_neg c5]
            exact ⟨la (by omega), Or.inl rfl⟩
        · rw [if_neg c4]
          by_cases c6 : lt a = 109
          · rw [if_pos c6]
            by_cases c5 : lt (a + 1) = 40
            · rw [if_pos c5]
              have := zlok_lt hl (i := a + 1) (by omega)
              exact ⟨by show a + 2 ≤ len; omega, Or.inr ⟨Or.inl rfl, by show a < a + 2; omega, push 9 (a + 2) (by omega) (by omega) (by omega)⟩⟩
            · rw [if_neg c5]
              exact ⟨la (by omega), Or.inl rfl⟩
          · rw [if_neg c6]
            by_cases c7 : zvr (lt a) = 10 ∨ (zvr (lt a) = 9 ∧ rk = 0)
            · rw [if_pos c7]
              exact ⟨h2, Or.inl rfl⟩
            · rw [if_neg c7]
              have hv := zvr_le (lt a)
              have hal := la (zvr_nz (by omega))
              have hs := zrun_snoc (c := 7 + zvr (lt a)) h7 (by omega) (by omega) (by omega)
              have e : znd (7 + zvr (lt a)) (zbin st) = zbin st + 1 := by unfold znd; rw [if_neg (by omega)]
              rw [e, ← zdrop_snoc h6] at hs
              obtain ⟨k1, k2⟩ := zpop4_keep (rk := rk) (len := len) (k0 := k0) (a := a + 1) (st := st) (cd := cd ++ [7 + zvr (lt a)]) (by simp; omega) hal h3 h5 (by simp; omega) hs (fun q c hc => by
                rw [zdrop_snoc h6] at hc
                rcases List.mem_append.mp hc with z | z
                · exact h8 q c z
                · rw [List.mem_singleton] at z; omega)
              exact ⟨hal, Or.inr ⟨Or.inr rfl, by show a < a + 1; omega, k1⟩⟩
