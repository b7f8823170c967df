theorem zset_top : ∀ {st cd : List Nat} {b : Nat} {t : List Nat}, (zset 1 st cd).1 = b :: t → ¬ b < 4
  | [], cd, b, t, h => by simp [zset] at h
  | s :: l, cd, b, t, h => by
    unfold zset at h
    by_cases c : s < 4 ∧ 1 ≤ zstr s
    · rw [if_pos c] at h
      exact zset_top h
    · rw [if_neg c] at h
      injection h with h1 h2
      have : 1 ≤ zstr s := by unfold zstr; split <;> omega
      omega
/-- an operator keeps it -/
theorem zoprt_keep {lt : Nat → Nat} {rk len k0 a : Nat} {st cd : List Nat} (hl : zlok lt len) (h : zpi rk len k0 2 a st cd) : (zoprt lt a st cd).2.1 ≤ len ∧ ((zoprt lt a st cd).1 = 0 ∨ ((zoprt lt a st cd).1 = 3 ∧ (zoprt lt a st cd).2.1 = a ∧ zpi rk len k0 2 a [] (zoprt lt a st cd).2.2.2) ∨ ((zoprt lt a st cd).1 = 1 ∨ (zoprt lt a st cd).1 = 2) ∧ a < (zoprt lt a st cd).2.1 ∧ zpi rk len k0 (zoprt lt a st cd).1 (zoprt lt a st cd).2.1 (zoprt lt a st cd).2.2.1 (zoprt lt a st cd).2.2.2) := by
  have la : lt a ≠ 0 → a + 1 ≤ len := fun q => zlok_lt hl q
  unfold zoprt
  by_cases c1 : zop1 (lt a) < 4
  · rw [if_pos c1]
    have hne : lt a ≠ 0 := fun e => by
      rw [e] at c1
      exact absurd c1 (by decide)
    obtain ⟨⟨g1, g2, g3, g4, g5, g6, g7, g8⟩, _⟩ := zset_keep (k := zstr (zop1 (lt a))) h
    refine ⟨la hne, Or.inr (Or.inr ⟨Or.inl rfl, by show a < a + 1; omega, ?_⟩)⟩
    refine ⟨by simp; omega, la hne, znoN_cons g3 (fun _ => g4 rfl), fun q => absurd q (by show ¬ (1 = 2); decide), fun u hu => ?_, g6, ?_, g8⟩
    · rcases List.mem_cons.mp hu with z | z
      · omega
      · exact g5 u z
    · show zrun _ 0 (zbin (zset (zstr (zop1 (lt a))) st cd).1 + (if zop1 (lt a) < 4 ∨ zop1 (lt a) = 5 ∨ zop1 (lt a) = 6 then 1 else 0) + 0)
      rw [if_pos (Or.inl c1)]
      exact g7
  · rw [if_neg c1]
    obtain ⟨hz, _⟩ := zset_keep (k := 1) h
    have htop : ∀ (b : Nat) (t : List Nat), (zset 1 st cd).1 = b :: t → ¬ b < 4 := fun b t => zset_top
    generalize zset 1 st cd = q at hz htop ⊢
    obtain ⟨s1, cd1⟩ := q
    obtain ⟨g1, g2, g3, g4, g5, g6, g7, g8⟩ := hz
    have g6 : k0 ≤ cd1.length := g6
    unfold zoprt2
    match s1, g1, g3, g4, g5, g7, htop with
    | [], g1, g3, g4, g5, g7, _ => exact ⟨g2, Or.inr (Or.inl ⟨rfl, rfl, g1, g2, g3, g4, g5, g6, g7, g8⟩)⟩
    | b :: t, g1, g3, g4, g5, g7, htop =>
      have hb4 : ¬ b < 4 := htop b t rfl
      have hb : b ≠ 4 := fun e => g4 rfl t (by rw [e])
      have hb9 := g5 b List.mem_cons_self
      have g7' : zrun (cd1.drop k0) 0 (zbin t + (if b < 4 ∨ b = 5 ∨ b = 6 then 1 else 0) + 1) := g7
      simp only []
      by_cases c2 : lt a = 44 ∧ (b = 8 ∨ b = 9)
      · rw [if_pos c2]
        refine ⟨la (by omega), Or.inr (Or.inr ⟨Or.inl rfl, by show a < a + 1; omega, ?_⟩)⟩
        refine ⟨by simp at g1 ⊢; omega, la (by omega), znoN_cons (znoN_tail g3) (fun q => by omega), fun q => absurd q (by show ¬ (1 = 2); decide), fun u hu => ?_, g6, ?_, g8⟩
        · rcases List.mem_cons.mp hu with z | z
          · omega
          · exact g5 u (List.mem_cons_of_mem _ z)
        · show zrun _ 0 (zbin t + (if b - 3 < 4 ∨ b - 3 = 5 ∨ b - 3 = 6 then 1 else 0) + 0)
          rw [if_pos (by omega)]
          rw [if_neg (by omega)] at g7'
          exact g7'
      · rw [if_neg c2]
        by_cases c3 : lt a = 41 ∧ b ≠ 8 ∧ b ≠ 9
        · rw [if_pos c3]
          have hal := la (by omega)
          by_cases c4 : b = 7
          · rw [if_pos c4]
            rw [if_neg (by omega)] at g7'
            obtain ⟨k1, k2⟩ := zpop4_keep (rk := rk) (len := len) (k0 := k0) (a := a + 1) (st := t) (cd := cd1) (by simp at g1; omega) hal (znoN_tail g3) (fun u hu => g5 u (List.mem_cons_of_mem _ hu)) g6 g7' g8
            exact ⟨hal, Or.inr (Or.inr ⟨Or.inr rfl, by show a < a + 1; omega, k1⟩)⟩
          · rw [if_neg c4]
            rw [if_pos (by omega)] at g7'
            have hs := zrun_snoc (c := b) g7' (by omega) (by omega) (by omega)
            have e : znd b (zbin t + 1 + 1) = zbin t + 1 := by
              unfold znd
              rw [if_pos (by omega), if_neg hb]; rfl
            rw [e, ← zdrop_snoc g6] at hs
            obtain ⟨k1, k2⟩ := zpop4_keep (rk := rk) (len := len) (k0 := k0) (a := a + 1) (st := t) (cd := cd1 ++ [b]) (by simp at g1 ⊢; omega) hal (znoN_tail g3) (fun u hu => g5 u (List.mem_cons_of_mem _ hu)) (by simp; omega) hs (fun q c hc => by
              rw [zdrop_snoc g6] at hc
              rcases List.mem_append.mp hc with z | z
              · exact g8 q c z
              · rw [List.mem_singleton] at z; omega)
            exact ⟨hal, Or.inr (Or.inr ⟨Or.inr rfl, by show a < a + 1; omega, k1⟩)⟩
        · rw [if_neg c3]
          exact ⟨g2, Or.inl rfl⟩
/-! codes are only put behind -/
theorem zpop4_pre : ∀ (st cd : List Nat), cd <+: (zpop4 st cd).2
  | [], cd => List.prefix_refl _
  | s :: t, cd => by
    unfold zpop4
    split
    · exact (List.prefix_append cd [4]).trans (zpop4_pre t (cd ++ [4]))
    · exact List.prefix_refl _
theorem zset_pre (k : Nat) : ∀ (st cd : List Nat), cd <+: (zset k st cd).2
  | [], cd => List.prefix_refl _
  | s :: t, cd => by
    unfold zset
    split
    · exact (List.prefix_append cd [s]).trans (zset_pre k t (cd ++ [s]))
    · exact List.prefix_refl _
theorem zoprd_pre (lt : Nat → Nat) (rk a : Nat) (st cd : List Nat) : cd <+: (zoprd lt rk a st cd).2.2.2 := by
  unfold zoprd
  split
  · split
    · exact List.prefix_refl _
    · exact (List.prefix_append cd _).trans (zpop4_pre st _)
  · split
    · exact List.prefix_refl _
    · split
      · exact List.prefix_refl _
      · split
        · split <;> exact List.prefix_refl _
        · split
          · split <;> exact List.prefix_refl _
          · split
            · exact List.prefix_refl _
            · exact (List.prefix_append cd _).trans (zpop4_pre st _)
theorem zoprt_pre (lt : Nat → Nat) (a : Nat) (st cd : List Nat) : cd <+: (zoprt lt a st cd).2.2.2 := by
  unfold zoprt
  split
  · exact zset_pre _ st cd
  · refine (zset_pre 1 st cd).trans ?_
    unfold zoprt2
    split
    · exact List.prefix_refl _
    · split
      · exact List.prefix_refl _
      · split
        · split
          · exact zpop4_pre _ _
          · exact (List.prefix_append _ _).trans (zpop4_pre _ _)
        · exact List.prefix_refl _
def zstep (lt : Nat → Nat) (rk due a : Nat) (st cd : List Nat) : Nat × Nat × List Nat × List Nat := if due = 1 then zoprd lt rk a st cd else zoprt lt a st cd
theorem zexp_succ {lt : Nat → Nat} {rk f due a : Nat} {st cd : List Nat} : zexp lt rk (f + 1) due a st cd = if (zstep lt rk due a st cd).1 = 0 then (0, (zstep lt rk due a st cd).2.1, (zstep lt rk due a st cd).2.2.2) else if (zstep lt rk due a st cd).1 = 3 then (1, (zstep lt rk due a st cd).2.1, (zstep lt rk due a st cd).2.2.2) else zexp lt rk f (zstep lt rk due a st cd).1 (zstep lt rk due a st cd).2.1 (zstep lt rk due a st cd).2.2.1 (zstep lt rk due a st cd).2.2.2 := rfl
theorem zstep_keep {lt : Nat → Nat} {rk len k0 due a : Nat} {st cd : List Nat} (hl : zlok lt len) (hd : due = 1 ∨ due = 2) (h : zpi rk len k0 due a st cd) : (zstep lt rk due a st cd).2.1 ≤ len ∧ cd <+: (zstep lt rk due a st cd).2.2.2 ∧ ((zstep lt rk due a st cd).1 = 0 ∨ ((zstep lt rk due a st cd).1 = 3 ∧ (zstep lt rk due a st cd).2.1 = a ∧ zpi rk len k0 2 a [] (zstep lt rk due a st cd).2.2.2) ∨ ((zstep lt rk due a st cd).1 = 1 ∨ (zstep lt rk due a st cd).1 = 2) ∧ a < (zstep lt rk due a st cd).2.1 ∧ zpi rk len k0 (zstep lt rk due a st cd).1 (zstep lt rk due a st cd).2.1 (zstep lt rk due a st cd).2.2.1 (zstep lt rk due a st cd).2.2.2) := by
  unfold zstep
  rcases hd with rfl | rfl
  · rw [if_pos rfl]
    obtain ⟨k1, k2⟩ := zoprd_keep hl h
    exact ⟨k1, zoprd_pre _ _ _ _ _, k2.elim Or.inl (fun q => Or.inr (Or.inr q))⟩
  · rw [if_neg (by decide)]
    obtain ⟨k1, k2⟩ := zoprt_keep hl h
    exact ⟨k1, zoprt_pre _ _ _ _, k2⟩
theorem zexp_keep {lt : Nat → Nat} {rk len k0 : Nat} (hl : zlok lt len) : ∀ (f due a : Nat) (st cd : List Nat), (due = 1 ∨ due = 2) → zpi rk len k0 due a st cd → len - a < f → (zexp lt rk f due a st cd).2.1 ≤ len ∧ a ≤ (zexp lt rk f due a st cd).2.1 ∧ ((zexp lt rk f due a st cd).1 = 0 ∨ (zexp lt rk f due a st cd).1 = 1 ∧ cd <+: (zexp lt rk f due a st cd).2.2 ∧ zpi rk len k0 2 (zexp lt rk f due a st cd).2.1 [] (zexp lt rk f due a st cd).2.2)
  | 0, _, _, _, _, _, _, h => by omega
  | f + 1, due, a, st, cd, hd, h, hf => by
    rw [zexp_succ]
    obtain ⟨k1, k2, k3⟩ := zstep_keep (rk := rk) hl hd h
    rcases k3 with k3 | ⟨k3, k4, k5⟩ | ⟨k3, k4, k5⟩
    · rw [if_pos k3]
      refine ⟨k1, ?_, Or.inl rfl⟩
      have : a ≤ (zstep lt rk due a st cd).2.1 := by
        unfold zstep at k3 ⊢
        rcases hd with rfl | rfl
        · rw [if_pos rfl] at k3 ⊢
          unfold zoprd at k3 ⊢
          have := (zrd_lt lt 6 a 0).1
          repeat' split
          all_goals first | exact Nat.le_refl _ | (show a ≤ a + 1; omega) | (show a ≤ a + 2; omega) | exact this
        · rw [if_neg (by decide)] at k3 ⊢
          unfold zoprt at k3 ⊢
          split
          · show a ≤ a + 1; omega
          · unfold zoprt2
            repeat' split
            all_goals first | exact Nat.le_refl _ | (show a ≤ a + 1; omega)
      exact this
    · rw [if_neg (by omega), if_pos k3]
      refine ⟨k1, by show a ≤ (zstep lt rk due a st cd).2.1; omega, Or.inr ⟨rfl, k2, ?_⟩⟩
      show zpi rk len k0 2 (zstep lt rk due a st cd).2.1 [] (zstep lt rk due a st cd).2.2.2
      rw [k4]; exact k5
    · rw [if_neg (by omega), if_neg (by omega)]
      obtain ⟨i1, i2, i3⟩ := zexp_keep hl f _ _ _ _ k3 k5 (by have := k5.2.1; omega)
      refine ⟨i1, by omega, i3.elim Or.inl (fun q => Or.inr ⟨q.1, k2.trans q.2.1, q.2.2⟩)⟩
