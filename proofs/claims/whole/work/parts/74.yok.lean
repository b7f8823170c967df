/-! what the nodes of a tree keep -/
def yprg (cd : List Nat) (s m e : Nat) : Prop := m ≤ e ∧ e ≤ cd.length ∧ zrun ((cd.take m).drop s) 0 1 ∧ (∀ c ∈ (cd.take m).drop s, c ≠ 16) ∧ (m < e → zrun ((cd.take e).drop m) 0 1)
def yok1 (cd : List Nat) (i : Nat) (n : yNd) : Prop := (0 < i → n.1 < i) ∧ n.2.1 ≤ 3 ∧ n.2.2.1 ≤ 9999 ∧ n.2.2.2.1 ≤ 9999 ∧ (i = 0 → n.2.2.1 = 0) ∧ yprg cd n.2.2.2.2.1 n.2.2.2.2.2.1 n.2.2.2.2.2.2
def yok (nd : List yNd) (cd : List Nat) : Prop := ∀ i n, nd[i]? = some n → yok1 cd i n
theorem yprg_mono {cd cd' : List Nat} {s m e : Nat} (h : yprg cd s m e) (hp : cd <+: cd') : yprg cd' s m e := by
  obtain ⟨h1, h2, h3, h4, h5⟩ := h
  obtain ⟨t, rfl⟩ := hp
  have em : (cd ++ t).take m = cd.take m := List.take_append_of_le_length (by omega)
  have ee : (cd ++ t).take e = cd.take e := List.take_append_of_le_length h2
  refine ⟨h1, by rw [List.length_append]; omega, ?_, ?_, ?_⟩
  · rw [em]; exact h3
  · rw [em]; exact h4
  · rw [ee]; exact h5
theorem yget {α : Type} {tx : List α} {a : α} {i : Nat} {c : α} (h : (tx ++ [a])[i]? = some c) : (i < tx.length ∧ tx[i]? = some c) ∨ (i = tx.length ∧ c = a) := by
  by_cases q : i < tx.length
  · rw [List.getElem?_append_left q] at h
    exact Or.inl ⟨q, h⟩
  · rw [List.getElem?_append_right (by omega)] at h
    have hi := (List.getElem?_eq_some_iff.mp h).1
    simp at hi
    have e : i = tx.length := by omega
    subst e
    simp at h
    exact Or.inr ⟨rfl, h.symm⟩
theorem yok_snoc {nd : List yNd} {cd cd' : List Nat} {n : yNd} (h : yok nd cd) (hp : cd <+: cd') (hn : yok1 cd' nd.length n) : yok (nd ++ [n]) cd' := fun i m hm => by
  rcases yget hm with q | q
  · obtain ⟨a1, a2, a3, a4, a5, a6⟩ := h i m q.2
    exact ⟨a1, a2, a3, a4, a5, yprg_mono a6 hp⟩
  · rw [q.1, q.2]; exact hn
theorem yend_le {lt : Nat → Nat} {len a : Nat} (hl : zlok lt len) (ha : a ≤ len) : yend lt a ≤ len ∧ a ≤ yend lt a := by
  unfold yend
  by_cases c : ytie (lt a) = 0
  · rw [if_pos c]; exact ⟨ha, Nat.le_refl _⟩
  · rw [if_neg c]
    have := zlok_lt hl (i := a) (fun e => c (by rw [e]; rfl))
    omega
theorem ypar_lt {lt : Nat → Nat} {x a : Nat} (h : (ypar lt x a).1 = 1) (hx : 0 < x) : (ypar lt x a).2.2 < x := by
  unfold ypar at h ⊢
  rw [if_neg (by omega)] at h ⊢
  by_cases d : lt (zrd lt 2 a 0).1 = 60 ∧ (zrd lt 2 a 0).1 ≠ a ∧ (zrd lt 2 a 0).2 < x
  · rw [if_pos d]; exact d.2.2
  · rw [if_neg d] at h; exact absurd h (by show ¬ (0 = 1); decide)
theorem yshp_0 {lt : Nat → Nat} {a : Nat} : (yshp lt 0 a).2.2.1 = 0 := by
  unfold yshp
  rw [if_pos (Or.inl rfl)]
theorem ynode_keep {lt : Nat → Nat} {len a : Nat} {cd : List Nat} {nd : List yNd} (hl : zlok lt len) (ha : a ≤ len) (hc : cd.length ≤ a) (hk : yok nd cd) : (ynode lt len nd.length a cd).1 = 0 ∨ (ynode lt len nd.length a cd).1 = 1 ∧ nd.length < 12 ∧ (ynode lt len nd.length a cd).2.1 ≤ len ∧ (ynode lt len nd.length a cd).2.2.1.length ≤ (ynode lt len nd.length a cd).2.1 ∧ ((ynode lt len nd.length a cd).2.1 = len ∨ lt (ynode lt len nd.length a cd).2.1 = 59) ∧ yok (nd ++ [(ynode lt len nd.length a cd).2.2.2.1]) (ynode lt len nd.length a cd).2.2.1 := by
  unfold ynode
  generalize ex : nd.length = x
  by_cases c1 : 12 ≤ x
  · rw [if_pos c1]; exact Or.inl rfl
  rw [if_neg c1]
  obtain ⟨p1, p2, p3⟩ := ypar_le (x := x) hl ha
  by_cases c2 : (ypar lt x a).1 = 0
  · rw [if_pos c2]; exact Or.inl rfl
  rw [if_neg c2]
  have p4 := ypar_lt (lt := lt) (x := x) (a := a) (by omega)
  generalize ypar lt x a = pa at p1 p2 p3 p4 c2 ⊢
  have hc2 : cd.length ≤ pa.2.1 := by omega
  obtain ⟨q1, q2⟩ := yprog_keep (cd := cd) hl p1 hc2
  by_cases c3 : (yprog lt pa.2.1 cd).1 = 0
  · rw [if_pos c3]; exact Or.inl rfl
  rw [if_neg c3]
  rcases q2 with q2 | ⟨q2, q3, q4, q5, q6, q7, q8, q9, q10⟩
  · exact absurd q2 c3
  generalize yprog lt pa.2.1 cd = pr at q1 q2 q3 q4 q5 q6 q7 q8 q9 q10 c3 ⊢
  obtain ⟨s1, s2, s3, s4, s5⟩ := yshp_le (x := x) hl q1
  have s6 : x = 0 → (yshp lt x pr.2.1).2.2.1 = 0 := fun e => by rw [e]; exact yshp_0
  by_cases c4 : (yshp lt x pr.2.1).1 = 0
  · rw [if_pos c4]; exact Or.inl rfl
  rw [if_neg c4]
  generalize yshp lt x pr.2.1 = sh at s1 s2 s3 s4 s5 s6 c4 ⊢
  by_cases c5 : yendok lt len sh.2.1
  · rw [if_neg (fun q => q c5)]
    obtain ⟨e1, e2⟩ := yend_le hl s1
    refine Or.inr ⟨rfl, by omega, e1, by show pr.2.2.2.length ≤ yend lt sh.2.1; omega, c5, yok_snoc hk q4 ?_⟩
    rw [ex]
    refine ⟨p4, ytie_le _, by show sh.2.2.1 ≤ 9999; omega, by show sh.2.2.2 ≤ 9999; omega, s6, ?_⟩
    refine ⟨q7, Nat.le_refl _, q8, q9, fun hlt => ?_⟩
    show zrun ((pr.2.2.2.take pr.2.2.2.length).drop pr.2.2.1) 0 1
    rw [List.take_length]
    rcases q10 with q10 | q10
    · have hlt : pr.2.2.1 < pr.2.2.2.length := hlt
      omega
    · exact q10
  · rw [if_pos c5]; exact Or.inl rfl
theorem ytree_succ {lt : Nat → Nat} {len f x a : Nat} {cd : List Nat} {nd : List yNd} : ytree lt len (f + 1) x a cd nd = if (ynode lt len x a cd).1 = 0 then (0, cd, nd, (ynode lt len x a cd).2.2.2.2) else if (ynode lt len x a cd).2.1 = len then (1, (ynode lt len x a cd).2.2.1, nd ++ [(ynode lt len x a cd).2.2.2.1], (0, 0, 0)) else ytree lt len f (x + 1) ((ynode lt len x a cd).2.1 + 1) (ynode lt len x a cd).2.2.1 (nd ++ [(ynode lt len x a cd).2.2.2.1]) := rfl
theorem ytree_keep {lt : Nat → Nat} {len : Nat} (hl : zlok lt len) : ∀ (f a : Nat) (cd : List Nat) (nd : List yNd), nd.length + f = 13 → a ≤ len → cd.length ≤ a → yok nd cd → (ytree lt len f nd.length a cd nd).1 = 0 ∨ (ytree lt len f nd.length a cd nd).1 = 1 ∧ (ytree lt len f nd.length a cd nd).2.1.length ≤ 120 ∧ (1 ≤ (ytree lt len f nd.length a cd nd).2.2.1.length ∧ (ytree lt len f nd.length a cd nd).2.2.1.length ≤ 12) ∧ yok (ytree lt len f nd.length a cd nd).2.2.1 (ytree lt len f nd.length a cd nd).2.1
  | 0, a, cd, nd, _, _, _, _ => Or.inl rfl
  | f + 1, a, cd, nd, hf, ha, hc, hk => by
    have hlen := hl.1
    rw [ytree_succ]
    rcases ynode_keep hl ha hc hk with k | ⟨k1, k2, k3, k4, k5, k6⟩
    · rw [if_pos k]; exact Or.inl rfl
    · rw [if_neg (by omega)]
      by_cases c : (ynode lt len nd.length a cd).2.1 = len
      · rw [if_pos c]
        refine Or.inr ⟨rfl, ?_, ⟨?_, ?_⟩, k6⟩
        · show (ynode lt len nd.length a cd).2.2.1.length ≤ 120
          omega
        · show 1 ≤ (nd ++ [(ynode lt len nd.length a cd).2.2.2.1]).length
          rw [List.length_append]; simp
        · show (nd ++ [(ynode lt len nd.length a cd).2.2.2.1]).length ≤ 12
          rw [List.length_append, List.length_singleton]; omega
      · rw [if_neg c]
        rcases k5 with k5 | k5
        · exact absurd k5 c
        have al := zlok_lt hl (i := (ynode lt len nd.length a cd).2.1) (by omega)
        have ih := ytree_keep hl f ((ynode lt len nd.length a cd).2.1 + 1) (ynode lt len nd.length a cd).2.2.1 (nd ++ [(ynode lt len nd.length a cd).2.2.2.1]) (by rw [List.length_append, List.length_singleton]; omega) al (by omega) k6
        rw [List.length_append, List.length_singleton] at ih
        exact ih
/-- how many children -/
def ypr (nd : List yNd) (y : Nat) : Nat := (nd.getD y (0, 0, 0, 0, 0, 0, 0)).1
def ycc (nd : List yNd) (i : Nat) : Nat := zsum (fun y => if 0 < y ∧ ypr nd y = i then 1 else 0) nd.length
theorem ypr_lo {nd : List yNd} {n : yNd} {y : Nat} (h : y < nd.length) : ypr (nd ++ [n]) y = ypr nd y := by
  unfold ypr
  rw [List.getD_eq_getElem?_getD, List.getD_eq_getElem?_getD, List.getElem?_append_left h]
theorem ypr_hi {nd : List yNd} {n : yNd} : ypr (nd ++ [n]) nd.length = n.1 := by
  unfold ypr
  rw [List.getD_eq_getElem?_getD, List.getElem?_append_right (Nat.le_refl _)]
  simp
theorem ycc_snoc {nd : List yNd} {n : yNd} {i : Nat} : ycc (nd ++ [n]) i = ycc nd i + (if 0 < nd.length ∧ n.1 = i then 1 else 0) := by
  unfold ycc
  rw [List.length_append, List.length_singleton]
  show zsum _ nd.length + (if 0 < nd.length ∧ ypr (nd ++ [n]) nd.length = i then 1 else 0) = _
  rw [ypr_hi, zsum_congr (g := fun y => if 0 < y ∧ ypr nd y = i then 1 else 0) (fun y hy => by rw [ypr_lo hy])]
theorem ypr_lt {nd : List yNd} {cd : List Nat} {y : Nat} (h : yok nd cd) (h0 : 0 < y) (hy : y < nd.length) : ypr nd y < y := by
  unfold ypr
  rw [List.getD_eq_getElem?_getD, List.getElem?_eq_getElem hy]
  exact (h y _ (List.getElem?_eq_getElem hy)).1 h0
theorem ycc_hi {nd : List yNd} {cd : List Nat} {i : Nat} (h : yok nd cd) (hi : nd.length ≤ i) : ycc nd i = 0 := zsum_zero (fun y hy => by
  by_cases c : 0 < y
  · have := ypr_lt h c hy
    rw [if_neg (by omega)]
  · rw [if_neg (fun q => c q.1)])
/-- how the class counts them -/
theorem ycc_step {nd : List yNd} {cd : List Nat} {n : yNd} {i : Nat} (h : yok nd cd) (hn : 0 < nd.length → n.1 < nd.length) (hi : i < nd.length + 1) : (if i = nd.length then 0 else if i = (if nd.length = 0 then 12 else n.1) then ycc nd i + 1 else ycc nd i) = ycc (nd ++ [n]) i := by
  rw [ycc_snoc]
  by_cases c : i = nd.length
  · rw [if_pos c, ycc_hi h (by omega), if_neg (by omega)]
  · rw [if_neg c]
    have c0 : ¬ nd.length = 0 := by omega
    rw [if_neg c0]
    by_cases d : i = n.1
    · rw [if_pos d, if_pos ⟨by omega, d.symm⟩]
    · rw [if_neg d, if_neg (fun q => d q.2.symm)]; rfl
