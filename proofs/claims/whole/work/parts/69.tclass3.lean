/-- a node more; pr: its parent, 12 for none -/
def yPa (x k o i : Nat) : Prop := (k = 5 ∧ o = 5 ∧ i = 0) ∨ (k = 33 ∧ o = 5) ∨ ((k = 32 ∨ k = 35 ∨ k = 37) ∧ o = 5 ∧ i = x)
theorem zx_addN {lt : Nat → Nat} {len a x pr : Nat} {cc : Nat → Nat} {st cd : List Nat} {x1 : Int32} {M : gM} {K : gM → Prop} (h : zpc lt len a st cd M) (hx : x < 12) (hn : M.1 5 5 0 = nI x) (hp : (x1 = -1 ∧ pr = 12) ∨ (x1 = nI pr ∧ pr < x)) (hch : ∀ i, i < x → M.1 33 5 i = nI (cc i)) (hK : ∀ M', zpc lt len a st cd M' → M'.1 32 5 x = x1 → M'.1 35 5 x = 0 → M'.1 37 5 x = nI cd.length → M'.1 5 5 0 = nI (x + 1) → (∀ i, i < x + 1 → M'.1 33 5 i = nI (if i = x then 0 else if i = pr then cc i + 1 else cc i)) → zFy (yPa x) M M' → K M') : wp_X5_addNode 5 x1 M K := by
  unfold wp_X5_addNode
  intro n4 e4
  rw [hn] at e4
  subst e4
  rw [if_neg (nI_pos (by omega)), if_pos (zk_lt (c := 12) (a := 12) rfl hx (by omega))]
  have hin : vp_in (nI x) 12 := vp_in_nI hx (by omega)
  refine ⟨hin, ?_⟩
  intro M1 e1
  refine ⟨hin, ?_⟩
  intro M2 e2
  refine ⟨hin, ?_⟩
  intro M3 e3
  refine ⟨hin, ?_⟩
  intro M4 e4
  rw [nI_clamp (by omega)] at e1 e2 e3 e4
  have z3 : zpc lt len a st cd M3 := by
    rw [e3, e2, e1]
    exact zpc_u (zpc_u (zpc_u h (by omega)) (by omega)) (by omega)
  rw [z3.2.2.2.2.2.1] at e4
  have z4 : zpc lt len a st cd M4 := by rw [e4]; exact zpc_u z3 (by omega)
  have f4 : zFy (yPa x) M M4 := by
    rw [e4, e3, e2, e1]
    exact zFy_trans (zFy_trans (zFy_trans (zFy_u (Or.inr (Or.inr ⟨Or.inl rfl, rfl, rfl⟩))) (zFy_u (Or.inr (Or.inl ⟨rfl, rfl⟩)))) (zFy_u (Or.inr (Or.inr ⟨Or.inr (Or.inl rfl), rfl, rfl⟩)))) (zFy_u (Or.inr (Or.inr ⟨Or.inr (Or.inr rfl), rfl, rfl⟩)))
  have u32 : M4.1 32 5 x = x1 := by
    rw [e4, zuI, if_neg (by omega), e3, zuI, if_neg (by omega), e2, zuI, if_neg (by omega), e1, zuI, if_pos ⟨rfl, rfl, rfl⟩]
  have u35 : M4.1 35 5 x = 0 := by
    rw [e4, zuI, if_neg (by omega), e3, zuI, if_pos ⟨rfl, rfl, rfl⟩]
  have u37 : M4.1 37 5 x = nI cd.length := by
    rw [e4, zuI, if_pos ⟨rfl, rfl, rfl⟩]
  have u5 : M4.1 5 5 0 = nI x := by
    rw [e4, zuI, if_neg (by omega), e3, zuI, if_neg (by omega), e2, zuI, if_neg (by omega), e1, zuI, if_neg (by omega)]; exact hn
  have u33 : ∀ i, M4.1 33 5 i = if i = x then 0 else M.1 33 5 i := fun i => by
    rw [e4, zuI, if_neg (by omega), e3, zuI, if_neg (by omega), e2, zuI]
    by_cases c : i = x
    · rw [if_pos ⟨rfl, rfl, c⟩, if_pos c]
    · rw [if_neg (fun q => c q.2.2), if_neg c, e1, zuI, if_neg (by omega)]
  have fin : ∀ M5, zpc lt len a st cd M5 → M5.1 32 5 x = x1 → M5.1 35 5 x = 0 → M5.1 37 5 x = nI cd.length → M5.1 5 5 0 = nI x → (∀ i, i < x + 1 → M5.1 33 5 i = nI (if i = x then 0 else if i = pr then cc i + 1 else cc i)) → zFy (yPa x) M M5 → wp_X5_addNode_b65 K 5 M5 := fun M5 z5 w1 w2 w3 w4 w5 f5 => by
    unfold wp_X5_addNode_b65
    intro M6 e6
    rw [w4, nI_1] at e6
    refine hK M6 (by rw [e6]; exact zpc_u z5 (by omega)) ?_ ?_ ?_ ?_ (fun i hi => ?_) (zFy_trans f5 (by rw [e6]; exact zFy_u (Or.inl ⟨rfl, rfl, rfl⟩)))
    · rw [e6, zuI, if_neg (by omega)]; exact w1
    · rw [e6, zuI, if_neg (by omega)]; exact w2
    · rw [e6, zuI, if_neg (by omega)]; exact w3
    · rw [e6, zuI, if_pos ⟨rfl, rfl, rfl⟩]
    · rw [e6, zuI, if_neg (by omega)]; exact w5 i hi
  unfold wp_X5_hasNode
  rcases hp with ⟨p1, p2⟩ | ⟨p1, p2⟩
  · rw [if_pos (show x1 < 0 by rw [p1]; decide)]
    show (if (0 : Int32) = 0 then _ else _)
    rw [if_pos rfl]
    refine fin M4 z4 u32 u35 u37 u5 (fun i hi => ?_) f4
    rw [u33 i]
    by_cases c : i = x
    · rw [if_pos c, if_pos c]; rfl
    · rw [if_neg c, if_neg c, if_neg (by omega)]; exact hch i (by omega)
  · have ex1 := p1
    subst p1
    rw [if_neg (nI_pos (by omega)), u5, if_neg (nI_ge p2 (by omega)), if_neg (zk_nle (c := 12) (a := 12) rfl (by omega) (by omega))]
    show (if (1 : Int32) = 0 then _ else _)
    rw [if_neg (by decide)]
    refine ⟨vp_in_nI (by omega) (by omega), vp_in_nI (by omega) (by omega), ?_⟩
    intro M5 e5
    rw [nI_clamp (by omega), u33 pr, if_neg (by omega), hch pr p2, nI_1] at e5
    refine fin M5 (by rw [e5]; exact zpc_u z4 (by omega)) ?_ ?_ ?_ ?_ (fun i hi => ?_) (zFy_trans f4 (by rw [e5]; exact zFy_u (Or.inr (Or.inl ⟨rfl, rfl⟩))))
    · rw [e5, zuI, if_neg (by omega)]; exact u32
    · rw [e5, zuI, if_neg (by omega)]; exact u35
    · rw [e5, zuI, if_neg (by omega)]; exact u37
    · rw [e5, zuI, if_neg (by omega)]; exact u5
    · rw [e5, zuI]
      by_cases c : i = x
      · rw [if_neg (by omega), if_pos c, u33 i, if_pos c]; rfl
      · rw [if_neg c]
        by_cases c2 : i = pr
        · rw [if_pos ⟨rfl, rfl, c2⟩, if_pos c2, c2]
        · rw [if_neg (by omega), if_neg c2, u33 i, if_neg c]; exact hch i (by omega)
def yPb (x k o i : Nat) : Prop := yPe k o i ∨ yPa x k o i ∨ (k = 6 ∧ o = 0 ∧ (i = 4 ∨ i = 5 ∨ i = 6))
theorem zx_start {lt : Nat → Nat} {len a x : Nat} {cc : Nat → Nat} {st cd : List Nat} {M : gM} {K : Int32 → gM → Prop} (hl : zlok lt len) (hx : x ≤ 12) (h : zpc lt len a st cd M) (ha : a ≤ len) (hn : M.1 5 5 0 = nI x) (hch : ∀ i, i < x → M.1 33 5 i = nI (cc i)) (h0 : x = 12 ∨ (ypar lt x a).1 = 0 → ∀ M', M'.1 6 0 4 = nI a → M'.1 6 0 5 = nI a → M'.1 6 0 6 = -1 → zFy (yPb x) M M' → K 0 M') (h1 : x < 12 → (ypar lt x a).1 = 1 → ∀ M', zpc lt len (ypar lt x a).2.1 st cd M' → M'.1 6 0 4 = nI a → M'.1 6 0 6 = -1 → M'.1 32 5 x = (if x = 0 then -1 else nI (ypar lt x a).2.2) → M'.1 35 5 x = 0 → M'.1 37 5 x = nI cd.length → M'.1 5 5 0 = nI (x + 1) → (∀ i, i < x + 1 → M'.1 33 5 i = nI (if i = x then 0 else if i = (if x = 0 then 12 else (ypar lt x a).2.2) then cc i + 1 else cc i)) → zFy (yPb x) M M' → K 1 M') : wp_X6_readStart 0 (nI x) M K := by
  have hlen := hl.1
  unfold wp_X6_readStart
  intro M1 e1 M2 e2 M3 e3
  rw [h.2.1] at e1
  have z1 : zpc lt len a st cd M1 := by rw [e1]; exact zpc_u h (by omega)
  rw [z1.2.1] at e2
  have z3 : zpc lt len a st cd M3 := by rw [e3, e2]; exact zpc_u (zpc_u z1 (by omega)) (by omega)
  have v4 : M3.1 6 0 4 = nI a := by rw [e3, zuI, if_neg (by omega), e2, zuI, if_neg (by omega), e1, zuI, if_pos ⟨rfl, rfl, rfl⟩]
  have v5 : M3.1 6 0 5 = nI a := by rw [e3, zuI, if_neg (by omega), e2, zuI, if_pos ⟨rfl, rfl, rfl⟩]
  have v6 : M3.1 6 0 6 = -1 := by rw [e3, zuI, if_pos ⟨rfl, rfl, rfl⟩]
  have f3 : zFy (yPb x) M M3 := by
    rw [e3, e2, e1]
    exact zFy_trans (zFy_trans (zFy_u (Or.inr (Or.inr ⟨rfl, rfl, Or.inl rfl⟩))) (zFy_u (Or.inr (Or.inr ⟨rfl, rfl, Or.inr (Or.inl rfl)⟩)))) (zFy_u (Or.inr (Or.inr ⟨rfl, rfl, Or.inr (Or.inr rfl)⟩)))
  have u5 : M3.1 5 5 0 = nI x := by rw [e3, zuI, if_neg (by omega), e2, zuI, if_neg (by omega), e1, zuI, if_neg (by omega)]; exact hn
  have u33 : ∀ i, i < x → M3.1 33 5 i = nI (cc i) := fun i hi => by rw [e3, zuI, if_neg (by omega), e2, zuI, if_neg (by omega), e1, zuI, if_neg (by omega)]; exact hch i hi
  have hpe : ∀ k o i, yPe k o i → yPb x k o i := fun _ _ _ z => Or.inl z
  have hpa : ∀ k o i, yPa x k o i → yPb x k o i := fun _ _ _ z => Or.inr (Or.inl z)
  have na4 : ¬ yPa x 6 0 4 := by unfold yPa; omega
  have na6 : ¬ yPa x 6 0 6 := by unfold yPa; omega
  have ne4 : ¬ yPe 6 0 4 := by unfold yPe; omega
  have ne5 : ¬ yPe 6 0 5 := by unfold yPe; omega
  have ne6 : ¬ yPe 6 0 6 := by unfold yPe; omega
  by_cases c12 : x = 12
  · rw [if_neg (zk_nlt (c := 12) (a := 12) rfl (by omega) (by omega))]
    exact h0 (Or.inl c12) M3 v4 v5 v6 f3
  · rw [if_pos (zk_lt (c := 12) (a := 12) rfl (by omega) (by omega))]
    have h1 := h1 (by omega)
    by_cases cx : x = 0
    · subst cx
      rw [if_pos (by decide)]
      refine zx_addN (x := 0) (pr := 12) (cc := cc) z3 (by omega) u5 (Or.inl ⟨rfl, rfl⟩) u33 (fun M' z w1 w2 w3 w4 w5 f => ?_)
      exact h1 rfl M' z (by rw [f.2 6 0 4 na4]; exact v4) (by rw [f.2 6 0 6 na6]; exact v6) w1 w2 w3 w4 w5 (zFy_trans f3 (zFy_w f hpa))
    · rw [if_neg (nI_ne0 (by omega) (by omega))]
      unfold ypar at h0 h1
      rw [if_neg cx] at h0 h1
      have r1 := zrd_le (f := 2) (v := 0) hl ha
      have r2 := zrd_val lt 2 a 0
      have hb := zlt_b (i := (zrd lt 2 a 0).1) hl
      refine zx_num (m := 2) hl (by omega) ha z3 (fun M4 z4 f4 => ?_)
      have w4 : M4.1 6 0 4 = nI a := by rw [f4.2 6 0 4 ne4]; exact v4
      have w6 : M4.1 6 0 6 = -1 := by rw [f4.2 6 0 6 ne6]; exact v6
      have f4' : zFy (yPb x) M M4 := zFy_trans f3 (zFe_y f4 hpe)
      have bad : ¬ (lt (zrd lt 2 a 0).1 = 60 ∧ (zrd lt 2 a 0).1 ≠ a ∧ (zrd lt 2 a 0).2 < x) → K 0 M4 := fun q => by
        rw [if_neg q] at h0
        exact h0 (Or.inr rfl) M4 w4 (by rw [f4.2 6 0 5 ne5]; exact v5) w6 f4'
      by_cases c1 : 48 ≤ lt (zrd lt 2 a 0).1 ∧ lt (zrd lt 2 a 0).1 ≤ 57
      · rw [if_pos c1, if_pos (by decide)]
        exact bad (by omega)
      rw [if_neg c1]
      by_cases c2 : (zrd lt 2 a 0).1 = a
      · rw [if_pos c2, if_pos (by decide)]
        exact bad (fun q => q.2.1 c2)
      rw [if_neg c2, if_neg (nI_pos (by omega))]
      by_cases c3 : (zrd lt 2 a 0).2 < x
      · rw [if_neg (nI_ge c3 (by omega))]
        refine zx_sign z4 hl r1 ?_
        by_cases c4 : lt (zrd lt 2 a 0).1 = 60
        · rw [if_pos ⟨c4, c2, c3⟩] at h1
          rw [if_pos (show nI (lt (zrd lt 2 a 0).1) = 60 by rw [c4]; decide)]
          intro M5 e5
          rw [z4.2.1, nI_1] at e5
          have z5 : zpc lt len ((zrd lt 2 a 0).1 + 1) st cd M5 := by rw [e5]; exact zpc_at z4
          have f5 : zFy (yPb x) M M5 := zFy_trans f4' (by rw [e5]; exact zFy_u (Or.inl (Or.inl ⟨rfl, rfl, Or.inl rfl⟩)))
          refine zx_addN (x := x) (pr := (zrd lt 2 a 0).2) (cc := cc) z5 (by omega) (by rw [e5, zuI, if_neg (by omega), f4.2 5 5 0 (by omega)]; exact u5) (Or.inr ⟨rfl, c3⟩) (fun i hi => by rw [e5, zuI, if_neg (by omega), f4.2 33 5 i (by omega)]; exact u33 i hi) (fun M' z q1 q2 q3 q4 q5 f => ?_)
          refine h1 rfl M' z ?_ ?_ ?_ q2 q3 q4 ?_ (zFy_trans f5 (zFy_w f hpa))
          · rw [f.2 6 0 4 na4, e5, zuI, if_neg (by omega)]; exact w4
          · rw [f.2 6 0 6 na6, e5, zuI, if_neg (by omega)]; exact w6
          · rw [if_neg cx]; exact q1
          · rw [if_neg cx]; exact q5
        · rw [if_neg (zk_ne (c := 60) (a := 60) rfl c4 (by omega) (by omega))]
          exact bad (fun q => c4 q.1)
      · rw [if_pos (nI_le (by omega) (by omega))]
        exact bad (fun q => c3 q.2.2)
