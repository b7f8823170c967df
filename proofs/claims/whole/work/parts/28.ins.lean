/-! against a literal -/
theorem zk_lt {c : Int32} {a k : Nat} (e : c = nI a) (h : k < a) (ha : a < 2 ^ 31) : nI k < c := by
  rw [e]; exact nI_lt h ha
theorem zk_nlt {c : Int32} {a k : Nat} (e : c = nI a) (h : a ≤ k) (ha : k < 2 ^ 31) : ¬ nI k < c := by
  rw [e]; exact nI_nlt h ha
theorem zk_le {c : Int32} {a k : Nat} (e : c = nI a) (h : k ≤ a) (ha : a < 2 ^ 31) : nI k ≤ c := by
  rw [e]; exact nI_le h ha
theorem zk_le2 {c : Int32} {a k : Nat} (e : c = nI a) (h : a ≤ k) (ha : k < 2 ^ 31) : c ≤ nI k := by
  rw [e]; exact nI_le h ha
theorem zk_ne {c : Int32} {a k : Nat} (e : c = nI a) (h : k ≠ a) (ha : a < 2 ^ 31) (hk : k < 2 ^ 31) : ¬ nI k = c := by
  rw [e]; exact fun q => h ((nI_eq hk ha).mp q)
/-! the class's insert -/
theorem zg_bf {o i r : Nat} {e b : zE} {M : gM} {K : Int32 → gM → Prop} (hi : i < 64) (hz : zar M o i b) (he : e.2.2.1 < 2 ^ 31) (hb : b.2.2.1 < 2 ^ 31) (hK : K (if zbf r e b then 1 else 0) M) : wp_X3_goesBefore o e.2.1 (nI e.2.2.1) (if r = 1 then 1 else 0) (nI i) M K := by
  obtain ⟨z1, z2, z3⟩ := hz
  have hv : vp_in (nI i) 64 := vp_in_nI hi (by omega)
  unfold wp_X3_goesBefore
  refine ⟨hv, ?_⟩
  rw [nI_clamp (by omega), z2, z3]
  unfold zbf at hK
  by_cases c1 : e.2.1 = b.2.1
  · rw [if_pos c1] at hK ⊢
    by_cases c2 : r = 1
    · rw [if_pos c2, if_neg (by decide)]
      simpa [c2] using hK
    · rw [if_neg c2, if_pos rfl]
      refine ⟨hv, ?_⟩
      by_cases c3 : e.2.2.1 < b.2.2.1
      · rw [if_neg (nI_ge c3 hb)]
        simpa [c2, c3] using hK
      · rw [if_pos (nI_le (by omega) he)]
        simpa [c2, c3] using hK
  · rw [if_neg c1] at hK ⊢
    refine ⟨hv, ?_⟩
    by_cases c3 : e.2.1 < b.2.1
    · rw [if_neg (fun q => zl_le.mp q c3)]
      simpa [c3] using hK
    · rw [if_pos (zl_le.mpr c3)]
      simpa [c3] using hK
theorem zi_get {l : List zE} {e : zE} {p i : Nat} (hp : p ≤ l.length) : (l.take p ++ e :: l.drop p)[i]? = if i < p then l[i]? else if i = p then some e else l[i - 1]? := by
  by_cases h : i < p
  · rw [if_pos h, List.getElem?_append_left (by rw [List.length_take]; omega), List.getElem?_take, if_pos h]
  · rw [if_neg h, List.getElem?_append_right (by rw [List.length_take]; omega), List.length_take, Nat.min_eq_left hp]
    by_cases h2 : i = p
    · subst h2
      simp
    · rw [if_neg h2]
      have : i - p = (i - p - 1) + 1 := by omega
      rw [this, List.getElem?_cons_succ, List.getElem?_drop]
      congr 1
      omega
theorem zi_end {K : gM → Prop} {o : Nat} {e : zE} {l : List zE} {p : Nat} {M0 M : gM} (hl : l.length < 64) (hp : p ≤ l.length) (hK : ∀ M', zSQ o M0 M' → M'.1 3 o 4 = nI (l.length + 1) → (∀ i b, (l.take p ++ e :: l.drop p)[i]? = some b → zar M' o i b) → K M') (hs : zSQ o M0 M) (h3 : M.1 3 o 4 = nI l.length) (h1 : ∀ i b, l[i]? = some b → i < p → zar M o i b) (h2 : ∀ i b, l[i]? = some b → p ≤ i → zar M o (i + 1) b) : wp_X3_insert_b98 K o (nI e.1) e.2.1 (nI e.2.2.1) (nI p) M := by
  have hv : vp_in (nI p) 64 := vp_in_nI (by omega) (by omega)
  unfold wp_X3_insert_b98
  refine ⟨hv, ?_⟩
  intro M1 e1
  refine ⟨hv, ?_⟩
  intro M2 e2
  refine ⟨hv, ?_⟩
  intro M3 e3 M4 e4
  rw [nI_clamp (by omega)] at e1 e2 e3
  have r3 : M3.1 3 o 4 = nI l.length := by
    rw [e3, zuI, if_neg (by omega), e2, zuL1, e1, zuI, if_neg (by omega)]; exact h3
  rw [r3, nI_1] at e4
  refine hK M4 ?_ ?_ (fun i b hb => ?_)
  · rw [e4, e3, e2, e1]
    exact zSQ_trans hs (zSQ_trans (zSQ_uI (Or.inl rfl)) (zSQ_trans zSQ_uL (zSQ_trans (zSQ_uI (Or.inr (Or.inl rfl))) (zSQ_uI (Or.inr (Or.inr ⟨rfl, rfl⟩))))))
  · rw [e4, zuI, if_pos ⟨rfl, rfl, rfl⟩]
  · rw [zi_get hp] at hb
    rw [e4, e3, e2, e1]
    unfold zar
    simp only [zuI, zuL, zuI2, zuL1]
    by_cases c1 : i < p
    · rw [if_pos c1] at hb
      have := h1 i b hb c1
      have hne : ¬ i = p := by omega
      unfold zar at this
      simpa [hne] using this
    · rw [if_neg c1] at hb
      by_cases c2 : i = p
      · subst c2
        simp at hb
        subst hb
        simp
      · rw [if_neg c2] at hb
        have := h2 (i - 1) b hb (by omega)
        rw [show i - 1 + 1 = i by omega] at this
        unfold zar at this
        simpa [c2] using this
theorem zi_loop {K : gM → Prop} {o r : Nat} {e : zE} {l : List zE} {p : Nat} {M0 : gM} (hl : l.length < 64) (hp : p ≤ l.length) (he : e.2.2.1 < 2 ^ 31) (hb : ∀ b ∈ l, b.2.2.1 < 2 ^ 31) (P1 : ∀ i b, i < p → l[i]? = some b → zbf r e b = false) (P2 : ∀ i b, p ≤ i → l[i]? = some b → zbf r e b = true) (hK : ∀ M', zSQ o M0 M' → M'.1 3 o 4 = nI (l.length + 1) → (∀ i b, (l.take p ++ e :: l.drop p)[i]? = some b → zar M' o i b) → K M') : ∀ (f pl : Nat) (M : gM), p ≤ pl → pl ≤ l.length → pl - p < f → zSQ o M0 M → M.1 3 o 4 = nI l.length → (∀ i b, l[i]? = some b → i < pl → zar M o i b) → (∀ i b, l[i]? = some b → pl ≤ i → zar M o (i + 1) b) → wp_X3_insert_L23 K f o (nI e.1) e.2.1 (nI e.2.2.1) (if r = 1 then 1 else 0) (nI pl) M
  | 0, pl, M, a, b, c, _, _, _, _ => by omega
  | f + 1, pl, M, a1, a2, a3, hs, h3, h1, h2 => by
    unfold wp_X3_insert_L23
    by_cases c0 : pl = 0
    · subst c0
      rw [if_pos (by decide : nI 0 ≤ 0)]
      have : p = 0 := by omega
      subst this
      exact zi_end hl hp hK hs h3 h1 h2
    · rw [if_neg (nI_nle (by omega) (by omega)), zn_s1 (by omega)]
      obtain ⟨b, hbb⟩ : ∃ b, l[pl - 1]? = some b := ⟨l[pl - 1]'(by omega), List.getElem?_eq_getElem (by omega)⟩
      have hz := h1 (pl - 1) b hbb (by omega)
      refine zg_bf (r := r) (by omega) hz he (hb b (List.mem_of_getElem? hbb)) ?_
      by_cases c1 : p = pl
      · subst c1
        rw [P1 (p - 1) b (by omega) hbb]
        rw [show (if (false = true) then (1 : Int32) else 0) = 0 from rfl, if_pos rfl]
        exact zi_end hl hp hK hs h3 h1 h2
      · rw [P2 (pl - 1) b (by omega) hbb]
        rw [show (if (true = true) then (1 : Int32) else 0) = 1 from rfl, if_neg (by decide)]
        have v1 : vp_in (nI (pl - 1)) 64 := vp_in_nI (by omega) (by omega)
        have v2 : vp_in (nI pl) 64 := vp_in_nI (by omega) (by omega)
        refine ⟨v1, v2, ?_⟩
        intro M1 e1
        refine ⟨v1, v2, ?_⟩
        intro M2 e2
        refine ⟨v1, v2, ?_⟩
        intro M3 e3 n92 e92
        rw [zn_m1 (by omega)] at e92
        subst e92
        rw [nI_clamp (by omega), nI_clamp (by omega)] at e1 e2 e3
        refine zi_loop hl hp he hb P1 P2 hK f (pl - 1) M3 (by omega) (by omega) (by omega) ?_ ?_ (fun i b' hb' hi => ?_) (fun i b' hb' hi => ?_)
        · rw [e3, e2, e1]
          exact zSQ_trans hs (zSQ_trans (zSQ_uI (Or.inl rfl)) (zSQ_trans zSQ_uL (zSQ_uI (Or.inr (Or.inl rfl)))))
        · rw [e3, zuI, if_neg (by omega), e2, zuL1, e1, zuI, if_neg (by omega)]; exact h3
        · have := h1 i b' hb' (by omega)
          rw [e3, e2, e1]
          unfold zar at this ⊢
          have hne : ¬ i = pl := by omega
          simpa [zuI, zuL, zuI2, zuL1, hne] using this
        · by_cases c2 : i = pl - 1
          · subst c2
            rw [hb'] at hbb
            cases hbb
            rw [e3, e2, e1]
            unfold zar at hz ⊢
            have hne : pl - 1 + 1 = pl := by omega
            have hne2 : ¬ pl - 1 = pl := by omega
            simpa [zuI, zuL, zuI2, zuL1, hne, hne2] using hz
          · have := h2 i b' hb' (by omega)
            rw [e3, e2, e1]
            unfold zar at this ⊢
            have hne : ¬ i + 1 = pl := by omega
            simpa [zuI, zuL, zuI2, zuL1, hne] using this
/-- where a new element goes -/
theorem zins_at (r : Nat) (e : zE) : ∀ l : List zE, ∃ p, p ≤ l.length ∧ zins r e l = l.take p ++ e :: l.drop p ∧ (∀ i b, i < p → l[i]? = some b → zbf r e b = false) ∧ (∀ b, l[p]? = some b → zbf r e b = true)
  | [] => ⟨0, Nat.le_refl 0, rfl, fun i b h => by omega, fun b h => by simp at h⟩
  | a :: l => by
    by_cases h : zbf r e a = true
    · refine ⟨0, Nat.zero_le _, ?_, fun i b h => by omega, fun b hb => ?_⟩
      · simp [zins, h]
      · simp at hb; subst hb; exact h
    · obtain ⟨p, hp, e1, e2, e3⟩ := zins_at r e l
      refine ⟨p + 1, by simp; exact hp, ?_, fun i b hi hb => ?_, fun b hb => ?_⟩
      · simp [zins, h, e1]
      · match i, hi, hb with
        | 0, _, hb => simp at hb; subst hb; simpa using h
        | i + 1, hi, hb => exact e2 i b (by omega) (by simpa using hb)
      · exact e3 b (by simpa using hb)
/-- behind an element that the new one goes before it goes before all -/
def zmono (r : Nat) (e : zE) (l : List zE) : Prop := ∀ (i j : Nat) (b c : zE), i ≤ j → l[i]? = some b → l[j]? = some c → zbf r e b = true → zbf r e c = true
theorem zc_insert {K : gM → Prop} {o r : Nat} {e : zE} {l : List zE} {M : gM} (hl : l.length < 64) (he : e.2.2.1 < 2 ^ 31) (hb : ∀ b ∈ l, b.2.2.1 < 2 ^ 31) (hm : zmono r e l) (h3 : M.1 3 o 4 = nI l.length) (h1 : ∀ i b, l[i]? = some b → zar M o i b) (hK : ∀ M', zSQ o M M' → M'.1 3 o 4 = nI (zins r e l).length → (∀ i b, (zins r e l)[i]? = some b → zar M' o i b) → K M') : wp_X3_insert o (nI e.1) e.2.1 (nI e.2.2.1) (if r = 1 then 1 else 0) M K := by
  obtain ⟨p, hp, e1, e2, e3⟩ := zins_at r e l
  unfold wp_X3_insert
  rw [h3, if_neg (nI_pos (by omega)), if_pos (zk_lt (c := 64) (a := 64) rfl hl (by omega))]
  intro n21 h21
  subst h21
  rw [e1] at hK
  have elen : (l.take p ++ e :: l.drop p).length = l.length + 1 := by
    simp; omega
  rw [elen] at hK
  refine ⟨l.length + 1, zi_loop hl hp he hb e2 (fun i b hi hbb => ?_) hK (l.length + 1) l.length M hp (Nat.le_refl _) (by omega) zSQ_refl h3 (fun i b hb _ => h1 i b hb) (fun i b hb hi => ?_)⟩
  · have hi2 := (List.getElem?_eq_some_iff.mp hbb).1
    obtain ⟨c, hc⟩ : ∃ c, l[p]? = some c := ⟨l[p]'(by omega), List.getElem?_eq_getElem (by omega)⟩
    exact hm p i c b hi hc hbb (e3 c hc)
  · have hi2 := (List.getElem?_eq_some_iff.mp hb).1
    omega
