/-! times stay small -/
theorem zl_add {a b : Int64} (h1 : -(2 ^ 62 : Int) ≤ a.toInt + b.toInt) (h2 : a.toInt + b.toInt < 2 ^ 62) : (a + b).toInt = a.toInt + b.toInt := by
  rw [Int64.toInt_add]; exact Int.bmod_eq_of_le (by omega) (by omega)
theorem zl_sub {a b : Int64} (h1 : -(2 ^ 62 : Int) ≤ a.toInt - b.toInt) (h2 : a.toInt - b.toInt < 2 ^ 62) : (a - b).toInt = a.toInt - b.toInt := by
  rw [Int64.toInt_sub]; exact Int.bmod_eq_of_le (by omega) (by omega)
theorem zup_b {len rate : Nat} (hl : len ≤ 1500) (h1 : 1 ≤ rate) (h2 : rate ≤ 9999) : 0 ≤ (zup len rate).toInt ∧ (zup len rate).toInt ≤ 1510000 := by
  unfold zup
  have e : lN len * 1000 + lN rate - 1 = lN (len * 1000 + rate - 1) := by
    have e1 : lN len * 1000 = lN (len * 1000) := lN_mul len 1000
    rw [e1, lN_add]
    exact lN_sub (b := 1) (by omega)
  rw [e, lg_ldiv_nonneg (by rw [lN_toInt (by omega)]; omega) (by rw [lN_toInt (by omega)]; omega), lN_toInt (by omega), lN_toInt (by omega)]
  have h3 : ((len * 1000 + rate - 1 : Nat) : Int) / (rate : Int) = (((len * 1000 + rate - 1) / rate : Nat) : Int) := by simp
  rw [h3]
  have h4 : (len * 1000 + rate - 1) / rate ≤ len * 1000 + rate - 1 := Nat.div_le_self _ _
  generalize (len * 1000 + rate - 1) / rate = q at h4 ⊢
  omega
theorem zbu_b {bu rate : Nat} (hb : bu ≤ 9999) (h1 : 1 ≤ rate) (h2 : rate ≤ 9999) : 0 ≤ (lN bu * 1000 / lN rate).toInt ∧ (lN bu * 1000 / lN rate).toInt ≤ 10000000 := by
  have e1 : lN bu * 1000 = lN (bu * 1000) := lN_mul bu 1000
  rw [e1, lg_ldiv_nonneg (by rw [lN_toInt (by omega)]; omega) (by rw [lN_toInt (by omega)]; omega), lN_toInt (by omega), lN_toInt (by omega)]
  have h3 : ((bu * 1000 : Nat) : Int) / (rate : Int) = (((bu * 1000) / rate : Nat) : Int) := by simp
  rw [h3]
  have h4 : (bu * 1000) / rate ≤ bu * 1000 := Nat.div_le_self _ _
  generalize (bu * 1000) / rate = q at h4 ⊢
  omega
def zBt (S : zW) (b : Int) : Prop := (0 ≤ (zL S 0 0).toInt ∧ (zL S 0 0).toInt ≤ b) ∧ (∀ x, x < zN S 0 0 → 0 ≤ (zL S 3 x).toInt ∧ (zL S 3 x).toInt ≤ b) ∧ ∀ h ∈ zD S, 0 ≤ h.1.toInt ∧ h.1.toInt ≤ b
theorem zBt_mono {S : zW} {b b' : Int} (h : zBt S b) (hb : b ≤ b') : zBt S b' := ⟨⟨h.1.1, by have := h.1.2; omega⟩, fun x hx => ⟨(h.2.1 x hx).1, by have := (h.2.1 x hx).2; omega⟩, fun e he => ⟨(h.2.2 e he).1, by have := (h.2.2 e he).2; omega⟩⟩
theorem zmx_b {a b : Int64} {c : Int} (h1 : a.toInt ≤ c) (h2 : b.toInt ≤ c) (h3 : 0 ≤ b.toInt) : 0 ≤ (zmx a b).toInt ∧ (zmx a b).toInt ≤ c := by
  unfold zmx
  by_cases q : b < a
  · rw [if_pos q]
    rw [zl_lt] at q
    omega
  · rw [if_neg q]; omega
theorem zen_L {S : zW} {x item p : Nat} {t : Int64} {i j : Nat} (h : i ≠ 5) : zL (zenter S x item p t) i j = zL S i j := by
  unfold zenter zst
  split
  · rw [zL_sN, zL_sQ, zL_sL, if_neg (by omega)]
  · rfl
theorem zen_Bt {S : zW} {x item p : Nat} {t : Int64} {b : Int} (h : zBt S b) : zBt (zenter S x item p t) b := by
  refine ⟨by rw [zen_L (by omega)]; exact h.1, fun y hy => ?_, fun e he => ?_⟩
  · rw [zen_N (by omega)] at hy
    rw [zen_L (by omega)]; exact h.2.1 y hy
  · rw [zen_D] at he; exact h.2.2 e he
theorem zsh_Bt {S : zW} {x p : Nat} {t : Int64} {b : Int} (h : zBt S b) (hb : b < 2 ^ 60) (ht : 0 ≤ t.toInt ∧ t.toInt ≤ b) (hx : x < zN S 0 0) (hl : zN S 16 p ≤ 1500) (hr : zN S 9 x ≤ 9999) (hu : zN S 10 x ≤ 9999) : zBt (zshape S x p t) (b + 1510000) ∧ 0 ≤ (zrel S x t).toInt ∧ (zrel S x t).toInt ≤ b := by
  unfold zshape zrel
  by_cases c : zN S 9 x = 0
  · rw [if_pos c, if_pos c]
    exact ⟨zBt_mono h (by omega), ht⟩
  · rw [if_neg c, if_neg c]
    have u1 := zup_b hl (by omega) hr
    have m1 := h.2.1 x hx
    have m2 := zmx_b (a := zL S 3 x) (b := t) (c := b) m1.2 ht.2 ht.1
    refine ⟨⟨?_, fun y hy => ?_, fun e he => ?_⟩, ?_⟩
    · rw [zL_sL, if_neg (by omega)]
      have := h.1
      omega
    · rw [zL_sL]
      by_cases cy : 3 = 3 ∧ y = x
      · rw [if_pos cy, zl_add (by omega) (by omega)]
        omega
      · rw [if_neg cy]
        have := h.2.1 y hy
        omega
    · have := h.2.2 e he
      omega
    · have u2 := zbu_b hu (by omega) hr
      refine zmx_b ?_ ht.2 ht.1
      rw [zl_sub (by omega) (by omega)]
      omega
theorem zclimb_Bt : ∀ (F : Nat) (S : zW) (o wd x item p : Nat) (t : Int64) (b : Int), zInv S o wd → zmay S o wd x item p → x < F → zBt S b → b + 2000000 * F < 2 ^ 60 → (0 ≤ t.toInt ∧ t.toInt ≤ b) → zBt (zclimb F S x item p t) (b + 2000000 * F) ∧ zN (zclimb F S x item p t) 20 0 ≤ zN S 20 0 + F ∧ (∀ h ∈ zD (zclimb F S x item p t), h ∈ zD S ∨ t < h.1)
  | 0, _, _, _, _, _, _, _, _, _, _, h, _, _, _ => by omega
  | F + 1, S, o, wd, x, item, p, t, b, h, hm, hf, hB, hb, ht => by
    have hT := zenter_inv (t := t) h hm
    have hBT := zen_Bt (x := x) (item := item) (p := p) (t := t) hB
    rw [zclimb_succ]
    unfold zrest
    by_cases c : x = 0
    · subst c
      rw [if_pos rfl]
      refine ⟨zBt_mono hBT (by omega), by rw [zen_N20]; omega, fun e he => ?_⟩
      rw [zen_D] at he; exact Or.inl he
    · rw [if_neg c]
      have hx' : x < zN (zenter S x item p t) 0 0 := by rw [zen_N (by omega)]; exact hm.1
      have hp' : p < zN (zenter S x item p t) 1 0 := by rw [zen_N (by omega)]; exact hm.2.1
      have hpl := h.1.2.2.2.2 x hm.1
      have hpk := h.2.2.1.2 p hm.2.1
      obtain ⟨s1, s2⟩ := zsh_Bt (x := x) (p := p) (t := t) hBT (by omega) ht hx' (by rw [zen_N (by omega)]; exact hpk.2.2.1) (by rw [zen_N (by omega)]; exact hpl.2.2.1) (by rw [zen_N (by omega)]; exact hpl.2.2.2)
      by_cases c2 : t < zrel (zenter S x item p t) x t
      · rw [if_pos c2]
        refine ⟨⟨?_, fun y hy => ?_, fun e he => ?_⟩, ?_, fun e he => ?_⟩
        · have := s1.1
          rw [zL_sD]; omega
        · have := s1.2.1 y hy
          rw [zL_sD]; omega
        · rcases List.mem_append.mp he with he | he
          · rw [zen_D] at he
            have := hB.2.2 e he
            omega
          · rw [List.mem_singleton] at he
            subst he
            show 0 ≤ (zrel (zenter S x item p t) x t).toInt ∧ (zrel (zenter S x item p t) x t).toInt ≤ _
            omega
        · rw [zN_sD, zsh_N.1, zen_N20]; omega
        · rcases List.mem_append.mp he with he | he
          · rw [zen_D] at he; exact Or.inl he
          · rw [List.mem_singleton] at he
            subst he
            exact Or.inr c2
      · rw [if_neg c2]
        have hU := zsh_inv (p := p) (x := x) (t := t) hT
        have hm' := zmay_up (p := p) hU (by omega) (by rw [zsh_N.1]; exact hx') (by rw [zsh_N.1]; exact hp')
        rw [zsh_N.1] at hm'
        have hpar := h.1.2.1 x (by omega) hm.1
        rw [zen_N (by omega)] at hm' ⊢
        obtain ⟨i1, i2, i3⟩ := zclimb_Bt F _ x 0 (zN S 18 x) x p t (b + 1510000) hU hm' (by omega) s1 (by omega) (by omega)
        refine ⟨zBt_mono i1 (by omega), ?_, fun e he => ?_⟩
        · rw [zsh_N.1, zen_N20] at i2; omega
        · have := i3 e he
          rw [zsh_N.2.2.2, zen_D] at this; exact this
theorem zturn_Bt {S : zW} {b : Int} (h : zInv S 0 0) (hd : (zD S).length ≠ 0) (hB : zBt S b) (hb : b + 24000000 < 2 ^ 60) : zBt (zturn S) (b + 24000000) ∧ zN (zturn S) 20 0 ≤ zN S 20 0 + 12 := by
  obtain ⟨hr, hm, h12, h0, _, hx⟩ := zturn_may h hd
  have hpar := h.1.2.1 _ h0 hx
  have ht := hB.2.2 _ (List.mem_of_getElem? (zget_some (znx_lt hd)))
  have hB' : zBt (zsD S ((zD S).eraseIdx (znx (zD S)))) b := ⟨hB.1, hB.2.1, fun e he => hB.2.2 e (List.mem_of_mem_eraseIdx he)⟩
  obtain ⟨i1, i2, i3⟩ := zclimb_Bt 12 _ _ _ _ _ _ (zget (zD S) (znx (zD S))).1 b hr hm (by omega) hB' (by omega) ht
  unfold zturn
  exact ⟨zBt_mono i1 (by omega), i2⟩
theorem zpass_Bt : ∀ (f : Nat) (S : zW) (u : Int64) (c : Nat) (b : Int), zInv S 0 0 → zpot (zD S) < f → zBt S b → b + 24000000 * zpot (zD S) < 2 ^ 60 → 0 ≤ u.toInt → u.toInt ≤ b → zBt (zpass f S u c).1 (b + 24000000 * zpot (zD S)) ∧ zN (zpass f S u c).1 20 0 ≤ zN S 20 0 + 12 * zpot (zD S)
  | 0, _, _, _, _, _, h, _, _, _, _ => by omega
  | f + 1, S, u, c, b, h, hf, hB, hb, hu0, hu => by
    have fin : zBt (zsL S 0 0 u) (b + 24000000 * zpot (zD S)) := by
      refine ⟨?_, fun y hy => ?_, fun e he => ?_⟩
      · rw [zL_sL, if_pos ⟨rfl, rfl⟩]; omega
      · have := hB.2.1 y hy
        rw [zL_sL, if_neg (by omega)]; omega
      · have := hB.2.2 e he
        omega
    rw [zpass_succ]
    by_cases c1 : (zD S).length = 0
    · rw [if_pos c1]
      exact ⟨fin, by show zN S 20 0 ≤ _; omega⟩
    · rw [if_neg c1]
      by_cases c2 : u < (zget (zD S) (znx (zD S))).1
      · rw [if_pos c2]
        exact ⟨fin, by show zN S 20 0 ≤ _; omega⟩
      · rw [if_neg c2]
        obtain ⟨t1, t2, t3, t4, t5⟩ := zturn_inv h c1
        obtain ⟨q1, q2⟩ := zturn_Bt h c1 hB (by omega)
        obtain ⟨p1, p2⟩ := zpass_Bt f (zturn S) u (c + 1) (b + 24000000) t1 (by omega) q1 (by omega) hu0 (by omega)
        exact ⟨zBt_mono p1 (by omega), by omega⟩
/-- numbers of a world after c changes -/
def zBd (S : zW) (c : Nat) : Prop := zBt S (c * 2 ^ 35) ∧ zN S 20 0 ≤ 10000 * c ∧ (∀ f, f < 16 → zN S 5 f ≤ c ∧ zN S 6 f ≤ 1500 * c ∧ zN S 7 f ≤ c) ∧ ∀ h ∈ zD S, zL S 0 0 < h.1
theorem zBd_mono {S : zW} {c c' : Nat} (h : zBd S c) (hc : c ≤ c') : zBd S c' := ⟨zBt_mono h.1 (by omega), by have := h.2.1; omega, fun f hf => by have := h.2.2.1 f hf; omega, h.2.2.2⟩
theorem zpass_Bd {S : zW} {u : Int64} {c : Nat} (h : zInv S 0 0) (hB : zBd S c) (hc : c < 10000) (hu : ¬ u < zL S 0 0) (hu2 : u.toInt ≤ c * 2 ^ 35 + 2 ^ 33) : zBd (zpass 800 S u 0).1 (c + 1) := by
  have hp := zpot704 h
  obtain ⟨i1, i2, i3, i4, i5, i6⟩ := zpass_inv 800 S u 0 h (by omega)
  have ht := hB.1.1
  rw [zl_lt] at hu
  obtain ⟨b1, b2⟩ := zpass_Bt 800 S u 0 (c * 2 ^ 35 + 2 ^ 33) h (by omega) (zBt_mono hB.1 (by omega)) (by omega) (by omega) hu2
  refine ⟨zBt_mono b1 (by omega), by have := hB.2.1; omega, fun f hf => ?_, fun e he => ?_⟩
  · rw [i2 5 f (by omega) (by omega), i2 6 f (by omega) (by omega), i2 7 f (by omega) (by omega)]
    have := hB.2.2.1 f hf
    omega
  · rw [i4]; exact i5 e he
