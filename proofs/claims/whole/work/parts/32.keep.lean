/-! the order of a queue -/
theorem zbf_mono {r : Nat} {e b c : zE} (h : zah r b c = true) (hb : zbf r e b = true) : zbf r e c = true := by
  unfold zah at h
  unfold zbf at hb ⊢
  by_cases c1 : e.2.1 = b.2.1
  · rw [if_pos c1] at hb
    by_cases c2 : b.2.1 = c.2.1
    · rw [if_pos c2] at h
      rw [if_pos (c1.trans c2)]
      by_cases c3 : b.2.2.1 = c.2.2.1
      · rw [← c3]; exact hb
      · rw [if_neg c3] at h
        simp only [decide_eq_true_eq] at h
        simp only [Bool.or_eq_true, decide_eq_true_eq] at hb ⊢
        omega
    · rw [if_neg c2] at h
      rw [c1, if_neg c2]; exact h
  · rw [if_neg c1] at hb
    simp only [decide_eq_true_eq] at hb
    by_cases c2 : b.2.1 = c.2.1
    · rw [if_neg (by rw [← c2]; exact c1), ← c2]
      simpa using hb
    · rw [if_neg c2] at h
      simp only [decide_eq_true_eq] at h
      rw [zl_lt] at h hb
      have hlt : e.2.1 < c.2.1 := by rw [zl_lt]; omega
      rw [if_neg (fun q => by rw [q, zl_lt] at hlt; omega)]
      simpa using hlt
theorem zah_of_bf {r : Nat} {e c : zE} (h : zbf r e c = true) (ht : r = 1 → e.2.2.1 = c.2.2.1) (hu : c.2.2.2.1 < e.2.2.2.1) : zah r e c = true := by
  unfold zbf at h
  unfold zah
  by_cases c1 : e.2.1 = c.2.1
  · rw [if_pos c1] at h ⊢
    by_cases cr : r = 1
    · rw [if_pos (ht cr), if_pos cr]; simpa using hu
    · simp only [Bool.or_eq_true, decide_eq_true_eq] at h
      rw [if_neg (by omega)]
      simp only [decide_eq_true_eq]
      omega
  · rw [if_neg c1] at h ⊢; exact h
theorem zah_of_nbf {r : Nat} {e b : zE} (h : ¬ zbf r e b = true) (hu : b.2.2.2.1 < e.2.2.2.1) : zah r b e = true := by
  unfold zbf at h
  unfold zah
  by_cases c1 : e.2.1 = b.2.1
  · rw [if_pos c1] at h
    simp only [Bool.or_eq_true, decide_eq_true_eq] at h
    rw [if_pos c1.symm]
    by_cases c2 : b.2.2.1 = e.2.2.1
    · rw [if_pos c2, if_neg (by omega)]; simpa using hu
    · rw [if_neg c2]
      simp only [decide_eq_true_eq]
      omega
  · rw [if_neg c1] at h
    simp only [decide_eq_true_eq] at h
    rw [if_neg (fun q => c1 q.symm)]
    simp only [decide_eq_true_eq]
    rw [zl_lt] at h ⊢
    have : e.2.1.toInt ≠ b.2.1.toInt := fun q => c1 (Int64.toInt_inj.mp q)
    omega
theorem zins_perm (r : Nat) (e : zE) : ∀ l : List zE, (zins r e l).Perm (e :: l)
  | [] => List.Perm.refl _
  | b :: l => by
    unfold zins
    by_cases c : zbf r e b = true
    · rw [if_pos c]
    · rw [if_neg c]
      exact ((zins_perm r e l).cons b).trans (List.Perm.swap e b l)
theorem zins_sorted (r : Nat) (e : zE) : ∀ l : List zE, l.Pairwise (fun a b => zah r a b = true) → (∀ b ∈ l, b.2.2.2.1 < e.2.2.2.1 ∧ (r = 1 → e.2.2.1 = b.2.2.1)) → (zins r e l).Pairwise (fun a b => zah r a b = true)
  | [], _, _ => by simp [zins]
  | b :: l, h, hl => by
    rw [List.pairwise_cons] at h
    unfold zins
    by_cases c : zbf r e b = true
    · rw [if_pos c, List.pairwise_cons]
      refine ⟨fun d hd => ?_, List.pairwise_cons.mpr h⟩
      refine zah_of_bf ?_ (hl d hd).2 (hl d hd).1
      rcases List.mem_cons.mp hd with rfl | hd
      · exact c
      · exact zbf_mono (h.1 d hd) c
    · rw [if_neg c, List.pairwise_cons]
      refine ⟨fun d hd => ?_, zins_sorted r e l h.2 (fun d hd => hl d (List.mem_cons_of_mem _ hd))⟩
      rcases List.mem_cons.mp ((zins_perm r e l).mem_iff.mp hd) with rfl | hd
      · exact zah_of_nbf c (hl b List.mem_cons_self).1
      · exact h.1 d hd
theorem zmono_of {r : Nat} {e : zE} {l : List zE} (h : l.Pairwise (fun a b => zah r a b = true)) : zmono r e l := fun i j b c hij hb hc h2 => by
  by_cases q : i = j
  · subst q
    rw [hb] at hc
    cases hc
    exact h2
  · obtain ⟨hi, eb⟩ := List.getElem?_eq_some_iff.mp hb
    obtain ⟨hj, ec⟩ := List.getElem?_eq_some_iff.mp hc
    have := List.pairwise_iff_getElem.mp h i j hi hj (by omega)
    rw [eb, ec] at this
    exact zbf_mono this h2
/-! what an enter needs holds -/
theorem zInv_turn {S : zW} {o wd x : Nat} {e : zE} (h : zInv S o wd) (hx : x < zN S 0 0) (he : e ∈ zQ S x) : e.2.2.2.1 < zN S 20 0 := ((h.2.2.2.1 x hx).2.2.2 e he).2.1
theorem zInv_lenR {S : zW} {o wd x : Nat} (h : zInv S o wd) (hx : x < zN S 0 0) : (zR S x).length = (zQ S x).length := (h.2.2.2.1 x hx).1.length_eq
theorem zcc_lt {S : zW} {o wd x : Nat} (h : zInv S o wd) (hx : x < zN S 0 0) : zN S 19 x ≤ 12 := by
  rw [h.1.2.2.1 x hx]
  have h1 : ∀ n, zsum (fun y => if 0 < y ∧ zN S 18 y = x then 1 else 0) n ≤ n := fun n => by
    induction n with
    | zero => exact Nat.le_refl 0
    | succ n ih =>
      show zsum _ n + (if 0 < n ∧ zN S 18 n = x then 1 else 0) ≤ n + 1
      split <;> omega
  have := h1 (zN S 0 0)
  have := h.1.1.2
  unfold zcnt
  omega
theorem ztie_lt {S : zW} {x key p : Nat} (hk : key < 16) (hp : zN S 16 p ≤ 1500) : ztie S x key p < 2 ^ 31 := by
  unfold ztie
  split
  · omega
  · split <;> omega
/-- who may enter where -/
def zmay (S : zW) (o wd x item p : Nat) : Prop := x < zN S 0 0 ∧ p < zN S 1 0 ∧ ((zN S 19 x = 0 ∧ o = 0 ∧ wd = 1 ∧ item = p) ∨ (zN S 19 x ≠ 0 ∧ wd = 0 ∧ 0 < item ∧ item < zN S 0 0 ∧ zN S 18 item = x ∧ o = item))
theorem zmay_cls {S : zW} {o wd x item p : Nat} (h : zInv S o wd) (hm : zmay S o wd x item p) : zcls S (zN S 0 0) x (zkey S x item p) := by
  obtain ⟨hx, hp, q | q⟩ := hm
  · left
    unfold zkey
    rw [if_pos q.1]
    exact ⟨q.1, (h.2.2.1.2 p hp).1⟩
  · right
    unfold zkey
    rw [if_neg q.1]
    exact ⟨q.1, q.2.2.1, q.2.2.2.1, q.2.2.2.2.1⟩
theorem zInv_tie {S : zW} {o wd x : Nat} {e : zE} (h : zInv S o wd) (hx : x < zN S 0 0) (he : e ∈ zQ S x) : e.2.2.1 < 2 ^ 31 := by
  obtain ⟨h1, h2, h3, h4⟩ := (h.2.2.2.1 x hx).2.2.2 e he
  have hn := h.1.1.2
  rw [h3]
  refine ztie_lt ?_ (h.2.2.1.2 _ h1).2.2.1
  unfold zkey
  rcases h4 with q | q
  · rw [if_pos q.1]; exact (h.2.2.1.2 _ h1).1
  · rw [if_neg q.1]; omega
theorem zmay_len {S : zW} {o wd x item p : Nat} (h : zInv S o wd) (hm : zmay S o wd x item p) : (zQ S x).length < 64 := by
  obtain ⟨hx, hp, q | q⟩ := hm
  · have := zlen64 h hx
    omega
  · have := zlen_up h (by omega) (by omega)
    rw [q.2.2.2.2.2, q.2.2.2.2.1] at this
    exact this
theorem zmay_En {S : zW} {o wd x item p : Nat} (h : zInv S o wd) (hm : zmay S o wd x item p) : zEn S (zN S 0 0) x item p := by
  have hx := hm.1
  have hc := zcc_lt h hx
  refine ⟨hx, by omega, zmay_cls h hm, fun f hf => ?_, fun y hy => ?_, (h.1.2.2.2.2 x hx).1, zmay_len h hm, (h.1.2.2.2.2 x hx).2.1, ?_, fun b hb => zInv_tie h hx hb⟩
  · have := h.2.1.1 f hf; omega
  · have := h.2.1.2.1 y hy; omega
  · have := (h.2.2.1.2 p hm.2.1).2.2.1; omega
theorem zst_N {S : zW} {x item p : Nat} {t : Int64} : zN (zst S x item p t) = zN S ∧ zQ (zst S x item p t) = zQ S ∧ zR (zst S x item p t) = zR S ∧ zD (zst S x item p t) = zD S := by
  unfold zst
  split <;> exact ⟨rfl, rfl, rfl, rfl⟩
theorem zen_N {S : zW} {x item p : Nat} {t : Int64} {i j : Nat} (h : i ≠ 20) : zN (zenter S x item p t) i j = zN S i j := by
  unfold zenter
  rw [zN_sN, if_neg (by omega), zN_sQ, zst_N.1]
theorem zen_N20 {S : zW} {x item p : Nat} {t : Int64} : zN (zenter S x item p t) 20 0 = zN S 20 0 + 1 := by
  unfold zenter
  rw [zN_sN, if_pos ⟨rfl, rfl⟩]
theorem zen_Q {S : zW} {x item p y : Nat} {t : Int64} : zQ (zenter S x item p t) y = if y = x then zins (zN S 8 x) (zelt S x item p t) (zQ S x) else zQ S y := by
  unfold zenter
  rw [zQ_sN, zQ_sQ, zst_N.2.1]
theorem zen_R {S : zW} {x item p y : Nat} {t : Int64} : zR (zenter S x item p t) y = if y = x then zR S x ++ [zelt S x item p t] else zR S y := by
  unfold zenter
  rw [zR_sN, zR_sQ, zst_N.2.2.1]
theorem zen_D {S : zW} {x item p : Nat} {t : Int64} : zD (zenter S x item p t) = zD S := by
  unfold zenter
  rw [zD_sN, zD_sQ, zst_N.2.2.2]
theorem zen_len {S : zW} {x item p y : Nat} {t : Int64} : (zQ (zenter S x item p t) y).length = (zQ S y).length + (if y = x then 1 else 0) := by
  rw [zen_Q]
  by_cases c : y = x
  · subst c
    rw [if_pos rfl, if_pos rfl, (zins_perm _ _ _).length_eq]; simp
  · rw [if_neg c, if_neg c]; rfl
/-- plans, flows, packets are told by numbers alone -/
def zsameN (S S' : zW) : Prop := ∀ i j, i ≠ 20 → i ≠ 21 → zN S' i j = zN S i j
theorem zprog_same {S S' : zW} (e : zsameN S S') {x : Nat} (h : zprog S x) : zprog S' x := by
  have e24 : zN S' 24 = zN S 24 := funext (fun j => e 24 j (by omega) (by omega))
  unfold zprog at h ⊢
  rw [e 11 x (by omega) (by omega), e 12 x (by omega) (by omega), e 13 x (by omega) (by omega), e 23 0 (by omega) (by omega), e24]
  exact h
theorem zcnt_same {S S' : zW} (e : zsameN S S') {x : Nat} : zcnt S' x = zcnt S x := by
  unfold zcnt
  rw [e 0 0 (by omega) (by omega)]
  exact zsum_congr (fun y _ => by rw [e 18 y (by omega) (by omega)])
theorem zplan_same {S S' : zW} (e : zsameN S S') (h : zplan S) : zplan S' := by
  obtain ⟨h1, h2, h3, h4, h5⟩ := h
  have e0 := e 0 0 (by omega) (by omega)
  refine ⟨by rw [e0]; exact h1, fun x a b => ?_, fun x a => ?_, by rw [e 9 0 (by omega) (by omega)]; exact h4, fun x a => ?_⟩
  · rw [e0] at b
    rw [e 18 x (by omega) (by omega)]; exact h2 x a b
  · rw [e0] at a
    rw [e 19 x (by omega) (by omega), zcnt_same e]; exact h3 x a
  · rw [e0] at a
    rw [e 8 x (by omega) (by omega), e 9 x (by omega) (by omega), e 10 x (by omega) (by omega)]
    exact ⟨zprog_same e (h5 x a).1, (h5 x a).2⟩
theorem zflow_same {S S' : zW} (e : zsameN S S') (h : zflow S) : zflow S' := by
  obtain ⟨h1, h2, h3⟩ := h
  have e0 := e 0 0 (by omega) (by omega)
  refine ⟨fun f hf => ?_, fun y hy => ?_, by rw [e 2 0 (by omega) (by omega)]; exact h3⟩
  · rw [e 3 f (by omega) (by omega), e 4 f (by omega) (by omega), e0, e 19 _ (by omega) (by omega)]; exact h1 f hf
  · rw [e0] at hy
    rw [e 14 y (by omega) (by omega)]; exact h2 y hy
theorem zpkt_same {S S' : zW} (e : zsameN S S') (h : zpkt S) : zpkt S' := by
  obtain ⟨h1, h2⟩ := h
  have e0 := e 1 0 (by omega) (by omega)
  refine ⟨by rw [e0]; exact h1, fun p hp => ?_⟩
  rw [e0] at hp
  rw [e 15 p (by omega) (by omega), e 16 p (by omega) (by omega), e 17 p (by omega) (by omega)]; exact h2 p hp
theorem zelok_same {S S' : zW} (e : zsameN S S') (he : zN S 20 0 ≤ zN S' 20 0) {x : Nat} {b : zE} (h : zelok S x b) : zelok S' x b := by
  obtain ⟨h1, h2, h3, h4⟩ := h
  have ek : zkey S' x b.1 b.2.2.2.2 = zkey S x b.1 b.2.2.2.2 := by
    unfold zkey
    rw [e 19 x (by omega) (by omega), e 15 _ (by omega) (by omega)]
  refine ⟨by rw [e 1 0 (by omega) (by omega)]; exact h1, by omega, ?_, ?_⟩
  · rw [ek, h3]
    unfold ztie
    rw [e 8 x (by omega) (by omega), e 16 _ (by omega) (by omega)]
  · rw [e 19 x (by omega) (by omega), e 0 0 (by omega) (by omega), e 18 _ (by omega) (by omega)]; exact h4
theorem zen_same {S : zW} {x item p : Nat} {t : Int64} : zsameN S (zenter S x item p t) := fun _ _ h _ => zen_N h
theorem zelt_key {S : zW} {x item p : Nat} : ztie S x (zkey S x item p) p = ztie S x (zkey S x item p) p := rfl
theorem zenter_inv {S : zW} {o wd x item p : Nat} {t : Int64} (h : zInv S o wd) (hm : zmay S o wd x item p) : zInv (zenter S x item p t) x 0 := by
  obtain ⟨hP, hF, hK, hQ, hC, hH, hW⟩ := h
  obtain ⟨hx, hp, hcase⟩ := hm
  have hn0 : zN (zenter S x item p t) 0 0 = zN S 0 0 := zen_N (by omega)
  have hq' : ∀ y, y < zN S 0 0 → zque (zenter S x item p t) y := fun y hy => by
    obtain ⟨q1, q2, q3, q4⟩ := hQ y hy
    unfold zque
    rw [zen_Q, zen_R, zen_N (by omega)]
    by_cases c : y = x
    · subst c
      rw [if_pos rfl, if_pos rfl]
      refine ⟨?_, ?_, zins_sorted _ _ _ q3 (fun b hb => ⟨(q4 b hb).2.1, fun r1 => ?_⟩), fun e he => ?_⟩
      · refine List.Perm.trans ?_ (zins_perm _ _ _).symm
        exact (List.perm_append_comm).trans (q1.cons _)
      · rw [List.pairwise_append]
        refine ⟨q2, List.pairwise_singleton _ _, fun a ha b hb => ?_⟩
        rw [List.mem_singleton] at hb
        subst hb
        exact (q4 a (q1.mem_iff.mp ha)).2.1
      · rw [(q4 b hb).2.2.1]
        show ztie S y _ p = _
        unfold ztie
        rw [r1]; rfl
      · rcases List.mem_cons.mp ((zins_perm _ _ _).mem_iff.mp he) with rfl | he
        · refine ⟨by rw [zen_N (by omega)]; exact hp, by rw [zen_N20]; exact Nat.lt_succ_self _, ?_, ?_⟩
          · show ztie S y (zkey S y item p) p = ztie (zenter S y item p t) y (zkey (zenter S y item p t) y item p) p
            unfold ztie zkey
            rw [zen_N (by omega), zen_N (by omega), zen_N (by omega), zen_N (by omega)]
          · rw [zen_N (by omega), zen_N (by omega), zen_N (by omega)]
            rcases hcase with q | q
            · exact Or.inl ⟨q.1, q.2.2.2⟩
            · exact Or.inr ⟨q.1, q.2.2.1, q.2.2.2.1, q.2.2.2.2.1⟩
        · exact zelok_same zen_same (by rw [zen_N20]; omega) (q4 e he)
    · rw [if_neg c, if_neg c]
      exact ⟨q1, q2, q3, fun e he => zelok_same zen_same (by rw [zen_N20]; omega) (q4 e he)⟩
  refine ⟨zplan_same zen_same hP, zflow_same zen_same hF, zpkt_same zen_same hK, fun y hy => hq' y (by rw [hn0] at hy; exact hy), fun y h0 hy => ?_, fun e he => ?_, ?_⟩
  · rw [hn0] at hy
    have hc := hC y h0 hy
    have hpar := hP.2.1 y h0 hy
    unfold zci zch at hc ⊢
    rw [zen_len, hc, zen_D, zen_N (by omega), zen_Q]
    by_cases cp : zN S 18 y = x
    · rw [if_pos cp, (zins_perm _ _ _).countP_eq, List.countP_cons, cp]
      have hi : (zelt S x item p t).1 = item := rfl
      rw [hi]
      rcases hcase with q | q
      · exact absurd q.1 (by rw [hP.2.2.1 x hx]; exact zcnt_pos h0 hy cp)
      · by_cases ci : item = y
        · subst ci
          have : ¬ item = x := by omega
          simp [this, q.2.2.2.2.2]
          omega
        · have n1 : ¬ y = o := by omega
          simp [ci, n1]
    · rw [if_neg cp]
      rcases hcase with q | q
      · have n1 : ¬ y = o := by omega
        rw [if_neg n1]; omega
      · have n1 : ¬ y = o := by
          intro q2
          rw [q2, q.2.2.2.2.2, q.2.2.2.2.1] at cp
          exact cp rfl
        rw [if_neg n1]; omega
  · rw [zen_D] at he
    rw [hn0, zen_N (by omega)]; exact hH e he
  · unfold zwait at hW ⊢
    rw [hn0, zen_N (by omega)]
    rcases hcase with q | q
    · have : zsum (zlf (zenter S x item p t)) (zN S 0 0) = zsum (zlf S) (zN S 0 0) + 1 := by
        refine zsum_upd (a := x) hx (fun i hi => ?_)
        unfold zlf
        rw [zen_N (by omega), zen_len]
        by_cases c : i = x
        · subst c
          rw [if_pos q.1, if_pos q.1]
        · rw [if_neg c, Nat.add_zero, Nat.add_zero]
      rw [this]
      omega
    · have : zsum (zlf (zenter S x item p t)) (zN S 0 0) = zsum (zlf S) (zN S 0 0) := by
        refine zsum_congr (fun i hi => ?_)
        unfold zlf
        rw [zen_N (by omega), zen_len]
        by_cases c : i = x
        · subst c
          rw [if_neg q.1, if_neg q.1]
        · rw [if_neg c, Nat.add_zero]
      rw [this]
      omega
