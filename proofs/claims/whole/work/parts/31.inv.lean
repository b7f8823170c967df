/-! sums -/
def zsum (f : Nat → Nat) : Nat → Nat
  | 0 => 0
  | n + 1 => zsum f n + f n
theorem zsum_congr {f g : Nat → Nat} : ∀ {n : Nat}, (∀ i, i < n → f i = g i) → zsum f n = zsum g n
  | 0, _ => rfl
  | n + 1, h => by
    show zsum f n + f n = zsum g n + g n
    rw [zsum_congr (fun i hi => h i (by omega)), h n (by omega)]
theorem zsum_add {f g : Nat → Nat} : ∀ {n : Nat}, zsum (fun i => f i + g i) n = zsum f n + zsum g n
  | 0 => rfl
  | n + 1 => by
    show zsum (fun i => f i + g i) n + (f n + g n) = zsum f n + f n + (zsum g n + g n)
    rw [zsum_add]; omega
theorem zsum_zero {f : Nat → Nat} : ∀ {n : Nat}, (∀ i, i < n → f i = 0) → zsum f n = 0
  | 0, _ => rfl
  | n + 1, h => by
    show zsum f n + f n = 0
    rw [zsum_zero (fun i hi => h i (by omega)), h n (by omega)]
theorem zsum_one {f : Nat → Nat} {a : Nat} : ∀ {n : Nat}, a < n → (∀ i, i < n → i ≠ a → f i = 0) → zsum f n = f a
  | 0, h, _ => by omega
  | n + 1, h, h2 => by
    show zsum f n + f n = f a
    by_cases c : n = a
    · subst c
      rw [zsum_zero (fun i hi => h2 i (by omega) (by omega))]; omega
    · rw [zsum_one (a := a) (by omega) (fun i hi hia => h2 i (by omega) hia), h2 n (by omega) c, Nat.add_zero]
theorem zsum_mono {f g : Nat → Nat} : ∀ {n : Nat}, (∀ i, i < n → f i ≤ g i) → zsum f n ≤ zsum g n
  | 0, _ => Nat.le_refl 0
  | n + 1, h => by
    show zsum f n + f n ≤ zsum g n + g n
    have := zsum_mono (f := f) (g := g) (n := n) (fun i hi => h i (by omega))
    have := h n (by omega)
    omega
theorem zsum_ge {f : Nat → Nat} {a : Nat} : ∀ {n : Nat}, a < n → f a ≤ zsum f n
  | 0, h => by omega
  | n + 1, h => by
    show f a ≤ zsum f n + f n
    by_cases c : n = a
    · subst c; omega
    · have := zsum_ge (f := f) (a := a) (n := n) (by omega)
      omega
/-- one place more -/
theorem zsum_upd {f g : Nat → Nat} {a d : Nat} {n : Nat} (ha : a < n) (h : ∀ i, i < n → f i = g i + (if i = a then d else 0)) : zsum f n = zsum g n + d := by
  rw [zsum_congr h, zsum_add]
  congr 1
  rw [zsum_one ha (fun i _ hi => if_neg hi), if_pos rfl]
theorem zsum_cnt {α : Type} (it : α → Nat) (P : Nat → Prop) [hd : DecidablePred P] {n : Nat} : ∀ l : List α, (∀ e ∈ l, it e < n ∧ P (it e)) → zsum (fun y => if P y then l.countP (fun e => it e == y) else 0) n = l.length
  | [], _ => zsum_zero (fun i _ => by by_cases c : P i <;> simp [c])
  | a :: l, h => by
    obtain ⟨h1, h2⟩ := h a List.mem_cons_self
    have ih := zsum_cnt it P (n := n) l (fun e he => h e (List.mem_cons_of_mem _ he))
    rw [List.length_cons, ← ih]
    refine zsum_upd (a := it a) h1 (fun i _ => ?_)
    by_cases c : P i
    · rw [if_pos c, if_pos c, List.countP_cons]
      by_cases c2 : it a = i
      · simp [c2]
      · have : ¬ i = it a := fun q => c2 q.symm
        simp [c2, this]
    · rw [if_neg c, if_neg c, if_neg (fun q => c (by rw [q]; exact h2))]
/-! what always holds of a world -/
def zcnt (S : zW) (x : Nat) : Nat := zsum (fun y => if 0 < y ∧ zN S 18 y = x then 1 else 0) (zN S 0 0)
def zplan (S : zW) : Prop := (1 ≤ zN S 0 0 ∧ zN S 0 0 ≤ 12) ∧ (∀ x, 0 < x → x < zN S 0 0 → zN S 18 x < x) ∧ (∀ x, x < zN S 0 0 → zN S 19 x = zcnt S x) ∧ zN S 9 0 = 0 ∧ (∀ x, x < zN S 0 0 → zprog S x ∧ zN S 8 x ≤ 3 ∧ zN S 9 x ≤ 9999 ∧ zN S 10 x ≤ 9999)
def zflow (S : zW) : Prop := (∀ f, f < 16 → 1 ≤ zN S 3 f ∧ zN S 3 f ≤ 100 ∧ zN S 4 f < zN S 0 0 ∧ zN S 19 (zN S 4 f) = 0) ∧ (∀ y, y < zN S 0 0 → zN S 14 y ≤ 100) ∧ 1 ≤ zN S 2 0 ∧ zN S 2 0 ≤ 9999
def zpkt (S : zW) : Prop := zN S 1 0 ≤ 500 ∧ ∀ p, p < zN S 1 0 → zN S 15 p < 16 ∧ 1 ≤ zN S 16 p ∧ zN S 16 p ≤ 1500 ∧ zN S 17 p ≤ 9
def zelok (S : zW) (x : Nat) (e : zE) : Prop := e.2.2.2.2 < zN S 1 0 ∧ e.2.2.2.1 < zN S 20 0 ∧ e.2.2.1 = ztie S x (zkey S x e.1 e.2.2.2.2) e.2.2.2.2 ∧ ((zN S 19 x = 0 ∧ e.1 = e.2.2.2.2) ∨ (zN S 19 x ≠ 0 ∧ 0 < e.1 ∧ e.1 < zN S 0 0 ∧ zN S 18 e.1 = x))
def zque (S : zW) (x : Nat) : Prop := (zR S x).Perm (zQ S x) ∧ (zR S x).Pairwise (fun a b => a.2.2.2.1 < b.2.2.2.1) ∧ (zQ S x).Pairwise (fun a b => zah (zN S 8 x) a b = true) ∧ ∀ e ∈ zQ S x, zelok S x e
def zci (S : zW) (y : Nat) : Nat := (zQ S (zN S 18 y)).countP (fun e => e.1 == y)
def zch (S : zW) (y : Nat) : Nat := (zD S).countP (fun h => h.2.1 == y)
def zcons (S : zW) (o : Nat) : Prop := ∀ y, 0 < y → y < zN S 0 0 → (zQ S y).length = zci S y + zch S y + (if y = o then 1 else 0)
def zheld (S : zW) : Prop := ∀ h ∈ zD S, 0 < h.2.1 ∧ h.2.1 < zN S 0 0 ∧ h.2.2 < zN S 1 0
def zlf (S : zW) (x : Nat) : Nat := if zN S 19 x = 0 then (zQ S x).length else 0
def zwait (S : zW) (wd : Nat) : Prop := zN S 21 0 = zsum (zlf S) (zN S 0 0) + wd ∧ zN S 21 0 ≤ 64
def zInv (S : zW) (o wd : Nat) : Prop := zplan S ∧ zflow S ∧ zpkt S ∧ (∀ x, x < zN S 0 0 → zque S x) ∧ zcons S o ∧ zheld S ∧ zwait S wd
/-! how many wait where -/
theorem zcnt_pos {S : zW} {x y : Nat} (h0 : 0 < y) (hy : y < zN S 0 0) (hp : zN S 18 y = x) : zcnt S x ≠ 0 := by
  have := zsum_ge (f := fun y => if 0 < y ∧ zN S 18 y = x then 1 else 0) hy
  simp only [h0, hp, and_self, if_true] at this
  unfold zcnt
  omega
def zfr (S : zW) (k y : Nat) : Nat := if (y < k ∧ zN S 19 y = 0) ∨ (k ≤ y ∧ (y = 0 ∨ zN S 18 y < k)) then (zQ S y).length else 0
def zpo (S : zW) (o y : Nat) : Nat := zch S y + (if y = o then 1 else 0)
def zU (S : zW) (o k : Nat) : Nat := zsum (fun y => if 0 < y ∧ zN S 18 y < k then zpo S o y else 0) (zN S 0 0)
theorem zfr_step {S : zW} {o wd k : Nat} (h : zInv S o wd) (hk : k < zN S 0 0) : zsum (zfr S (k + 1)) (zN S 0 0) = zsum (zfr S k) (zN S 0 0) + zsum (fun y => if 0 < y ∧ zN S 18 y = k then zpo S o y else 0) (zN S 0 0) := by
  obtain ⟨⟨hn, hpar, hcc, h9, _⟩, hf, hp, hq, hc, hh, hw⟩ := h
  have e1 : zsum (zfr S (k + 1)) (zN S 0 0) + (if zN S 19 k = 0 then 0 else (zQ S k).length) = zsum (zfr S k) (zN S 0 0) + zsum (fun y => if 0 < y ∧ zN S 18 y = k then (zQ S y).length else 0) (zN S 0 0) := by
    rw [← zsum_add]
    rw [← zsum_upd (f := fun y => zfr S (k + 1) y + (if y = k then (if zN S 19 k = 0 then 0 else (zQ S k).length) else 0)) (a := k) hk (fun i _ => by by_cases c : i = k <;> simp [c])]
    refine zsum_congr (fun y hy => ?_)
    unfold zfr
    by_cases c : y = k
    · subst c
      have n1 : ¬ (0 < y ∧ zN S 18 y = y) := fun q => by have := hpar y q.1 hy; omega
      rw [if_neg n1, if_pos rfl]
      have p1 : (y < y ∧ zN S 19 y = 0) ∨ (y ≤ y ∧ (y = 0 ∨ zN S 18 y < y)) := by
        right
        refine ⟨Nat.le_refl y, ?_⟩
        by_cases c0 : y = 0
        · exact Or.inl c0
        · exact Or.inr (hpar y (by omega) hy)
      rw [if_pos p1]
      by_cases cl : zN S 19 y = 0
      · rw [if_pos (Or.inl ⟨by omega, cl⟩), if_pos cl]
      · rw [if_neg (by omega), if_neg cl]; omega
    · rw [if_neg c]
      by_cases c2 : 0 < y ∧ zN S 18 y = k
      · have := hpar y c2.1 hy
        rw [if_pos c2, if_pos (by omega), if_neg (by omega)]; omega
      · rw [if_neg c2]
        by_cases c3 : (y < k ∧ zN S 19 y = 0) ∨ (k ≤ y ∧ (y = 0 ∨ zN S 18 y < k))
        · rw [if_pos c3, if_pos (by omega)]
        · rw [if_neg c3, if_neg (by omega)]
  have e2 : zsum (fun y => if 0 < y ∧ zN S 18 y = k then (zQ S y).length else 0) (zN S 0 0) = zsum (fun y => if 0 < y ∧ zN S 18 y = k then (zQ S k).countP (fun e => e.1 == y) else 0) (zN S 0 0) + zsum (fun y => if 0 < y ∧ zN S 18 y = k then zpo S o y else 0) (zN S 0 0) := by
    rw [← zsum_add]
    refine zsum_congr (fun y hy => ?_)
    by_cases c : 0 < y ∧ zN S 18 y = k
    · rw [if_pos c, if_pos c, if_pos c, hc y c.1 hy]
      unfold zci zpo
      rw [c.2]; omega
    · rw [if_neg c, if_neg c, if_neg c]
  have e3 : zsum (fun y => if 0 < y ∧ zN S 18 y = k then (zQ S k).countP (fun e => e.1 == y) else 0) (zN S 0 0) = if zN S 19 k = 0 then 0 else (zQ S k).length := by
    by_cases cl : zN S 19 k = 0
    · rw [if_pos cl]
      refine zsum_zero (fun y hy => if_neg (fun q => ?_))
      exact zcnt_pos q.1 hy q.2 ((hcc k hk).symm.trans cl)
    · rw [if_neg cl]
      refine zsum_cnt (fun e : zE => e.1) (fun y => 0 < y ∧ zN S 18 y = k) (zQ S k) (fun e he => ?_)
      have := ((hq k hk).2.2.2 e he).2.2.2
      rcases this with q | q
      · exact absurd q.1 cl
      · exact ⟨q.2.2.1, q.2.1, q.2.2.2⟩
  omega
theorem zU_step {S : zW} {o k : Nat} : zU S o (k + 1) = zU S o k + zsum (fun y => if 0 < y ∧ zN S 18 y = k then zpo S o y else 0) (zN S 0 0) := by
  unfold zU
  rw [← zsum_add]
  refine zsum_congr (fun y _ => ?_)
  by_cases c : 0 < y ∧ zN S 18 y < k
  · rw [if_pos c, if_pos (by omega), if_neg (by omega)]; omega
  · rw [if_neg c]
    by_cases c2 : 0 < y ∧ zN S 18 y = k
    · rw [if_pos c2, if_pos (by omega)]; omega
    · rw [if_neg c2, if_neg (by omega)]
theorem zfr_all {S : zW} {o wd : Nat} (h : zInv S o wd) : ∀ k, k ≤ zN S 0 0 → zsum (zfr S k) (zN S 0 0) = (zQ S 0).length + zU S o k
  | 0, _ => by
    have hn := h.1.1.1
    rw [zsum_one (a := 0) (by omega) (fun i _ hi => by
      unfold zfr
      rw [if_neg (by omega)])]
    unfold zfr
    rw [if_pos (by omega)]
    unfold zU
    rw [zsum_zero (fun i _ => if_neg (by omega))]
    rfl
  | k + 1, hk => by
    rw [zfr_step h (by omega), zfr_all h k (by omega), zU_step]
    omega
theorem zU_mono {S : zW} {o k : Nat} : ∀ d, zU S o k ≤ zU S o (k + d)
  | 0 => Nat.le_refl _
  | d + 1 => by
    have := zU_mono (S := S) (o := o) (k := k) d
    rw [← Nat.add_assoc, zU_step]; omega
theorem zfr_end {S : zW} {o wd : Nat} (h : zInv S o wd) : zsum (zlf S) (zN S 0 0) = (zQ S 0).length + zU S o (zN S 0 0) := by
  rw [← zfr_all h _ (Nat.le_refl _)]
  refine zsum_congr (fun y hy => ?_)
  unfold zlf zfr
  by_cases c : zN S 19 y = 0
  · rw [if_pos c, if_pos (Or.inl ⟨hy, c⟩)]
  · rw [if_neg c, if_neg (by omega)]
/-- a queue is no longer than what waits -/
theorem zlen_le {S : zW} {o wd x : Nat} (h : zInv S o wd) (hx : x < zN S 0 0) : (zQ S x).length + (zU S o (zN S 0 0) - zU S o x) ≤ zsum (zlf S) (zN S 0 0) := by
  have e1 := zfr_all h x (by omega)
  have e2 := zfr_end h
  have e3 := zU_mono (S := S) (o := o) (k := x) (zN S 0 0 - x)
  rw [show x + (zN S 0 0 - x) = zN S 0 0 by omega] at e3
  have e4 : (zQ S x).length ≤ zsum (zfr S x) (zN S 0 0) := by
    have := zsum_ge (f := zfr S x) hx
    have e5 : zfr S x x = (zQ S x).length := by
      unfold zfr
      rw [if_pos]
      by_cases c0 : x = 0
      · omega
      · have := h.1.2.1 x (by omega) hx
        omega
    omega
  omega
theorem zlen64 {S : zW} {o wd x : Nat} (h : zInv S o wd) (hx : x < zN S 0 0) : (zQ S x).length + wd ≤ 64 := by
  have := zlen_le h hx
  have := h.2.2.2.2.2.2
  unfold zwait at this
  omega
/-- where a child's element is on its way there is room -/
theorem zlen_up {S : zW} {o wd : Nat} (h : zInv S o wd) (h0 : 0 < o) (ho : o < zN S 0 0) : (zQ S (zN S 18 o)).length < 64 := by
  have hp := h.1.2.1 o h0 ho
  have e1 := zlen_le h (x := zN S 18 o) (by omega)
  have e2 := h.2.2.2.2.2.2
  unfold zwait at e2
  have e3 := zU_step (S := S) (o := o) (k := zN S 18 o)
  have e4 := zU_mono (S := S) (o := o) (k := zN S 18 o + 1) (zN S 0 0 - (zN S 18 o + 1))
  rw [show zN S 18 o + 1 + (zN S 0 0 - (zN S 18 o + 1)) = zN S 0 0 by omega] at e4
  have e5 := zsum_ge (f := fun y => if 0 < y ∧ zN S 18 y = zN S 18 o then zpo S o y else 0) ho
  simp only [h0, and_self, if_true] at e5
  have e6 : 1 ≤ zpo S o o := by unfold zpo; rw [if_pos rfl]; omega
  omega
theorem zU_all {S : zW} {o wd : Nat} (h : zInv S o wd) : zU S o (zN S 0 0) = (zD S).length + (if 0 < o ∧ o < zN S 0 0 then 1 else 0) := by
  obtain ⟨⟨hn, hpar, hcc, h9, _⟩, hf, hp, hq, hc, hh, hw⟩ := h
  have e1 := zsum_cnt (fun h : zH => h.2.1) (fun y => 0 < y) (n := zN S 0 0) (zD S) (fun e he => ⟨(hh e he).2.1, (hh e he).1⟩)
  rw [← e1]
  unfold zU
  by_cases c : 0 < o ∧ o < zN S 0 0
  · rw [if_pos c]
    refine zsum_upd (a := o) c.2 (fun y hy => ?_)
    by_cases c0 : 0 < y
    · have := hpar y c0 hy
      rw [if_pos ⟨c0, by omega⟩, if_pos c0]; rfl
    · rw [if_neg (fun q => c0 q.1), if_neg c0, if_neg (by omega)]
  · rw [if_neg c, Nat.add_zero]
    refine zsum_congr (fun y hy => ?_)
    by_cases c0 : 0 < y
    · have := hpar y c0 hy
      rw [if_pos ⟨c0, by omega⟩, if_pos c0]
      unfold zpo zch
      rw [if_neg (by omega)]; rfl
    · rw [if_neg (fun q => c0 q.1), if_neg c0]
/-- what is held, what is at the root, what is on its way: all that waits -/
theorem zheld_le {S : zW} {o wd : Nat} (h : zInv S o wd) : (zQ S 0).length + (zD S).length + (if 0 < o ∧ o < zN S 0 0 then 1 else 0) + wd = zN S 21 0 ∧ zN S 21 0 ≤ 64 := by
  have e1 := zfr_end h
  have e2 := zU_all h
  have e3 := h.2.2.2.2.2.2
  unfold zwait at e3
  omega
