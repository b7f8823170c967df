/-! the world of a tree that has been read -/
def ynd (nd : List yNd) (j : Nat) : yNd := nd.getD j (0, 0, 0, 0, 0, 0, 0)
def ynN (wt : Nat → Nat) (lk lf : Nat) (nd : List yNd) (cd : List Nat) : Nat → Nat → Nat
  | 0, _ => nd.length
  | 2, _ => lk
  | 3, j => wt j
  | 4, _ => lf
  | 8, j => (ynd nd j).2.1
  | 9, j => (ynd nd j).2.2.1
  | 10, j => (ynd nd j).2.2.2.1
  | 11, j => (ynd nd j).2.2.2.2.1
  | 12, j => (ynd nd j).2.2.2.2.2.1
  | 13, j => (ynd nd j).2.2.2.2.2.2
  | 14, _ => 1
  | 18, j => (ynd nd j).1
  | 19, j => ycc nd j
  | 23, _ => cd.length
  | 24, j => cd.getD j 0
  | _, _ => 0
def ynew (wt : Nat → Nat) (lk lf : Nat) (nd : List yNd) (cd : List Nat) : zW := (ynN wt lk lf nd cd, fun _ _ => 0, fun _ => [], fun _ => [], [])
/-- the first leaf -/
def yfl (cc : Nat → Nat) : Nat → Nat → Nat
  | 0, x => x
  | f + 1, x => if cc x = 0 then x else yfl cc f (x + 1)
def yleaf (nd : List yNd) : Nat := yfl (ycc nd) nd.length 0
theorem yfl_ok {cc : Nat → Nat} : ∀ (f x m : Nat), x ≤ m → m < x + f → cc m = 0 → yfl cc f x ≤ m ∧ cc (yfl cc f x) = 0
  | 0, x, m, h1, h2, _ => by omega
  | f + 1, x, m, h1, h2, h3 => by
    unfold yfl
    by_cases c : cc x = 0
    · rw [if_pos c]; exact ⟨h1, c⟩
    · rw [if_neg c]
      have : x ≠ m := fun e => c (by rw [e]; exact h3)
      exact yfl_ok f (x + 1) m (by omega) (by omega) h3
theorem ynd_get {nd : List yNd} {j : Nat} (h : j < nd.length) : nd[j]? = some (ynd nd j) := by
  unfold ynd
  rw [List.getD_eq_getElem?_getD, List.getElem?_eq_getElem h]; rfl
theorem ynd_some {nd : List yNd} {j : Nat} {n : yNd} (h : nd[j]? = some n) : ynd nd j = n := by
  unfold ynd
  rw [List.getD_eq_getElem?_getD, h]; rfl
theorem ynd_ok {nd : List yNd} {cd : List Nat} {j : Nat} (h : yok nd cd) (hj : j < nd.length) : yok1 cd j (ynd nd j) := h j _ (ynd_get hj)
theorem yleaf_ok {nd : List yNd} {cd : List Nat} (h : yok nd cd) (h1 : 1 ≤ nd.length) : yleaf nd < nd.length ∧ ycc nd (yleaf nd) = 0 := by
  have hz : ycc nd (nd.length - 1) = 0 := zsum_zero (fun y hy => by
    by_cases c : 0 < y
    · have := ypr_lt h c hy
      rw [if_neg (by omega)]
    · rw [if_neg (fun q => c q.1)])
  have := yfl_ok (cc := ycc nd) nd.length 0 (nd.length - 1) (by omega) (by omega) hz
  exact ⟨by have := this.1; unfold yleaf; omega, this.2⟩
theorem yprg_zprog {wt : Nat → Nat} {lk lf : Nat} {nd : List yNd} {cd : List Nat} {x : Nat} (h : yok1 cd x (ynd nd x)) (hcd : cd.length ≤ 120) : zprog (ynew wt lk lf nd cd) x := by
  obtain ⟨_, _, _, _, _, p1, p2, p3, p4, p5⟩ := h
  generalize en : ynd nd x = n at p1 p2 p3 p4 p5
  have e11 : zN (ynew wt lk lf nd cd) 11 x = n.2.2.2.2.1 := by rw [← en]; rfl
  have e12 : zN (ynew wt lk lf nd cd) 12 x = n.2.2.2.2.2.1 := by rw [← en]; rfl
  have e13 : zN (ynew wt lk lf nd cd) 13 x = n.2.2.2.2.2.2 := by rw [← en]; rfl
  have e23 : zN (ynew wt lk lf nd cd) 23 0 = cd.length := rfl
  have e24 : ∀ j, zN (ynew wt lk lf nd cd) 24 j = cd.getD j 0 := fun j => rfl
  unfold zprog
  rw [e11, e12, e13, e23]
  generalize n.2.2.2.2.1 = s at p3 p4 ⊢
  generalize n.2.2.2.2.2.1 = m at p1 p3 p4 p5 ⊢
  generalize n.2.2.2.2.2.2 = e at p1 p2 p5 ⊢
  have hl1 : ((cd.take m).drop s).length = m - s := by rw [List.length_drop, List.length_take]; omega
  have hl2 : ((cd.take e).drop m).length = e - m := by rw [List.length_drop, List.length_take]; omega
  have hsm : s < m := by
    by_cases c : s < m
    · exact c
    · have : (cd.take m).drop s = [] := List.eq_nil_of_length_eq_zero (by omega)
      rw [this] at p3
      have p3 : (0 : Nat) = 1 := p3
      omega
  have get : ∀ (a b i c : Nat), ((cd.take b).drop a)[i]? = some c → zN (ynew wt lk lf nd cd) 24 (a + i) = c := fun a b i c hc => by
    rw [e24, List.getD_eq_getElem?_getD]
    rw [List.getElem?_drop] at hc
    have hb : a + i < b := by
      have := (List.getElem?_eq_some_iff.mp hc).1
      rw [List.length_take] at this
      omega
    rw [List.getElem?_take_of_lt hb] at hc
    rw [hc]; rfl
  refine ⟨hsm, p1, p2, hcd, ?_, fun q => ?_, fun j j1 j2 => ?_⟩
  · rw [← hl1]; exact zrun_wf p3 (fun i c hc => get s m i c hc)
  · rw [← hl2]; exact zrun_wf (p5 q) (fun i c hc => get m e i c hc)
  · rw [e24, List.getD_eq_getElem?_getD]
    have hj : j < cd.length := by omega
    rw [List.getElem?_eq_getElem hj]
    refine p4 _ ?_
    refine List.mem_of_getElem? (i := j - s) ?_
    rw [List.getElem?_drop, List.getElem?_take_of_lt (by omega), show s + (j - s) = j by omega]
    exact List.getElem?_eq_getElem hj
theorem ynew_plan {wt : Nat → Nat} {lk lf : Nat} {nd : List yNd} {cd : List Nat} (h : yok nd cd) (h1 : 1 ≤ nd.length ∧ nd.length ≤ 12) (hcd : cd.length ≤ 120) : zplan (ynew wt lk lf nd cd) := by
  refine ⟨h1, fun x hx hn => (ynd_ok h hn).1 hx, fun x hn => rfl, (ynd_ok h (by omega)).2.2.2.2.1 rfl, fun x hn => ?_⟩
  have := ynd_ok h hn
  exact ⟨yprg_zprog this hcd, this.2.1, this.2.2.1, this.2.2.2.1⟩
theorem ynew_OK {wt : Nat → Nat} {lk : Nat} {nd : List yNd} {cd : List Nat} (c : Nat) (h : yok nd cd) (h1 : 1 ≤ nd.length ∧ nd.length ≤ 12) (hcd : cd.length ≤ 120) (hw : ∀ f, f < 16 → 1 ≤ wt f ∧ wt f ≤ 100) (hk : 1 ≤ lk ∧ lk ≤ 9999) : zOK (ynew wt lk (yleaf nd) nd cd) c := by
  obtain ⟨l1, l2⟩ := yleaf_ok h h1.1
  have z0 : (0 : Int64).toInt = 0 := by decide
  refine ⟨⟨ynew_plan h h1 hcd, ⟨fun f hf => ⟨(hw f hf).1, (hw f hf).2, l1, l2⟩, fun y hy => ?_, hk.1, hk.2⟩, ⟨?_, fun p hp => ?_⟩, fun x hx => ⟨List.Perm.refl _, List.Pairwise.nil, List.Pairwise.nil, fun e he => ?_⟩, fun y hy hn => ?_, fun e he => ?_, ?_, ?_⟩, ⟨⟨?_, fun x hx => ?_, fun e he => ?_⟩, ?_, fun f hf => ?_, fun e he => ?_⟩, fun p hp => ?_⟩
  · show 1 ≤ 100; omega
  · show 0 ≤ 500; omega
  · have hp : p < 0 := hp
    omega
  · have he : e ∈ ([] : List zE) := he
    cases he
  · show 0 = 0 + 0 + (if y = 0 then 1 else 0)
    rw [if_neg (by omega)]
  · have he : e ∈ ([] : List zH) := he
    cases he
  · show 0 = zsum (zlf (ynew wt lk (yleaf nd) nd cd)) nd.length + 0
    rw [zsum_zero (fun i _ => by
      unfold zlf
      split
      · rfl
      · rfl)]
  · show 0 ≤ 64; omega
  · show 0 ≤ (0 : Int64).toInt ∧ (0 : Int64).toInt ≤ _
    rw [z0]; omega
  · show 0 ≤ (0 : Int64).toInt ∧ (0 : Int64).toInt ≤ _
    rw [z0]; omega
  · have he : e ∈ ([] : List zH) := he
    cases he
  · show 0 ≤ _; omega
  · show 0 ≤ c ∧ 0 ≤ 1500 * c ∧ 0 ≤ c
    omega
  · have he : e ∈ ([] : List zH) := he
    cases he
  · have hp : p < 0 := hp
    omega
