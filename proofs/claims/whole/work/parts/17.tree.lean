def k_ad (q tx er rd kp ca cv cs : Nat) (adR wq : Nat → Nat) (adW : Nat → Nat → Nat) (k o : Nat) : Nat := match k with
  | 8 => q
  | 44 => tx
  | 45 => er
  | 6 => rd
  | 46 => kp
  | 0 => ca
  | 10 => cv
  | 11 => cs
  | 41 => adR 11
  | 42 => adR 12
  | 7 => wq o
  | 5 => if o = 5 then adR 1 else adW o 1
  | 32 => if o = 5 then adR 2 else adW o 2
  | 33 => if o = 5 then adR 3 else adW o 3
  | 34 => if o = 5 then adR 4 else adW o 4
  | 35 => if o = 5 then adR 5 else adW o 5
  | 36 => if o = 5 then adR 6 else adW o 6
  | 37 => if o = 5 then adR 7 else adW o 7
  | 38 => if o = 5 then adR 8 else adW o 8
  | 39 => if o = 5 then adR 9 else adW o 9
  | 40 => if o = 5 then adR 10 else adW o 10
  | 43 => adW o 11
  | 4 => adW o 12
  | 26 => adW o 13
  | 27 => adW o 14
  | 28 => adW o 15
  | 29 => adW o 16
  | 30 => adW o 17
  | 31 => adW o 18
  | 1 => adW o 19
  | 12 => adW o 20
  | 13 => adW o 21
  | 14 => adW o 22
  | 15 => adW o 23
  | 16 => adW o 24
  | 17 => adW o 25
  | 18 => adW o 26
  | 2 => adW o 27
  | 19 => adW o 28
  | 20 => adW o 29
  | 21 => adW o 30
  | 3 => adW (o / 12) (31 + 5 * (o % 12))
  | 22 => adW (o / 12) (32 + 5 * (o % 12))
  | 23 => adW (o / 12) (33 + 5 * (o % 12))
  | 24 => adW (o / 12) (34 + 5 * (o % 12))
  | 25 => adW (o / 12) (35 + 5 * (o % 12))
  | _ => 0
def k_keysW0 : List (Nat × Nat) := [(43, 0), (7, 0), (25, 11), (24, 11), (23, 11), (22, 11), (3, 11), (25, 10), (24, 10), (23, 10), (22, 10), (3, 10), (25, 9), (24, 9), (23, 9), (22, 9), (3, 9), (25, 8), (24, 8), (23, 8), (22, 8), (3, 8), (25, 7), (24, 7), (23, 7), (22, 7), (3, 7), (25, 6), (24, 6), (23, 6), (22, 6), (3, 6), (25, 5), (24, 5), (23, 5), (22, 5), (3, 5), (25, 4), (24, 4), (23, 4), (22, 4), (3, 4), (25, 3), (24, 3), (23, 3), (22, 3), (3, 3), (25, 2), (24, 2), (23, 2), (22, 2), (3, 2), (25, 1), (24, 1), (23, 1), (22, 1), (3, 1), (25, 0), (24, 0), (23, 0), (22, 0), (3, 0), (21, 0), (20, 0), (19, 0), (2, 0), (18, 0), (17, 0), (16, 0), (15, 0), (14, 0), (13, 0), (12, 0), (1, 0), (31, 0), (30, 0), (29, 0), (28, 0), (27, 0), (26, 0), (4, 0), (40, 0), (39, 0), (38, 0), (37, 0), (36, 0), (35, 0), (34, 0), (33, 0), (32, 0), (5, 0)]
def k_keysW1 : List (Nat × Nat) := [(43, 1), (7, 1), (25, 23), (24, 23), (23, 23), (22, 23), (3, 23), (25, 22), (24, 22), (23, 22), (22, 22), (3, 22), (25, 21), (24, 21), (23, 21), (22, 21), (3, 21), (25, 20), (24, 20), (23, 20), (22, 20), (3, 20), (25, 19), (24, 19), (23, 19), (22, 19), (3, 19), (25, 18), (24, 18), (23, 18), (22, 18), (3, 18), (25, 17), (24, 17), (23, 17), (22, 17), (3, 17), (25, 16), (24, 16), (23, 16), (22, 16), (3, 16), (25, 15), (24, 15), (23, 15), (22, 15), (3, 15), (25, 14), (24, 14), (23, 14), (22, 14), (3, 14), (25, 13), (24, 13), (23, 13), (22, 13), (3, 13), (25, 12), (24, 12), (23, 12), (22, 12), (3, 12), (21, 1), (20, 1), (19, 1), (2, 1), (18, 1), (17, 1), (16, 1), (15, 1), (14, 1), (13, 1), (12, 1), (1, 1), (31, 1), (30, 1), (29, 1), (28, 1), (27, 1), (26, 1), (4, 1), (40, 1), (39, 1), (38, 1), (37, 1), (36, 1), (35, 1), (34, 1), (33, 1), (32, 1), (5, 1)]
def k_keysW2 : List (Nat × Nat) := [(43, 2), (7, 2), (25, 35), (24, 35), (23, 35), (22, 35), (3, 35), (25, 34), (24, 34), (23, 34), (22, 34), (3, 34), (25, 33), (24, 33), (23, 33), (22, 33), (3, 33), (25, 32), (24, 32), (23, 32), (22, 32), (3, 32), (25, 31), (24, 31), (23, 31), (22, 31), (3, 31), (25, 30), (24, 30), (23, 30), (22, 30), (3, 30), (25, 29), (24, 29), (23, 29), (22, 29), (3, 29), (25, 28), (24, 28), (23, 28), (22, 28), (3, 28), (25, 27), (24, 27), (23, 27), (22, 27), (3, 27), (25, 26), (24, 26), (23, 26), (22, 26), (3, 26), (25, 25), (24, 25), (23, 25), (22, 25), (3, 25), (25, 24), (24, 24), (23, 24), (22, 24), (3, 24), (21, 2), (20, 2), (19, 2), (2, 2), (18, 2), (17, 2), (16, 2), (15, 2), (14, 2), (13, 2), (12, 2), (1, 2), (31, 2), (30, 2), (29, 2), (28, 2), (27, 2), (26, 2), (4, 2), (40, 2), (39, 2), (38, 2), (37, 2), (36, 2), (35, 2), (34, 2), (33, 2), (32, 2), (5, 2)]
def k_keysW3 : List (Nat × Nat) := [(43, 3), (7, 3), (25, 47), (24, 47), (23, 47), (22, 47), (3, 47), (25, 46), (24, 46), (23, 46), (22, 46), (3, 46), (25, 45), (24, 45), (23, 45), (22, 45), (3, 45), (25, 44), (24, 44), (23, 44), (22, 44), (3, 44), (25, 43), (24, 43), (23, 43), (22, 43), (3, 43), (25, 42), (24, 42), (23, 42), (22, 42), (3, 42), (25, 41), (24, 41), (23, 41), (22, 41), (3, 41), (25, 40), (24, 40), (23, 40), (22, 40), (3, 40), (25, 39), (24, 39), (23, 39), (22, 39), (3, 39), (25, 38), (24, 38), (23, 38), (22, 38), (3, 38), (25, 37), (24, 37), (23, 37), (22, 37), (3, 37), (25, 36), (24, 36), (23, 36), (22, 36), (3, 36), (21, 3), (20, 3), (19, 3), (2, 3), (18, 3), (17, 3), (16, 3), (15, 3), (14, 3), (13, 3), (12, 3), (1, 3), (31, 3), (30, 3), (29, 3), (28, 3), (27, 3), (26, 3), (4, 3), (40, 3), (39, 3), (38, 3), (37, 3), (36, 3), (35, 3), (34, 3), (33, 3), (32, 3), (5, 3)]
def k_keysW4 : List (Nat × Nat) := [(43, 4), (7, 4), (25, 59), (24, 59), (23, 59), (22, 59), (3, 59), (25, 58), (24, 58), (23, 58), (22, 58), (3, 58), (25, 57), (24, 57), (23, 57), (22, 57), (3, 57), (25, 56), (24, 56), (23, 56), (22, 56), (3, 56), (25, 55), (24, 55), (23, 55), (22, 55), (3, 55), (25, 54), (24, 54), (23, 54), (22, 54), (3, 54), (25, 53), (24, 53), (23, 53), (22, 53), (3, 53), (25, 52), (24, 52), (23, 52), (22, 52), (3, 52), (25, 51), (24, 51), (23, 51), (22, 51), (3, 51), (25, 50), (24, 50), (23, 50), (22, 50), (3, 50), (25, 49), (24, 49), (23, 49), (22, 49), (3, 49), (25, 48), (24, 48), (23, 48), (22, 48), (3, 48), (21, 4), (20, 4), (19, 4), (2, 4), (18, 4), (17, 4), (16, 4), (15, 4), (14, 4), (13, 4), (12, 4), (1, 4), (31, 4), (30, 4), (29, 4), (28, 4), (27, 4), (26, 4), (4, 4), (40, 4), (39, 4), (38, 4), (37, 4), (36, 4), (35, 4), (34, 4), (33, 4), (32, 4), (5, 4)]
def k_keysC : List (Nat × Nat) := [(46, 0), (45, 0), (44, 0), (8, 0)] ++ (k_keysW4 ++ (k_keysW3 ++ (k_keysW2 ++ (k_keysW1 ++ (k_keysW0 ++ ([(11, 0), (10, 0), (0, 0)] ++ ([(42, 0), (41, 0), (6, 0), (40, 5), (39, 5), (38, 5), (37, 5), (36, 5), (35, 5), (34, 5), (33, 5), (32, 5), (5, 5)] ++ [])))))))
def k_pl (t : gT) (q tx er rd kp ca cv cs : Nat) (adR wq : Nat → Nat) (adW : Nat → Nat → Nat) : gT := (t.1, t.2.1, k_ad q tx er rd kp ca cv cs adR wq adW, k_keysC, t.2.2.2.2)
def k_M0 : gM := (fun k _ => match k with
  | 7 => (fun i => if i = 1 then 1 else 0)
  | 12 => (upd (upd (upd (upd (upd (upd (upd (upd (upd (upd (upd (upd (upd (upd (upd (upd (fun _ => 0) (0 : Int32).toNatClampNeg 1) (1 : Int32).toNatClampNeg 1) (2 : Int32).toNatClampNeg 1) (3 : Int32).toNatClampNeg 1) (4 : Int32).toNatClampNeg 1) (5 : Int32).toNatClampNeg 1) (6 : Int32).toNatClampNeg 1) (7 : Int32).toNatClampNeg 1) (8 : Int32).toNatClampNeg 1) (9 : Int32).toNatClampNeg 1) (10 : Int32).toNatClampNeg 1) (11 : Int32).toNatClampNeg 1) (12 : Int32).toNatClampNeg 1) (13 : Int32).toNatClampNeg 1) (14 : Int32).toNatClampNeg 1) (15 : Int32).toNatClampNeg 1)
  | 45 => (upd (upd (upd (fun _ => 0) (0 : Int32).toNatClampNeg (-1)) (1 : Int32).toNatClampNeg (-1)) (2 : Int32).toNatClampNeg (-1))
  | _ => (fun _ => 0), fun _ _ _ => 0)
def gl_R (x y : Nat × va_E) : Prop := x.1 = y.1 ∧ ∀ (D : va_G) (H : Heap), va_at D vwCl x H → va_at D vwCl y H
def gl_All : va_W → va_W → Prop
  | [], [] => True
  | x :: xs, y :: ys => gl_R x y ∧ gl_All xs ys
  | _, _ => False
theorem gl_nil : gl_All [] [] := trivial
theorem gl_cons {x y : Nat × va_E} {xs ys : va_W} (h : gl_R x y) (t : gl_All xs ys) : gl_All (x :: xs) (y :: ys) := ⟨h, t⟩
theorem gl_app {a a' b b' : va_W} (h : gl_All a a') (t : gl_All b b') : gl_All (a ++ b) (a' ++ b') := by
  induction a generalizing a' with
  | nil => cases a' with
    | nil => exact t
    | cons y ys => exact h.elim
  | cons x xs ih => cases a' with
    | nil => exact h.elim
    | cons y ys => exact ⟨h.1, ih h.2⟩
theorem gl_All_P {t : gT} {ws ws' : va_W} (h : gl_All ws ws') {H : Heap} (hp : gl_P t ws H) : gl_P t ws' H := by
  have h1 : ws.map (fun x => x.1) = ws'.map (fun x => x.1) := by
    clear hp
    induction ws generalizing ws' with
    | nil => cases ws' with
      | nil => rfl
      | cons y ys => exact h.elim
    | cons x xs ih => cases ws' with
      | nil => exact h.elim
      | cons y ys => rw [List.map_cons, List.map_cons, h.1.1, ih h.2]
  refine ⟨?_, ?_⟩
  · have h2 : ∀ x ∈ ws', va_at (gD t) vwCl x H := by
      have hb : ∀ x ∈ ws, va_at (gD t) vwCl x H := fun x hx => by
        obtain ⟨j, hj⟩ := List.getElem?_of_mem hx
        exact hp.1 j x hj
      clear hp h1
      induction ws generalizing ws' with
      | nil => cases ws' with
        | nil => intro x hx; cases hx
        | cons y ys => exact h.elim
      | cons x xs ih => cases ws' with
        | nil => exact h.elim
        | cons y ys =>
          intro z hz
          rcases List.mem_cons.mp hz with e | e
          · rw [e]; exact h.1.2 _ _ (hb x List.mem_cons_self)
          · exact ih h.2 (fun z hz => hb z (List.mem_cons_of_mem _ hz)) z e
    exact fun k q hk => h2 q (List.mem_of_getElem? hk)
  · have hd := gl_D_iff.mp hp.2
    refine gl_D_iff.mpr ⟨h1 ▸ hd.1, fun y hy => ?_⟩
    have : y.1 ∈ ws.map (fun x => x.1) := by rw [h1]; exact List.mem_map.mpr ⟨y, hy, rfl⟩
    obtain ⟨x, hx, e⟩ := List.mem_map.mp this
    have := hd.2 x hx
    rwa [e] at this
theorem g_arrV_congr {cA : ClassId} {n : Nat} {f g : Nat → Value} (h : ∀ j, j < n → f j = g j) : arrV cA n f = arrV cA n g := by
  have e : (fun j : Fin n => f j.val) = (fun j : Fin n => g j.val) := funext fun j => h j.val j.isLt
  unfold arrV
  rw [e]
theorem gl_arrR {a : Nat} {cA : ClassId} {n : Nat} {f g : Nat → Option Nat} (h : ∀ j, j < n → f j = g j) : gl_R (a, .inl (cA, n, .inr (.inr (.inr (.inr f))))) (a, .inl (cA, n, .inr (.inr (.inr (.inr g))))) := by
  refine ⟨rfl, fun D H hv => ?_⟩
  have e : vp_cell cA (n, .inr (.inr (.inr (.inr f)))) = vp_cell cA (n, .inr (.inr (.inr (.inr g)))) := by
    rw [vp_cell_q, vp_cell_q]
    exact g_arrV_congr (fun j hj => by rw [h j hj])
  exact hv.trans (congrArg some e)
set_option maxRecDepth 100000 in
set_option maxHeartbeats 8000000 in
theorem tr_W0 (t : gT) (q tx er rd kp ca cv cs : Nat) (adR wq : Nat → Nat) (adW : Nat → Nat → Nat) : gl_All (kX7 t (wq 0) ca (adW 0)) ((k_keysW0).map (fun x => (gAd (k_pl t q tx er rd kp ca cv cs adR wq adW) x.1 x.2, g_cell (k_pl t q tx er rd kp ca cv cs adR wq adW) x.1 x.2 (k_M0.1 x.1 x.2) (k_M0.2 x.1 x.2)))) := by
  refine gl_cons (gl_arrR (fun j hj => by rcases (show j = 0 ∨ j = 1 ∨ j = 2 ∨ j = 3 ∨ j = 4 ∨ j = 5 ∨ j = 6 ∨ j = 7 ∨ j = 8 ∨ j = 9 ∨ j = 10 ∨ j = 11 by omega) with rfl | rfl | rfl | rfl | rfl | rfl | rfl | rfl | rfl | rfl | rfl | rfl <;> rfl)) ?_
  refine gl_cons ⟨rfl, fun _ _ h => h⟩ ?_
  refine gl_cons ⟨rfl, fun _ _ h => h⟩ ?_
  refine gl_cons ⟨rfl, fun _ _ h => h⟩ ?_
  refine gl_cons ⟨rfl, fun _ _ h => h⟩ ?_
  refine gl_cons ⟨rfl, fun _ _ h => h⟩ ?_
  refine gl_cons ⟨rfl, fun _ _ h => h⟩ ?_
  refine gl_cons ⟨rfl, fun _ _ h => h⟩ ?_
  refine gl_cons ⟨rfl, fun _ _ h => h⟩ ?_
  refine gl_cons ⟨rfl, fun _ _ h => h⟩ ?_
  refine gl_cons ⟨rfl, fun _ _ h => h⟩ ?_
  refine gl_cons ⟨rfl, fun _ _ h => h⟩ ?_
  refine gl_cons ⟨rfl, fun _ _ h => h⟩ ?_
  refine gl_cons ⟨rfl, fun _ _ h => h⟩ ?_
  refine gl_cons ⟨rfl, fun _ _ h => h⟩ ?_
  refine gl_cons ⟨rfl, fun _ _ h => h⟩ ?_
  refine gl_cons ⟨rfl, fun _ _ h => h⟩ ?_
  refine gl_cons ⟨rfl, fun _ _ h => h⟩ ?_
  refine gl_cons ⟨rfl, fun _ _ h => h⟩ ?_
  refine gl_cons ⟨rfl, fun _ _ h => h⟩ ?_
  refine gl_cons ⟨rfl, fun _ _ h => h⟩ ?_
  refine gl_cons ⟨rfl, fun _ _ h => h⟩ ?_
  refine gl_cons ⟨rfl, fun _ _ h => h⟩ ?_
  refine gl_cons ⟨rfl, fun _ _ h => h⟩ ?_
  refine gl_cons ⟨rfl, fun _ _ h => h⟩ ?_
  refine gl_cons ⟨rfl, fun _ _ h => h⟩ ?_
  refine gl_cons ⟨rfl, fun _ _ h => h⟩ ?_
  refine gl_cons ⟨rfl, fun _ _ h => h⟩ ?_
  refine gl_cons ⟨rfl, fun _ _ h => h⟩ ?_
  refine gl_cons ⟨rfl, fun _ _ h => h⟩ ?_
  refine gl_cons ⟨rfl, fun _ _ h => h⟩ ?_
  refine gl_cons ⟨rfl, fun _ _ h => h⟩ ?_
  refine gl_cons ⟨rfl, fun _ _ h => h⟩ ?_
  refine gl_cons ⟨rfl, fun _ _ h => h⟩ ?_
  refine gl_cons ⟨rfl, fun _ _ h => h⟩ ?_
  refine gl_cons ⟨rfl, fun _ _ h => h⟩ ?_
  refine gl_cons ⟨rfl, fun _ _ h => h⟩ ?_
  refine gl_cons ⟨rfl, fun _ _ h => h⟩ ?_
  refine gl_cons ⟨rfl, fun _ _ h => h⟩ ?_
  refine gl_cons ⟨rfl, fun _ _ h => h⟩ ?_
  refine gl_cons ⟨rfl, fun _ _ h => h⟩ ?_
  refine gl_cons ⟨rfl, fun _ _ h => h⟩ ?_
  refine gl_cons ⟨rfl, fun _ _ h => h⟩ ?_
  refine gl_cons ⟨rfl, fun _ _ h => h⟩ ?_
  refine gl_cons ⟨rfl, fun _ _ h => h⟩ ?_
  refine gl_cons ⟨rfl, fun _ _ h => h⟩ ?_
  refine gl_cons ⟨rfl, fun _ _ h => h⟩ ?_
  refine gl_cons ⟨rfl, fun _ _ h => h⟩ ?_
  refine gl_cons ⟨rfl, fun _ _ h => h⟩ ?_
  refine gl_cons ⟨rfl, fun _ _ h => h⟩ ?_
  refine gl_cons ⟨rfl, fun _ _ h => h⟩ ?_
  refine gl_cons ⟨rfl, fun _ _ h => h⟩ ?_
  refine gl_cons ⟨rfl, fun _ _ h => h⟩ ?_
  refine gl_cons ⟨rfl, fun _ _ h => h⟩ ?_
  refine gl_cons ⟨rfl, fun _ _ h => h⟩ ?_
  refine gl_cons ⟨rfl, fun _ _ h => h⟩ ?_
  refine gl_cons ⟨rfl, fun _ _ h => h⟩ ?_
  refine gl_cons ⟨rfl, fun _ _ h => h⟩ ?_
  refine gl_cons ⟨rfl, fun _ _ h => h⟩ ?_
  refine gl_cons ⟨rfl, fun _ _ h => h⟩ ?_
  refine gl_cons ⟨rfl, fun _ _ h => h⟩ ?_
  refine gl_cons ⟨rfl, fun _ _ h => h⟩ ?_
  refine gl_cons ⟨rfl, fun _ _ h => h⟩ ?_
  refine gl_cons ⟨rfl, fun _ _ h => h⟩ ?_
  refine gl_cons ⟨rfl, fun _ _ h => h⟩ ?_
  refine gl_cons ⟨rfl, fun _ _ h => h⟩ ?_
  refine gl_cons ⟨rfl, fun _ _ h => h⟩ ?_
  refine gl_cons ⟨rfl, fun _ _ h => h⟩ ?_
  refine gl_cons ⟨rfl, fun _ _ h => h⟩ ?_
  refine gl_cons ⟨rfl, fun _ _ h => h⟩ ?_
  refine gl_cons ⟨rfl, fun _ _ h => h⟩ ?_
  refine gl_cons ⟨rfl, fun _ _ h => h⟩ ?_
  refine gl_cons ⟨rfl, fun _ _ h => h⟩ ?_
  refine gl_cons ⟨rfl, fun _ _ h => h⟩ ?_
  refine gl_cons ⟨rfl, fun _ _ h => h⟩ ?_
  refine gl_cons ⟨rfl, fun _ _ h => h⟩ ?_
  refine gl_cons ⟨rfl, fun _ _ h => h⟩ ?_
  refine gl_cons ⟨rfl, fun _ _ h => h⟩ ?_
  refine gl_cons ⟨rfl, fun _ _ h => h⟩ ?_
  refine gl_cons ⟨rfl, fun _ _ h => h⟩ ?_
  refine gl_cons ⟨rfl, fun _ _ h => h⟩ ?_
  refine gl_cons ⟨rfl, fun _ _ h => h⟩ ?_
  refine gl_cons ⟨rfl, fun _ _ h => h⟩ ?_
  refine gl_cons ⟨rfl, fun _ _ h => h⟩ ?_
  refine gl_cons ⟨rfl, fun _ _ h => h⟩ ?_
  refine gl_cons ⟨rfl, fun _ _ h => h⟩ ?_
  refine gl_cons ⟨rfl, fun _ _ h => h⟩ ?_
  refine gl_cons ⟨rfl, fun _ _ h => h⟩ ?_
  refine gl_cons ⟨rfl, fun _ _ h => h⟩ ?_
  refine gl_cons ⟨rfl, fun _ _ h => h⟩ ?_
  refine gl_cons ⟨rfl, fun _ _ h => h⟩ ?_
  exact gl_nil
set_option maxRecDepth 100000 in
set_option maxHeartbeats 8000000 in
theorem tr_W1 (t : gT) (q tx er rd kp ca cv cs : Nat) (adR wq : Nat → Nat) (adW : Nat → Nat → Nat) : gl_All (kX7 t (wq 1) ca (adW 1)) ((k_keysW1).map (fun x => (gAd (k_pl t q tx er rd kp ca cv cs adR wq adW) x.1 x.2, g_cell (k_pl t q tx er rd kp ca cv cs adR wq adW) x.1 x.2 (k_M0.1 x.1 x.2) (k_M0.2 x.1 x.2)))) := by
  refine gl_cons (gl_arrR (fun j hj => by rcases (show j = 0 ∨ j = 1 ∨ j = 2 ∨ j = 3 ∨ j = 4 ∨ j = 5 ∨ j = 6 ∨ j = 7 ∨ j = 8 ∨ j = 9 ∨ j = 10 ∨ j = 11 by omega) with rfl | rfl | rfl | rfl | rfl | rfl | rfl | rfl | rfl | rfl | rfl | rfl <;> rfl)) ?_
  refine gl_cons ⟨rfl, fun _ _ h => h⟩ ?_
  refine gl_cons ⟨rfl, fun _ _ h => h⟩ ?_
  refine gl_cons ⟨rfl, fun _ _ h => h⟩ ?_
  refine gl_cons ⟨rfl, fun _ _ h => h⟩ ?_
  refine gl_cons ⟨rfl, fun _ _ h => h⟩ ?_
  refine gl_cons ⟨rfl, fun _ _ h => h⟩ ?_
  refine gl_cons ⟨rfl, fun _ _ h => h⟩ ?_
  refine gl_cons ⟨rfl, fun _ _ h => h⟩ ?_
  refine gl_cons ⟨rfl, fun _ _ h => h⟩ ?_
  refine gl_cons ⟨rfl, fun _ _ h => h⟩ ?_
  refine gl_cons ⟨rfl, fun _ _ h => h⟩ ?_
  refine gl_cons ⟨rfl, fun _ _ h => h⟩ ?_
  refine gl_cons ⟨rfl, fun _ _ h => h⟩ ?_
  refine gl_cons ⟨rfl, fun _ _ h => h⟩ ?_
  refine gl_cons ⟨rfl, fun _ _ h => h⟩ ?_
  refine gl_cons ⟨rfl, fun _ _ h => h⟩ ?_
  refine gl_cons ⟨rfl, fun _ _ h => h⟩ ?_
  refine gl_cons ⟨rfl, fun _ _ h => h⟩ ?_
  refine gl_cons ⟨rfl, fun _ _ h => h⟩ ?_
  refine gl_cons ⟨rfl, fun _ _ h => h⟩ ?_
  refine gl_cons ⟨rfl, fun _ _ h => h⟩ ?_
  refine gl_cons ⟨rfl, fun _ _ h => h⟩ ?_
  refine gl_cons ⟨rfl, fun _ _ h => h⟩ ?_
  refine gl_cons ⟨rfl, fun _ _ h => h⟩ ?_
  refine gl_cons ⟨rfl, fun _ _ h => h⟩ ?_
  refine gl_cons ⟨rfl, fun _ _ h => h⟩ ?_
  refine gl_cons ⟨rfl, fun _ _ h => h⟩ ?_
  refine gl_cons ⟨rfl, fun _ _ h => h⟩ ?_
  refine gl_cons ⟨rfl, fun _ _ h => h⟩ ?_
  refine gl_cons ⟨rfl, fun _ _ h => h⟩ ?_
  refine gl_cons ⟨rfl, fun _ _ h => h⟩ ?_
  refine gl_cons ⟨rfl, fun _ _ h => h⟩ ?_
  refine gl_cons ⟨rfl, fun _ _ h => h⟩ ?_
  refine gl_cons ⟨rfl, fun _ _ h => h⟩ ?_
  refine gl_cons ⟨rfl, fun _ _ h => h⟩ ?_
  refine gl_cons ⟨rfl, fun _ _ h => h⟩ ?_
  refine gl_cons ⟨rfl, fun _ _ h => h⟩ ?_
  refine gl_cons ⟨rfl, fun _ _ h => h⟩ ?_
  refine gl_cons ⟨rfl, fun _ _ h => h⟩ ?_
  refine gl_cons ⟨rfl, fun _ _ h => h⟩ ?_
  refine gl_cons ⟨rfl, fun _ _ h => h⟩ ?_
  refine gl_cons ⟨rfl, fun _ _ h => h⟩ ?_
  refine gl_cons ⟨rfl, fun _ _ h => h⟩ ?_
  refine gl_cons ⟨rfl, fun _ _ h => h⟩ ?_
  refine gl_cons ⟨rfl, fun _ _ h => h⟩ ?_
  refine gl_cons ⟨rfl, fun _ _ h => h⟩ ?_
  refine gl_cons ⟨rfl, fun _ _ h => h⟩ ?_
  refine gl_cons ⟨rfl, fun _ _ h => h⟩ ?_
  refine gl_cons ⟨rfl, fun _ _ h => h⟩ ?_
  refine gl_cons ⟨rfl, fun _ _ h => h⟩ ?_
  refine gl_cons ⟨rfl, fun _ _ h => h⟩ ?_
  refine gl_cons ⟨rfl, fun _ _ h => h⟩ ?_
  refine gl_cons ⟨rfl, fun _ _ h => h⟩ ?_
  refine gl_cons ⟨rfl, fun _ _ h => h⟩ ?_
  refine gl_cons ⟨rfl, fun _ _ h => h⟩ ?_
  refine gl_cons ⟨rfl, fun _ _ h => h⟩ ?_
  refine gl_cons ⟨rfl, fun _ _ h => h⟩ ?_
  refine gl_cons ⟨rfl, fun _ _ h => h⟩ ?_
  refine gl_cons ⟨rfl, fun _ _ h => h⟩ ?_
  refine gl_cons ⟨rfl, fun _ _ h => h⟩ ?_
  refine gl_cons ⟨rfl, fun _ _ h => h⟩ ?_
  refine gl_cons ⟨rfl, fun _ _ h => h⟩ ?_
  refine gl_cons ⟨rfl, fun _ _ h => h⟩ ?_
  refine gl_cons ⟨rfl, fun _ _ h => h⟩ ?_
  refine gl_cons ⟨rfl, fun _ _ h => h⟩ ?_
  refine gl_cons ⟨rfl, fun _ _ h => h⟩ ?_
  refine gl_cons ⟨rfl, fun _ _ h => h⟩ ?_
  refine gl_cons ⟨rfl, fun _ _ h => h⟩ ?_
  refine gl_cons ⟨rfl, fun _ _ h => h⟩ ?_
  refine gl_cons ⟨rfl, fun _ _ h => h⟩ ?_
  refine gl_cons ⟨rfl, fun _ _ h => h⟩ ?_
  refine gl_cons ⟨rfl, fun _ _ h => h⟩ ?_
  refine gl_cons ⟨rfl, fun _ _ h => h⟩ ?_
  refine gl_cons ⟨rfl, fun _ _ h => h⟩ ?_
  refine gl_cons ⟨rfl, fun _ _ h => h⟩ ?_
  refine gl_cons ⟨rfl, fun _ _ h => h⟩ ?_
  refine gl_cons ⟨rfl, fun _ _ h => h⟩ ?_
  refine gl_cons ⟨rfl, fun _ _ h => h⟩ ?_
  refine gl_cons ⟨rfl, fun _ _ h => h⟩ ?_
  refine gl_cons ⟨rfl, fun _ _ h => h⟩ ?_
  refine gl_cons ⟨rfl, fun _ _ h => h⟩ ?_
  refine gl_cons ⟨rfl, fun _ _ h => h⟩ ?_
  refine gl_cons ⟨rfl, fun _ _ h => h⟩ ?_
  refine gl_cons ⟨rfl, fun _ _ h => h⟩ ?_
  refine gl_cons ⟨rfl, fun _ _ h => h⟩ ?_
  refine gl_cons ⟨rfl, fun _ _ h => h⟩ ?_
  refine gl_cons ⟨rfl, fun _ _ h => h⟩ ?_
  refine gl_cons ⟨rfl, fun _ _ h => h⟩ ?_
  refine gl_cons ⟨rfl, fun _ _ h => h⟩ ?_
  refine gl_cons ⟨rfl, fun _ _ h => h⟩ ?_
  exact gl_nil
set_option maxRecDepth 100000 in
set_option maxHeartbeats 8000000 in
theorem tr_W2 (t : gT) (q tx er rd kp ca cv cs : Nat) (adR wq : Nat → Nat) (adW : Nat → Nat → Nat) : gl_All (kX7 t (wq 2) ca (adW 2)) ((k_keysW2).map (fun x => (gAd (k_pl t q tx er rd kp ca cv cs adR wq adW) x.1 x.2, g_cell (k_pl t q tx er rd kp ca cv cs adR wq adW) x.1 x.2 (k_M0.1 x.1 x.2) (k_M0.2 x.1 x.2)))) := by
  refine gl_cons (gl_arrR (fun j hj => by rcases (show j = 0 ∨ j = 1 ∨ j = 2 ∨ j = 3 ∨ j = 4 ∨ j = 5 ∨ j = 6 ∨ j = 7 ∨ j = 8 ∨ j = 9 ∨ j = 10 ∨ j = 11 by omega) with rfl | rfl | rfl | rfl | rfl | rfl | rfl | rfl | rfl | rfl | rfl | rfl <;> rfl)) ?_
  refine gl_cons ⟨rfl, fun _ _ h => h⟩ ?_
  refine gl_cons ⟨rfl, fun _ _ h => h⟩ ?_
  refine gl_cons ⟨rfl, fun _ _ h => h⟩ ?_
  refine gl_cons ⟨rfl, fun _ _ h => h⟩ ?_
  refine gl_cons ⟨rfl, fun _ _ h => h⟩ ?_
  refine gl_cons ⟨rfl, fun _ _ h => h⟩ ?_
  refine gl_cons ⟨rfl, fun _ _ h => h⟩ ?_
  refine gl_cons ⟨rfl, fun _ _ h => h⟩ ?_
  refine gl_cons ⟨rfl, fun _ _ h => h⟩ ?_
  refine gl_cons ⟨rfl, fun _ _ h => h⟩ ?_
  refine gl_cons ⟨rfl, fun _ _ h => h⟩ ?_
  refine gl_cons ⟨rfl, fun _ _ h => h⟩ ?_
  refine gl_cons ⟨rfl, fun _ _ h => h⟩ ?_
  refine gl_cons ⟨rfl, fun _ _ h => h⟩ ?_
  refine gl_cons ⟨rfl, fun _ _ h => h⟩ ?_
  refine gl_cons ⟨rfl, fun _ _ h => h⟩ ?_
  refine gl_cons ⟨rfl, fun _ _ h => h⟩ ?_
  refine gl_cons ⟨rfl, fun _ _ h => h⟩ ?_
  refine gl_cons ⟨rfl, fun _ _ h => h⟩ ?_
  refine gl_cons ⟨rfl, fun _ _ h => h⟩ ?_
  refine gl_cons ⟨rfl, fun _ _ h => h⟩ ?_
  refine gl_cons ⟨rfl, fun _ _ h => h⟩ ?_
  refine gl_cons ⟨rfl, fun _ _ h => h⟩ ?_
  refine gl_cons ⟨rfl, fun _ _ h => h⟩ ?_
  refine gl_cons ⟨rfl, fun _ _ h => h⟩ ?_
  refine gl_cons ⟨rfl, fun _ _ h => h⟩ ?_
  refine gl_cons ⟨rfl, fun _ _ h => h⟩ ?_
  refine gl_cons ⟨rfl, fun _ _ h => h⟩ ?_
  refine gl_cons ⟨rfl, fun _ _ h => h⟩ ?_
  refine gl_cons ⟨rfl, fun _ _ h => h⟩ ?_
  refine gl_cons ⟨rfl, fun _ _ h => h⟩ ?_
  refine gl_cons ⟨rfl, fun _ _ h => h⟩ ?_
  refine gl_cons ⟨rfl, fun _ _ h => h⟩ ?_
  refine gl_cons ⟨rfl, fun _ _ h => h⟩ ?_
  refine gl_cons ⟨rfl, fun _ _ h => h⟩ ?_
  refine gl_cons ⟨rfl, fun _ _ h => h⟩ ?_
  refine gl_cons ⟨rfl, fun _ _ h => h⟩ ?_
  refine gl_cons ⟨rfl, fun _ _ h => h⟩ ?_
  refine gl_cons ⟨rfl, fun _ _ h => h⟩ ?_
  refine gl_cons ⟨rfl, fun _ _ h => h⟩ ?_
  refine gl_cons ⟨rfl, fun _ _ h => h⟩ ?_
  refine gl_cons ⟨rfl, fun _ _ h => h⟩ ?_
  refine gl_cons ⟨rfl, fun _ _ h => h⟩ ?_
  refine gl_cons ⟨rfl, fun _ _ h => h⟩ ?_
  refine gl_cons ⟨rfl, fun _ _ h => h⟩ ?_
  refine gl_cons ⟨rfl, fun _ _ h => h⟩ ?_
  refine gl_cons ⟨rfl, fun _ _ h => h⟩ ?_
  refine gl_cons ⟨rfl, fun _ _ h => h⟩ ?_
  refine gl_cons ⟨rfl, fun _ _ h => h⟩ ?_
  refine gl_cons ⟨rfl, fun _ _ h => h⟩ ?_
  refine gl_cons ⟨rfl, fun _ _ h => h⟩ ?_
  refine gl_cons ⟨rfl, fun _ _ h => h⟩ ?_
  refine gl_cons ⟨rfl, fun _ _ h => h⟩ ?_
  refine gl_cons ⟨rfl, fun _ _ h => h⟩ ?_
  refine gl_cons ⟨rfl, fun _ _ h => h⟩ ?_
  refine gl_cons ⟨rfl, fun _ _ h => h⟩ ?_
  refine gl_cons ⟨rfl, fun _ _ h => h⟩ ?_
  refine gl_cons ⟨rfl, fun _ _ h => h⟩ ?_
  refine gl_cons ⟨rfl, fun _ _ h => h⟩ ?_
  refine gl_cons ⟨rfl, fun _ _ h => h⟩ ?_
  refine gl_cons ⟨rfl, fun _ _ h => h⟩ ?_
  refine gl_cons ⟨rfl, fun _ _ h => h⟩ ?_
  refine gl_cons ⟨rfl, fun _ _ h => h⟩ ?_
  refine gl_cons ⟨rfl, fun _ _ h => h⟩ ?_
  refine gl_cons ⟨rfl, fun _ _ h => h⟩ ?_
  refine gl_cons ⟨rfl, fun _ _ h => h⟩ ?_
  refine gl_cons ⟨rfl, fun _ _ h => h⟩ ?_
  refine gl_cons ⟨rfl, fun _ _ h => h⟩ ?_
  refine gl_cons ⟨rfl, fun _ _ h => h⟩ ?_
  refine gl_cons ⟨rfl, fun _ _ h => h⟩ ?_
  refine gl_cons ⟨rfl, fun _ _ h => h⟩ ?_
  refine gl_cons ⟨rfl, fun _ _ h => h⟩ ?_
  refine gl_cons ⟨rfl, fun _ _ h => h⟩ ?_
  refine gl_cons ⟨rfl, fun _ _ h => h⟩ ?_
  refine gl_cons ⟨rfl, fun _ _ h => h⟩ ?_
  refine gl_cons ⟨rfl, fun _ _ h => h⟩ ?_
  refine gl_cons ⟨rfl, fun _ _ h => h⟩ ?_
  refine gl_cons ⟨rfl, fun _ _ h => h⟩ ?_
  refine gl_cons ⟨rfl, fun _ _ h => h⟩ ?_
  refine gl_cons ⟨rfl, fun _ _ h => h⟩ ?_
  refine gl_cons ⟨rfl, fun _ _ h => h⟩ ?_
  refine gl_cons ⟨rfl, fun _ _ h => h⟩ ?_
  refine gl_cons ⟨rfl, fun _ _ h => h⟩ ?_
  refine gl_cons ⟨rfl, fun _ _ h => h⟩ ?_
  refine gl_cons ⟨rfl, fun _ _ h => h⟩ ?_
  refine gl_cons ⟨rfl, fun _ _ h => h⟩ ?_
  refine gl_cons ⟨rfl, fun _ _ h => h⟩ ?_
  refine gl_cons ⟨rfl, fun _ _ h => h⟩ ?_
  refine gl_cons ⟨rfl, fun _ _ h => h⟩ ?_
  refine gl_cons ⟨rfl, fun _ _ h => h⟩ ?_
  exact gl_nil
set_option maxRecDepth 100000 in
set_option maxHeartbeats 8000000 in
theorem tr_W3 (t : gT) (q tx er rd kp ca cv cs : Nat) (adR wq : Nat → Nat) (adW : Nat → Nat → Nat) : gl_All (kX7 t (wq 3) ca (adW 3)) ((k_keysW3).map (fun x => (gAd (k_pl t q tx er rd kp ca cv cs adR wq adW) x.1 x.2, g_cell (k_pl t q tx er rd kp ca cv cs adR wq adW) x.1 x.2 (k_M0.1 x.1 x.2) (k_M0.2 x.1 x.2)))) := by
  refine gl_cons (gl_arrR (fun j hj => by rcases (show j = 0 ∨ j = 1 ∨ j = 2 ∨ j = 3 ∨ j = 4 ∨ j = 5 ∨ j = 6 ∨ j = 7 ∨ j = 8 ∨ j = 9 ∨ j = 10 ∨ j = 11 by omega) with rfl | rfl | rfl | rfl | rfl | rfl | rfl | rfl | rfl | rfl | rfl | rfl <;> rfl)) ?_
  refine gl_cons ⟨rfl, fun _ _ h => h⟩ ?_
  refine gl_cons ⟨rfl, fun _ _ h => h⟩ ?_
  refine gl_cons ⟨rfl, fun _ _ h => h⟩ ?_
  refine gl_cons ⟨rfl, fun _ _ h => h⟩ ?_
  refine gl_cons ⟨rfl, fun _ _ h => h⟩ ?_
  refine gl_cons ⟨rfl, fun _ _ h => h⟩ ?_
  refine gl_cons ⟨rfl, fun _ _ h => h⟩ ?_
  refine gl_cons ⟨rfl, fun _ _ h => h⟩ ?_
  refine gl_cons ⟨rfl, fun _ _ h => h⟩ ?_
  refine gl_cons ⟨rfl, fun _ _ h => h⟩ ?_
  refine gl_cons ⟨rfl, fun _ _ h => h⟩ ?_
  refine gl_cons ⟨rfl, fun _ _ h => h⟩ ?_
  refine gl_cons ⟨rfl, fun _ _ h => h⟩ ?_
  refine gl_cons ⟨rfl, fun _ _ h => h⟩ ?_
  refine gl_cons ⟨rfl, fun _ _ h => h⟩ ?_
  refine gl_cons ⟨rfl, fun _ _ h => h⟩ ?_
  refine gl_cons ⟨rfl, fun _ _ h => h⟩ ?_
  refine gl_cons ⟨rfl, fun _ _ h => h⟩ ?_
  refine gl_cons ⟨rfl, fun _ _ h => h⟩ ?_
  refine gl_cons ⟨rfl, fun _ _ h => h⟩ ?_
  refine gl_cons ⟨rfl, fun _ _ h => h⟩ ?_
  refine gl_cons ⟨rfl, fun _ _ h => h⟩ ?_
  refine gl_cons ⟨rfl, fun _ _ h => h⟩ ?_
  refine gl_cons ⟨rfl, fun _ _ h => h⟩ ?_
  refine gl_cons ⟨rfl, fun _ _ h => h⟩ ?_
  refine gl_cons ⟨rfl, fun _ _ h => h⟩ ?_
  refine gl_cons ⟨rfl, fun _ _ h => h⟩ ?_
  refine gl_cons ⟨rfl, fun _ _ h => h⟩ ?_
  refine gl_cons ⟨rfl, fun _ _ h => h⟩ ?_
  refine gl_cons ⟨rfl, fun _ _ h => h⟩ ?_
  refine gl_cons ⟨rfl, fun _ _ h => h⟩ ?_
  refine gl_cons ⟨rfl, fun _ _ h => h⟩ ?_
  refine gl_cons ⟨rfl, fun _ _ h => h⟩ ?_
  refine gl_cons ⟨rfl, fun _ _ h => h⟩ ?_
  refine gl_cons ⟨rfl, fun _ _ h => h⟩ ?_
  refine gl_cons ⟨rfl, fun _ _ h => h⟩ ?_
  refine gl_cons ⟨rfl, fun _ _ h => h⟩ ?_
  refine gl_cons ⟨rfl, fun _ _ h => h⟩ ?_
  refine gl_cons ⟨rfl, fun _ _ h => h⟩ ?_
  refine gl_cons ⟨rfl, fun _ _ h => h⟩ ?_
  refine gl_cons ⟨rfl, fun _ _ h => h⟩ ?_
  refine gl_cons ⟨rfl, fun _ _ h => h⟩ ?_
  refine gl_cons ⟨rfl, fun _ _ h => h⟩ ?_
  refine gl_cons ⟨rfl, fun _ _ h => h⟩ ?_
  refine gl_cons ⟨rfl, fun _ _ h => h⟩ ?_
  refine gl_cons ⟨rfl, fun _ _ h => h⟩ ?_
  refine gl_cons ⟨rfl, fun _ _ h => h⟩ ?_
  refine gl_cons ⟨rfl, fun _ _ h => h⟩ ?_
  refine gl_cons ⟨rfl, fun _ _ h => h⟩ ?_
  refine gl_cons ⟨rfl, fun _ _ h => h⟩ ?_
  refine gl_cons ⟨rfl, fun _ _ h => h⟩ ?_
  refine gl_cons ⟨rfl, fun _ _ h => h⟩ ?_
  refine gl_cons ⟨rfl, fun _ _ h => h⟩ ?_
  refine gl_cons ⟨rfl, fun _ _ h => h⟩ ?_
  refine gl_cons ⟨rfl, fun _ _ h => h⟩ ?_
  refine gl_cons ⟨rfl, fun _ _ h => h⟩ ?_
  refine gl_cons ⟨rfl, fun _ _ h => h⟩ ?_
  refine gl_cons ⟨rfl, fun _ _ h => h⟩ ?_
  refine gl_cons ⟨rfl, fun _ _ h => h⟩ ?_
  refine gl_cons ⟨rfl, fun _ _ h => h⟩ ?_
  refine gl_cons ⟨rfl, fun _ _ h => h⟩ ?_
  refine gl_cons ⟨rfl, fun _ _ h => h⟩ ?_
  refine gl_cons ⟨rfl, fun _ _ h => h⟩ ?_
  refine gl_cons ⟨rfl, fun _ _ h => h⟩ ?_
  refine gl_cons ⟨rfl, fun _ _ h => h⟩ ?_
  refine gl_cons ⟨rfl, fun _ _ h => h⟩ ?_
  refine gl_cons ⟨rfl, fun _ _ h => h⟩ ?_
  refine gl_cons ⟨rfl, fun _ _ h => h⟩ ?_
  refine gl_cons ⟨rfl, fun _ _ h => h⟩ ?_
  refine gl_cons ⟨rfl, fun _ _ h => h⟩ ?_
  refine gl_cons ⟨rfl, fun _ _ h => h⟩ ?_
  refine gl_cons ⟨rfl, fun _ _ h => h⟩ ?_
  refine gl_cons ⟨rfl, fun _ _ h => h⟩ ?_
  refine gl_cons ⟨rfl, fun _ _ h => h⟩ ?_
  refine gl_cons ⟨rfl, fun _ _ h => h⟩ ?_
  refine gl_cons ⟨rfl, fun _ _ h => h⟩ ?_
  refine gl_cons ⟨rfl, fun _ _ h => h⟩ ?_
  refine gl_cons ⟨rfl, fun _ _ h => h⟩ ?_
  refine gl_cons ⟨rfl, fun _ _ h => h⟩ ?_
  refine gl_cons ⟨rfl, fun _ _ h => h⟩ ?_
  refine gl_cons ⟨rfl, fun _ _ h => h⟩ ?_
  refine gl_cons ⟨rfl, fun _ _ h => h⟩ ?_
  refine gl_cons ⟨rfl, fun _ _ h => h⟩ ?_
  refine gl_cons ⟨rfl, fun _ _ h => h⟩ ?_
  refine gl_cons ⟨rfl, fun _ _ h => h⟩ ?_
  refine gl_cons ⟨rfl, fun _ _ h => h⟩ ?_
  refine gl_cons ⟨rfl, fun _ _ h => h⟩ ?_
  refine gl_cons ⟨rfl, fun _ _ h => h⟩ ?_
  refine gl_cons ⟨rfl, fun _ _ h => h⟩ ?_
  refine gl_cons ⟨rfl, fun _ _ h => h⟩ ?_
  exact gl_nil
set_option maxRecDepth 100000 in
set_option maxHeartbeats 8000000 in
theorem tr_W4 (t : gT) (q tx er rd kp ca cv cs : Nat) (adR wq : Nat → Nat) (adW : Nat → Nat → Nat) : gl_All (kX7 t (wq 4) ca (adW 4)) ((k_keysW4).map (fun x => (gAd (k_pl t q tx er rd kp ca cv cs adR wq adW) x.1 x.2, g_cell (k_pl t q tx er rd kp ca cv cs adR wq adW) x.1 x.2 (k_M0.1 x.1 x.2) (k_M0.2 x.1 x.2)))) := by
  refine gl_cons (gl_arrR (fun j hj => by rcases (show j = 0 ∨ j = 1 ∨ j = 2 ∨ j = 3 ∨ j = 4 ∨ j = 5 ∨ j = 6 ∨ j = 7 ∨ j = 8 ∨ j = 9 ∨ j = 10 ∨ j = 11 by omega) with rfl | rfl | rfl | rfl | rfl | rfl | rfl | rfl | rfl | rfl | rfl | rfl <;> rfl)) ?_
  refine gl_cons ⟨rfl, fun _ _ h => h⟩ ?_
  refine gl_cons ⟨rfl, fun _ _ h => h⟩ ?_
  refine gl_cons ⟨rfl, fun _ _ h => h⟩ ?_
  refine gl_cons ⟨rfl, fun _ _ h => h⟩ ?_
  refine gl_cons ⟨rfl, fun _ _ h => h⟩ ?_
  refine gl_cons ⟨rfl, fun _ _ h => h⟩ ?_
  refine gl_cons ⟨rfl, fun _ _ h => h⟩ ?_
  refine gl_cons ⟨rfl, fun _ _ h => h⟩ ?_
  refine gl_cons ⟨rfl, fun _ _ h => h⟩ ?_
  refine gl_cons ⟨rfl, fun _ _ h => h⟩ ?_
  refine gl_cons ⟨rfl, fun _ _ h => h⟩ ?_
  refine gl_cons ⟨rfl, fun _ _ h => h⟩ ?_
  refine gl_cons ⟨rfl, fun _ _ h => h⟩ ?_
  refine gl_cons ⟨rfl, fun _ _ h => h⟩ ?_
  refine gl_cons ⟨rfl, fun _ _ h => h⟩ ?_
  refine gl_cons ⟨rfl, fun _ _ h => h⟩ ?_
  refine gl_cons ⟨rfl, fun _ _ h => h⟩ ?_
  refine gl_cons ⟨rfl, fun _ _ h => h⟩ ?_
  refine gl_cons ⟨rfl, fun _ _ h => h⟩ ?_
  refine gl_cons ⟨rfl, fun _ _ h => h⟩ ?_
  refine gl_cons ⟨rfl, fun _ _ h => h⟩ ?_
  refine gl_cons ⟨rfl, fun _ _ h => h⟩ ?_
  refine gl_cons ⟨rfl, fun _ _ h => h⟩ ?_
  refine gl_cons ⟨rfl, fun _ _ h => h⟩ ?_
  refine gl_cons ⟨rfl, fun _ _ h => h⟩ ?_
  refine gl_cons ⟨rfl, fun _ _ h => h⟩ ?_
  refine gl_cons ⟨rfl, fun _ _ h => h⟩ ?_
  refine gl_cons ⟨rfl, fun _ _ h => h⟩ ?_
  refine gl_cons ⟨rfl, fun _ _ h => h⟩ ?_
  refine gl_cons ⟨rfl, fun _ _ h => h⟩ ?_
  refine gl_cons ⟨rfl, fun _ _ h => h⟩ ?_
  refine gl_cons ⟨rfl, fun _ _ h => h⟩ ?_
  refine gl_cons ⟨rfl, fun _ _ h => h⟩ ?_
  refine gl_cons ⟨rfl, fun _ _ h => h⟩ ?_
  refine gl_cons ⟨rfl, fun _ _ h => h⟩ ?_
  refine gl_cons ⟨rfl, fun _ _ h => h⟩ ?_
  refine gl_cons ⟨rfl, fun _ _ h => h⟩ ?_
  refine gl_cons ⟨rfl, fun _ _ h => h⟩ ?_
  refine gl_cons ⟨rfl, fun _ _ h => h⟩ ?_
  refine gl_cons ⟨rfl, fun _ _ h => h⟩ ?_
  refine gl_cons ⟨rfl, fun _ _ h => h⟩ ?_
  refine gl_cons ⟨rfl, fun _ _ h => h⟩ ?_
  refine gl_cons ⟨rfl, fun _ _ h => h⟩ ?_
  refine gl_cons ⟨rfl, fun _ _ h => h⟩ ?_
  refine gl_cons ⟨rfl, fun _ _ h => h⟩ ?_
  refine gl_cons ⟨rfl, fun _ _ h => h⟩ ?_
  refine gl_cons ⟨rfl, fun _ _ h => h⟩ ?_
  refine gl_cons ⟨rfl, fun _ _ h => h⟩ ?_
  refine gl_cons ⟨rfl, fun _ _ h => h⟩ ?_
  refine gl_cons ⟨rfl, fun _ _ h => h⟩ ?_
  refine gl_cons ⟨rfl, fun _ _ h => h⟩ ?_
  refine gl_cons ⟨rfl, fun _ _ h => h⟩ ?_
  refine gl_cons ⟨rfl, fun _ _ h => h⟩ ?_
  refine gl_cons ⟨rfl, fun _ _ h => h⟩ ?_
  refine gl_cons ⟨rfl, fun _ _ h => h⟩ ?_
  refine gl_cons ⟨rfl, fun _ _ h => h⟩ ?_
  refine gl_cons ⟨rfl, fun _ _ h => h⟩ ?_
  refine gl_cons ⟨rfl, fun _ _ h => h⟩ ?_
  refine gl_cons ⟨rfl, fun _ _ h => h⟩ ?_
  refine gl_cons ⟨rfl, fun _ _ h => h⟩ ?_
  refine gl_cons ⟨rfl, fun _ _ h => h⟩ ?_
  refine gl_cons ⟨rfl, fun _ _ h => h⟩ ?_
  refine gl_cons ⟨rfl, fun _ _ h => h⟩ ?_
  refine gl_cons ⟨rfl, fun _ _ h => h⟩ ?_
  refine gl_cons ⟨rfl, fun _ _ h => h⟩ ?_
  refine gl_cons ⟨rfl, fun _ _ h => h⟩ ?_
  refine gl_cons ⟨rfl, fun _ _ h => h⟩ ?_
  refine gl_cons ⟨rfl, fun _ _ h => h⟩ ?_
  refine gl_cons ⟨rfl, fun _ _ h => h⟩ ?_
  refine gl_cons ⟨rfl, fun _ _ h => h⟩ ?_
  refine gl_cons ⟨rfl, fun _ _ h => h⟩ ?_
  refine gl_cons ⟨rfl, fun _ _ h => h⟩ ?_
  refine gl_cons ⟨rfl, fun _ _ h => h⟩ ?_
  refine gl_cons ⟨rfl, fun _ _ h => h⟩ ?_
  refine gl_cons ⟨rfl, fun _ _ h => h⟩ ?_
  refine gl_cons ⟨rfl, fun _ _ h => h⟩ ?_
  refine gl_cons ⟨rfl, fun _ _ h => h⟩ ?_
  refine gl_cons ⟨rfl, fun _ _ h => h⟩ ?_
  refine gl_cons ⟨rfl, fun _ _ h => h⟩ ?_
  refine gl_cons ⟨rfl, fun _ _ h => h⟩ ?_
  refine gl_cons ⟨rfl, fun _ _ h => h⟩ ?_
  refine gl_cons ⟨rfl, fun _ _ h => h⟩ ?_
  refine gl_cons ⟨rfl, fun _ _ h => h⟩ ?_
  refine gl_cons ⟨rfl, fun _ _ h => h⟩ ?_
  refine gl_cons ⟨rfl, fun _ _ h => h⟩ ?_
  refine gl_cons ⟨rfl, fun _ _ h => h⟩ ?_
  refine gl_cons ⟨rfl, fun _ _ h => h⟩ ?_
  refine gl_cons ⟨rfl, fun _ _ h => h⟩ ?_
  refine gl_cons ⟨rfl, fun _ _ h => h⟩ ?_
  refine gl_cons ⟨rfl, fun _ _ h => h⟩ ?_
  exact gl_nil
set_option maxRecDepth 100000 in
set_option maxHeartbeats 8000000 in
theorem tr_R (t : gT) (q tx er rd kp ca cv cs : Nat) (adR wq : Nat → Nat) (adW : Nat → Nat → Nat) : gl_All (kX6 t rd adR) (([(42, 0), (41, 0), (6, 0), (40, 5), (39, 5), (38, 5), (37, 5), (36, 5), (35, 5), (34, 5), (33, 5), (32, 5), (5, 5)]).map (fun x => (gAd (k_pl t q tx er rd kp ca cv cs adR wq adW) x.1 x.2, g_cell (k_pl t q tx er rd kp ca cv cs adR wq adW) x.1 x.2 (k_M0.1 x.1 x.2) (k_M0.2 x.1 x.2)))) := by
  refine gl_cons ⟨rfl, fun _ _ h => h⟩ ?_
  refine gl_cons ⟨rfl, fun _ _ h => h⟩ ?_
  refine gl_cons ⟨rfl, fun _ _ h => h⟩ ?_
  refine gl_cons ⟨rfl, fun _ _ h => h⟩ ?_
  refine gl_cons ⟨rfl, fun _ _ h => h⟩ ?_
  refine gl_cons ⟨rfl, fun _ _ h => h⟩ ?_
  refine gl_cons ⟨rfl, fun _ _ h => h⟩ ?_
  refine gl_cons ⟨rfl, fun _ _ h => h⟩ ?_
  refine gl_cons ⟨rfl, fun _ _ h => h⟩ ?_
  refine gl_cons ⟨rfl, fun _ _ h => h⟩ ?_
  refine gl_cons ⟨rfl, fun _ _ h => h⟩ ?_
  refine gl_cons ⟨rfl, fun _ _ h => h⟩ ?_
  refine gl_cons ⟨rfl, fun _ _ h => h⟩ ?_
  exact gl_nil
set_option maxRecDepth 100000 in
set_option maxHeartbeats 8000000 in
theorem tr_C (t : gT) (q tx er rd kp ca cv cs : Nat) (adR wq : Nat → Nat) (adW : Nat → Nat → Nat) : gl_All (kX0 t ca cv cs) (([(11, 0), (10, 0), (0, 0)]).map (fun x => (gAd (k_pl t q tx er rd kp ca cv cs adR wq adW) x.1 x.2, g_cell (k_pl t q tx er rd kp ca cv cs adR wq adW) x.1 x.2 (k_M0.1 x.1 x.2) (k_M0.2 x.1 x.2)))) := by
  refine gl_cons ⟨rfl, fun _ _ h => h⟩ ?_
  refine gl_cons ⟨rfl, fun _ _ h => h⟩ ?_
  refine gl_cons ⟨rfl, fun _ _ h => h⟩ ?_
  exact gl_nil
