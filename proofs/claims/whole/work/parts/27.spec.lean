/-! what the calls do to an abstract world -/
def zbf (r : Nat) (e b : zE) : Bool := if e.2.1 = b.2.1 then (decide (r = 1) || decide (e.2.2.1 < b.2.2.1)) else decide (e.2.1 < b.2.1)
def zins (r : Nat) (e : zE) : List zE → List zE
  | [] => [e]
  | b :: l => if zbf r e b then e :: b :: l else b :: zins r e l
def zah (r : Nat) (a b : zE) : Bool := if a.2.1 = b.2.1 then (if a.2.2.1 = b.2.2.1 then (if r = 1 then decide (b.2.2.2.1 < a.2.2.2.1) else decide (a.2.2.2.1 < b.2.2.2.1)) else decide (a.2.2.1 < b.2.2.1)) else decide (a.2.1 < b.2.1)
def zleaf (S : zW) (x : Nat) : Prop := zN S 19 x = 0
def zkey (S : zW) (x item p : Nat) : Nat := if zN S 19 x = 0 then zN S 15 p else item
def zwt (S : zW) (x key : Nat) : Nat := if zN S 19 x = 0 then zN S 3 key else zN S 14 key
def zvar (S : zW) (x key : Nat) (pr len dl t r : Int64) : Nat → Int64
  | 0 => pr | 1 => len | 2 => dl | 3 => lN key | 4 => lN (zwt S x key) | 5 => zL S 5 (16 * x + key) | 6 => t | 7 => zL S 4 x | 8 => lN (zQ S x).length
  | _ => r
def zrank (S : zW) (x key : Nat) (pr len dl t : Int64) : Int64 := zval (zvar S x key pr len dl t 0) (zN S 24) (zN S 12 x - zN S 11 x) (zN S 11 x)
def zstate (S : zW) (x key : Nat) (pr len dl t r : Int64) : Int64 := zval (zvar S x key pr len dl t r) (zN S 24) (zN S 13 x - zN S 12 x) (zN S 12 x)
def ztie (S : zW) (x key p : Nat) : Nat := if zN S 8 x = 2 then zN S 16 p else if zN S 8 x = 3 then key else 0
def zpr (S : zW) (p : Nat) : Int64 := lN (zN S 17 p)
def zln (S : zW) (p : Nat) : Int64 := lN (zN S 16 p)
def zrk (S : zW) (x key p : Nat) (t : Int64) : Int64 := zrank S x key (zpr S p) (zln S p) (zL S 7 p) t
def zelt (S : zW) (x item p : Nat) (t : Int64) : zE := (item, zrk S x (zkey S x item p) p t, ztie S x (zkey S x item p) p, zN S 20 0, p)
def zst (S : zW) (x item p : Nat) (t : Int64) : zW := if zN S 12 x < zN S 13 x then zsL S 5 (16 * x + zkey S x item p) (zstate S x (zkey S x item p) (zpr S p) (zln S p) (zL S 7 p) t (zrk S x (zkey S x item p) p t)) else S
def zenter (S : zW) (x item p : Nat) (t : Int64) : zW := zsN (zsQ (zst S x item p t) x (zins (zN S 8 x) (zelt S x item p t) (zQ S x)) (zR S x ++ [zelt S x item p t])) 20 0 (zN S 20 0 + 1)
def zmx (a b : Int64) : Int64 := if b < a then a else b
def zup (len rate : Nat) : Int64 := ((lN len * 1000 + lN rate) - 1) / lN rate
def zrel (S : zW) (x : Nat) (t : Int64) : Int64 := if zN S 9 x = 0 then t else zmx (zL S 3 x - lN (zN S 10 x) * 1000 / lN (zN S 9 x)) t
def zshape (S : zW) (x p : Nat) (t : Int64) : zW := if zN S 9 x = 0 then S else zsL S 3 x (zmx (zL S 3 x) t + zup (zN S 16 p) (zN S 9 x))
def zclimb : Nat → zW → Nat → Nat → Nat → Int64 → zW
  | 0, S, _, _, _, _ => S
  | f + 1, S, x, item, p, t => if x = 0 then zenter S x item p t else if t < zrel (zenter S x item p t) x t then zsD (zshape (zenter S x item p t) x p t) (zD S ++ [(zrel (zenter S x item p t) x t, x, p)]) else zclimb f (zshape (zenter S x item p t) x p t) (zN S 18 x) x p t
def znxB : List zH → Nat → Nat → Int64 → Nat
  | [], _, b, _ => b
  | h :: l, i, b, rb => if h.1 < rb then znxB l (i + 1) i h.1 else znxB l (i + 1) b rb
def znx : List zH → Nat
  | [] => 0
  | h :: l => znxB l 1 0 h.1
def zget (d : List zH) (i : Nat) : zH := d.getD i (0, 0, 0)
def zpass : Nat → zW → Int64 → Nat → zW × Nat
  | 0, S, u, c => (zsL S 0 0 u, c)
  | f + 1, S, u, c => if (zD S).length = 0 then (zsL S 0 0 u, c) else if u < (zget (zD S) (znx (zD S))).1 then (zsL S 0 0 u, c) else zpass f (zclimb 12 (zsD S ((zD S).eraseIdx (znx (zD S)))) (zN S 18 (zget (zD S) (znx (zD S))).2.1) (zget (zD S) (znx (zD S))).2.1 (zget (zD S) (znx (zD S))).2.2 (zget (zD S) (znx (zD S))).1) u (c + 1)
/-- the first element goes -/
def ztake (S : zW) (x : Nat) : zW := match zQ S x with
  | [] => S
  | e :: l => zsQ (zsL S 4 x e.2.1) x l ((zR S x).filter (fun b => !(b.2.2.2.1 == e.2.2.2.1)))
def zitem (S : zW) (x : Nat) : Nat := match zQ S x with
  | [] => 0
  | e :: _ => e.1
/-- down from node x; the world after it, and the packet -/
def zleave : Nat → zW → Nat → zW × Nat
  | 0, S, x => (ztake S x, zitem S x)
  | f + 1, S, x => if zN S 19 x = 0 then (ztake S x, zitem S x) else zleave f (ztake S x) (zitem S x)
def zgoes (S : zW) : zW := zsN (zsN (zleave 12 S 0).1 21 0 (zN S 21 0 - 1)) 22 (zleave 12 S 0).2 0
def zgone (S : zW) : Nat := (zleave 12 S 0).2
def zdepart (S : zW) (p : Nat) (t : Int64) : zW :=
  let f := zN S 15 p
  let dl := t - zL S 6 p
  let S1 := zsL S 8 p t
  let S2 := zsN S1 5 f (zN S 5 f + 1)
  let S3 := zsN S2 6 f (zN S 6 f + zN S 16 p)
  let S4 := zsL S3 1 f (zL S 1 f + dl)
  let S5 := zsL S4 2 f (if zL S 2 f < dl then dl else zL S 2 f)
  zsN S5 7 f (zN S 7 f + (if zL S 7 p < t then 1 else 0))
def zend (S : zW) (p : Nat) : Int64 := zL S 0 0 + zup (zN S 16 p) (zN S 2 0)
/-- fuel for passing -/
def zsend (S : zW) : zW := if (zQ S 0).length = 0 then S else (zpass 800 (zdepart (zgoes S) (zgone S) (zend S (zgone S))) (zend S (zgone S)) 0).1
