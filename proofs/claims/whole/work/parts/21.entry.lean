theorem en_arr {args : Array Value} {s : State} {ty : FieldType} (h : (Cond.arrayClass ty).before args s = true) (hob : ∀ C, ty ≠ .object C) : ∃ cA : ClassId, ArrOfT s cA ty ∧ va_RA s cA ty := by
  obtain ⟨c, k, comp, f1, f2, f3⟩ := Cond.arrayClass_spec h
  refine ⟨c, fun n z => ⟨(fun k h => by cases h), k, f2, comp, f3⟩, ?_⟩
  cases ty with
  | object C => exact absurd rfl (hob C)
  | _ => exact f1
theorem en_over {args : Array Value} {s : State} {C : String} (h : (Cond.arrayOver (.object C)).before args s = true) : ∃ cA : ClassId, ArrOfT s cA (.object C) ∧ va_RA s cA (.object C) := by
  obtain ⟨comp, c, k, h1, h2, h3, h4, h5⟩ := Cond.arrayOver_spec h
  exact ⟨c, fun n z => ⟨(fun k h => by cases h), k, h3, comp, h4⟩, k, comp, h3, h4, h1, h5⟩
theorem en_tx {args : Array Value} {s : State} {A : Nat → Prop} {tm : Term} {n : Nat} {bs : List Int32} (hn : n < 2 ^ 31) (hex : (Cond.exactly tm "java/lang/String").before args s = true) (hco : (Cond.eq (.field tm "java/lang/String" "coder" "B") (.int 0)).before args s = true) (har : (Cond.arrayOf (.field tm "java/lang/String" "value" "[B") .byte).before args s = true) (hle : (Cond.eq (.length (.field tm "java/lang/String" "value" "[B")) (.int (Int32.ofNat n))).before args s = true) (hel : ∀ j : Nat, j < n → (Cond.eq (.elem (.field tm "java/lang/String" "value" "[B") (.int (Int32.ofNat j))) (.int (bs.getD j 0))).before args s = true) (hA : ∀ a : Nat, a < s.heap.size → ¬ A a) :
    ∃ a v : Nat, tm.eval args s none [] s = some (.ref a) ∧ va_O "java/lang/String" a A s s.heap ∧ va_OF "java/lang/String" "coder" "B" (.int 0) a A s s.heap ∧ va_OF "java/lang/String" "value" "[B" (.ref v) a A s s.heap ∧ va_T .byte v n (fun j => .int (bs.getD j 0)) A s s.heap := by
  have h1 : ∀ i : Nat, i < 1 → i = 0 := fun i hi => by omega
  obtain ⟨adK, adV, hS, he⟩ := vk_Sof (N := 1) (tm := fun _ => tm) (len := [n]) (byt := [bs]) (A := A) (args := args) (s := s) (fun i hi => by rw [h1 i hi]; exact hn) (fun i hi => hex) (fun i hi => hco) (fun i hi => har) (fun i hi => by rw [h1 i hi]; exact hle) (fun i hi j hj => by rw [h1 i hi] at hj ⊢; exact hel j hj) (fun i j hi hj hne => absurd ((h1 i hi).trans (h1 j hj).symm) hne) hA
  have h0 := hS.1 0 (by decide)
  exact ⟨adK 0, adV 0, he 0 (by decide), h0.1, h0.2.1, h0.2.2.1, h0.2.2.2⟩
def en_need : List Cond := [(Jvm.Cond.exactly (Jvm.Term.string "SchedulerTree" (302 : Nat)) "java/lang/String"), (Jvm.Cond.eq (Jvm.Term.field (Jvm.Term.string "SchedulerTree" (302 : Nat)) "java/lang/String" "coder" "B") (Jvm.Term.int (0 : Int32))), (Jvm.Cond.arrayOf (Jvm.Term.field (Jvm.Term.string "SchedulerTree" (302 : Nat)) "java/lang/String" "value" "[B") Jvm.ClassFile.FieldType.byte), (Jvm.Cond.eq (Jvm.Term.length (Jvm.Term.field (Jvm.Term.string "SchedulerTree" (302 : Nat)) "java/lang/String" "value" "[B")) (Jvm.Term.int (1 : Int32))), (Jvm.Cond.eq (Jvm.Term.elem (Jvm.Term.field (Jvm.Term.string "SchedulerTree" (302 : Nat)) "java/lang/String" "value" "[B") (Jvm.Term.int (0 : Int32))) (Jvm.Term.int (112 : Int32))), (Jvm.Cond.exactly (Jvm.Term.string "SchedulerTree" (304 : Nat)) "java/lang/String"), (Jvm.Cond.eq (Jvm.Term.field (Jvm.Term.string "SchedulerTree" (304 : Nat)) "java/lang/String" "coder" "B") (Jvm.Term.int (0 : Int32))), (Jvm.Cond.arrayOf (Jvm.Term.field (Jvm.Term.string "SchedulerTree" (304 : Nat)) "java/lang/String" "value" "[B") Jvm.ClassFile.FieldType.byte), (Jvm.Cond.eq (Jvm.Term.length (Jvm.Term.field (Jvm.Term.string "SchedulerTree" (304 : Nat)) "java/lang/String" "value" "[B")) (Jvm.Term.int (1 : Int32))), (Jvm.Cond.eq (Jvm.Term.elem (Jvm.Term.field (Jvm.Term.string "SchedulerTree" (304 : Nat)) "java/lang/String" "value" "[B") (Jvm.Term.int (0 : Int32))) (Jvm.Term.int (100 : Int32))), (Jvm.Cond.exactly (Jvm.Term.string "SchedulerTree" (306 : Nat)) "java/lang/String"), (Jvm.Cond.eq (Jvm.Term.field (Jvm.Term.string "SchedulerTree" (306 : Nat)) "java/lang/String" "coder" "B") (Jvm.Term.int (0 : Int32))), (Jvm.Cond.arrayOf (Jvm.Term.field (Jvm.Term.string "SchedulerTree" (306 : Nat)) "java/lang/String" "value" "[B") Jvm.ClassFile.FieldType.byte), (Jvm.Cond.eq (Jvm.Term.length (Jvm.Term.field (Jvm.Term.string "SchedulerTree" (306 : Nat)) "java/lang/String" "value" "[B")) (Jvm.Term.int (12 : Int32))), (Jvm.Cond.eq (Jvm.Term.elem (Jvm.Term.field (Jvm.Term.string "SchedulerTree" (306 : Nat)) "java/lang/String" "value" "[B") (Jvm.Term.int (0 : Int32))) (Jvm.Term.int (77 : Int32))), (Jvm.Cond.eq (Jvm.Term.elem (Jvm.Term.field (Jvm.Term.string "SchedulerTree" (306 : Nat)) "java/lang/String" "value" "[B") (Jvm.Term.int (1 : Int32))) (Jvm.Term.int (40 : Int32))), (Jvm.Cond.eq (Jvm.Term.elem (Jvm.Term.field (Jvm.Term.string "SchedulerTree" (306 : Nat)) "java/lang/String" "value" "[B") (Jvm.Term.int (2 : Int32))) (Jvm.Term.int (118 : Int32))), (Jvm.Cond.eq (Jvm.Term.elem (Jvm.Term.field (Jvm.Term.string "SchedulerTree" (306 : Nat)) "java/lang/String" "value" "[B") (Jvm.Term.int (3 : Int32))) (Jvm.Term.int (44 : Int32))), (Jvm.Cond.eq (Jvm.Term.elem (Jvm.Term.field (Jvm.Term.string "SchedulerTree" (306 : Nat)) "java/lang/String" "value" "[B") (Jvm.Term.int (4 : Int32))) (Jvm.Term.int (97 : Int32))), (Jvm.Cond.eq (Jvm.Term.elem (Jvm.Term.field (Jvm.Term.string "SchedulerTree" (306 : Nat)) "java/lang/String" "value" "[B") (Jvm.Term.int (5 : Int32))) (Jvm.Term.int (41 : Int32))), (Jvm.Cond.eq (Jvm.Term.elem (Jvm.Term.field (Jvm.Term.string "SchedulerTree" (306 : Nat)) "java/lang/String" "value" "[B") (Jvm.Term.int (6 : Int32))) (Jvm.Term.int (58 : Int32))), (Jvm.Cond.eq (Jvm.Term.elem (Jvm.Term.field (Jvm.Term.string "SchedulerTree" (306 : Nat)) "java/lang/String" "value" "[B") (Jvm.Term.int (7 : Int32))) (Jvm.Term.int (114 : Int32))), (Jvm.Cond.eq (Jvm.Term.elem (Jvm.Term.field (Jvm.Term.string "SchedulerTree" (306 : Nat)) "java/lang/String" "value" "[B") (Jvm.Term.int (8 : Int32))) (Jvm.Term.int (43 : Int32))), (Jvm.Cond.eq (Jvm.Term.elem (Jvm.Term.field (Jvm.Term.string "SchedulerTree" (306 : Nat)) "java/lang/String" "value" "[B") (Jvm.Term.int (9 : Int32))) (Jvm.Term.int (108 : Int32))), (Jvm.Cond.eq (Jvm.Term.elem (Jvm.Term.field (Jvm.Term.string "SchedulerTree" (306 : Nat)) "java/lang/String" "value" "[B") (Jvm.Term.int (10 : Int32))) (Jvm.Term.int (47 : Int32))), (Jvm.Cond.eq (Jvm.Term.elem (Jvm.Term.field (Jvm.Term.string "SchedulerTree" (306 : Nat)) "java/lang/String" "value" "[B") (Jvm.Term.int (11 : Int32))) (Jvm.Term.int (119 : Int32))), (Jvm.Cond.exactly (Jvm.Term.string "SchedulerTree" (308 : Nat)) "java/lang/String"), (Jvm.Cond.eq (Jvm.Term.field (Jvm.Term.string "SchedulerTree" (308 : Nat)) "java/lang/String" "coder" "B") (Jvm.Term.int (0 : Int32))), (Jvm.Cond.arrayOf (Jvm.Term.field (Jvm.Term.string "SchedulerTree" (308 : Nat)) "java/lang/String" "value" "[B") Jvm.ClassFile.FieldType.byte), (Jvm.Cond.eq (Jvm.Term.length (Jvm.Term.field (Jvm.Term.string "SchedulerTree" (308 : Nat)) "java/lang/String" "value" "[B")) (Jvm.Term.int (44 : Int32))), (Jvm.Cond.eq (Jvm.Term.elem (Jvm.Term.field (Jvm.Term.string "SchedulerTree" (308 : Nat)) "java/lang/String" "value" "[B") (Jvm.Term.int (0 : Int32))) (Jvm.Term.int (77 : Int32))), (Jvm.Cond.eq (Jvm.Term.elem (Jvm.Term.field (Jvm.Term.string "SchedulerTree" (308 : Nat)) "java/lang/String" "value" "[B") (Jvm.Term.int (1 : Int32))) (Jvm.Term.int (40 : Int32))), (Jvm.Cond.eq (Jvm.Term.elem (Jvm.Term.field (Jvm.Term.string "SchedulerTree" (308 : Nat)) "java/lang/String" "value" "[B") (Jvm.Term.int (2 : Int32))) (Jvm.Term.int (118 : Int32))), (Jvm.Cond.eq (Jvm.Term.elem (Jvm.Term.field (Jvm.Term.string "SchedulerTree" (308 : Nat)) "java/lang/String" "value" "[B") (Jvm.Term.int (3 : Int32))) (Jvm.Term.int (44 : Int32))), (Jvm.Cond.eq (Jvm.Term.elem (Jvm.Term.field (Jvm.Term.string "SchedulerTree" (308 : Nat)) "java/lang/String" "value" "[B") (Jvm.Term.int (4 : Int32))) (Jvm.Term.int (97 : Int32))), (Jvm.Cond.eq (Jvm.Term.elem (Jvm.Term.field (Jvm.Term.string "SchedulerTree" (308 : Nat)) "java/lang/String" "value" "[B") (Jvm.Term.int (5 : Int32))) (Jvm.Term.int (41 : Int32))), (Jvm.Cond.eq (Jvm.Term.elem (Jvm.Term.field (Jvm.Term.string "SchedulerTree" (308 : Nat)) "java/lang/String" "value" "[B") (Jvm.Term.int (6 : Int32))) (Jvm.Term.int (58 : Int32))), (Jvm.Cond.eq (Jvm.Term.elem (Jvm.Term.field (Jvm.Term.string "SchedulerTree" (308 : Nat)) "java/lang/String" "value" "[B") (Jvm.Term.int (7 : Int32))) (Jvm.Term.int (114 : Int32))), (Jvm.Cond.eq (Jvm.Term.elem (Jvm.Term.field (Jvm.Term.string "SchedulerTree" (308 : Nat)) "java/lang/String" "value" "[B") (Jvm.Term.int (8 : Int32))) (Jvm.Term.int (43 : Int32))), (Jvm.Cond.eq (Jvm.Term.elem (Jvm.Term.field (Jvm.Term.string "SchedulerTree" (308 : Nat)) "java/lang/String" "value" "[B") (Jvm.Term.int (9 : Int32))) (Jvm.Term.int (108 : Int32))), (Jvm.Cond.eq (Jvm.Term.elem (Jvm.Term.field (Jvm.Term.string "SchedulerTree" (308 : Nat)) "java/lang/String" "value" "[B") (Jvm.Term.int (10 : Int32))) (Jvm.Term.int (42 : Int32))), (Jvm.Cond.eq (Jvm.Term.elem (Jvm.Term.field (Jvm.Term.string "SchedulerTree" (308 : Nat)) "java/lang/String" "value" "[B") (Jvm.Term.int (11 : Int32))) (Jvm.Term.int (49 : Int32))), (Jvm.Cond.eq (Jvm.Term.elem (Jvm.Term.field (Jvm.Term.string "SchedulerTree" (308 : Nat)) "java/lang/String" "value" "[B") (Jvm.Term.int (12 : Int32))) (Jvm.Term.int (48 : Int32))), (Jvm.Cond.eq (Jvm.Term.elem (Jvm.Term.field (Jvm.Term.string "SchedulerTree" (308 : Nat)) "java/lang/String" "value" "[B") (Jvm.Term.int (13 : Int32))) (Jvm.Term.int (48 : Int32))), (Jvm.Cond.eq (Jvm.Term.elem (Jvm.Term.field (Jvm.Term.string "SchedulerTree" (308 : Nat)) "java/lang/String" "value" "[B") (Jvm.Term.int (14 : Int32))) (Jvm.Term.int (47 : Int32))), (Jvm.Cond.eq (Jvm.Term.elem (Jvm.Term.field (Jvm.Term.string "SchedulerTree" (308 : Nat)) "java/lang/String" "value" "[B") (Jvm.Term.int (15 : Int32))) (Jvm.Term.int (119 : Int32))), (Jvm.Cond.eq (Jvm.Term.elem (Jvm.Term.field (Jvm.Term.string "SchedulerTree" (308 : Nat)) "java/lang/String" "value" "[B") (Jvm.Term.int (16 : Int32))) (Jvm.Term.int (59 : Int32))), (Jvm.Cond.eq (Jvm.Term.elem (Jvm.Term.field (Jvm.Term.string "SchedulerTree" (308 : Nat)) "java/lang/String" "value" "[B") (Jvm.Term.int (17 : Int32))) (Jvm.Term.int (48 : Int32))), (Jvm.Cond.eq (Jvm.Term.elem (Jvm.Term.field (Jvm.Term.string "SchedulerTree" (308 : Nat)) "java/lang/String" "value" "[B") (Jvm.Term.int (18 : Int32))) (Jvm.Term.int (60 : Int32))), (Jvm.Cond.eq (Jvm.Term.elem (Jvm.Term.field (Jvm.Term.string "SchedulerTree" (308 : Nat)) "java/lang/String" "value" "[B") (Jvm.Term.int (19 : Int32))) (Jvm.Term.int (112 : Int32))), (Jvm.Cond.eq (Jvm.Term.elem (Jvm.Term.field (Jvm.Term.string "SchedulerTree" (308 : Nat)) "java/lang/String" "value" "[B") (Jvm.Term.int (20 : Int32))) (Jvm.Term.int (59 : Int32))), (Jvm.Cond.eq (Jvm.Term.elem (Jvm.Term.field (Jvm.Term.string "SchedulerTree" (308 : Nat)) "java/lang/String" "value" "[B") (Jvm.Term.int (21 : Int32))) (Jvm.Term.int (48 : Int32))), (Jvm.Cond.eq (Jvm.Term.elem (Jvm.Term.field (Jvm.Term.string "SchedulerTree" (308 : Nat)) "java/lang/String" "value" "[B") (Jvm.Term.int (22 : Int32))) (Jvm.Term.int (60 : Int32))), (Jvm.Cond.eq (Jvm.Term.elem (Jvm.Term.field (Jvm.Term.string "SchedulerTree" (308 : Nat)) "java/lang/String" "value" "[B") (Jvm.Term.int (23 : Int32))) (Jvm.Term.int (100 : Int32))), (Jvm.Cond.eq (Jvm.Term.elem (Jvm.Term.field (Jvm.Term.string "SchedulerTree" (308 : Nat)) "java/lang/String" "value" "[B") (Jvm.Term.int (24 : Int32))) (Jvm.Term.int (59 : Int32))), (Jvm.Cond.eq (Jvm.Term.elem (Jvm.Term.field (Jvm.Term.string "SchedulerTree" (308 : Nat)) "java/lang/String" "value" "[B") (Jvm.Term.int (25 : Int32))) (Jvm.Term.int (48 : Int32))), (Jvm.Cond.eq (Jvm.Term.elem (Jvm.Term.field (Jvm.Term.string "SchedulerTree" (308 : Nat)) "java/lang/String" "value" "[B") (Jvm.Term.int (26 : Int32))) (Jvm.Term.int (60 : Int32))), (Jvm.Cond.eq (Jvm.Term.elem (Jvm.Term.field (Jvm.Term.string "SchedulerTree" (308 : Nat)) "java/lang/String" "value" "[B") (Jvm.Term.int (27 : Int32))) (Jvm.Term.int (77 : Int32))), (Jvm.Cond.eq (Jvm.Term.elem (Jvm.Term.field (Jvm.Term.string "SchedulerTree" (308 : Nat)) "java/lang/String" "value" "[B") (Jvm.Term.int (28 : Int32))) (Jvm.Term.int (40 : Int32))), (Jvm.Cond.eq (Jvm.Term.elem (Jvm.Term.field (Jvm.Term.string "SchedulerTree" (308 : Nat)) "java/lang/String" "value" "[B") (Jvm.Term.int (29 : Int32))) (Jvm.Term.int (118 : Int32))), (Jvm.Cond.eq (Jvm.Term.elem (Jvm.Term.field (Jvm.Term.string "SchedulerTree" (308 : Nat)) "java/lang/String" "value" "[B") (Jvm.Term.int (30 : Int32))) (Jvm.Term.int (44 : Int32))), (Jvm.Cond.eq (Jvm.Term.elem (Jvm.Term.field (Jvm.Term.string "SchedulerTree" (308 : Nat)) "java/lang/String" "value" "[B") (Jvm.Term.int (31 : Int32))) (Jvm.Term.int (97 : Int32))), (Jvm.Cond.eq (Jvm.Term.elem (Jvm.Term.field (Jvm.Term.string "SchedulerTree" (308 : Nat)) "java/lang/String" "value" "[B") (Jvm.Term.int (32 : Int32))) (Jvm.Term.int (41 : Int32))), (Jvm.Cond.eq (Jvm.Term.elem (Jvm.Term.field (Jvm.Term.string "SchedulerTree" (308 : Nat)) "java/lang/String" "value" "[B") (Jvm.Term.int (33 : Int32))) (Jvm.Term.int (58 : Int32))), (Jvm.Cond.eq (Jvm.Term.elem (Jvm.Term.field (Jvm.Term.string "SchedulerTree" (308 : Nat)) "java/lang/String" "value" "[B") (Jvm.Term.int (34 : Int32))) (Jvm.Term.int (114 : Int32))), (Jvm.Cond.eq (Jvm.Term.elem (Jvm.Term.field (Jvm.Term.string "SchedulerTree" (308 : Nat)) "java/lang/String" "value" "[B") (Jvm.Term.int (35 : Int32))) (Jvm.Term.int (43 : Int32))), (Jvm.Cond.eq (Jvm.Term.elem (Jvm.Term.field (Jvm.Term.string "SchedulerTree" (308 : Nat)) "java/lang/String" "value" "[B") (Jvm.Term.int (36 : Int32))) (Jvm.Term.int (108 : Int32))), (Jvm.Cond.eq (Jvm.Term.elem (Jvm.Term.field (Jvm.Term.string "SchedulerTree" (308 : Nat)) "java/lang/String" "value" "[B") (Jvm.Term.int (37 : Int32))) (Jvm.Term.int (42 : Int32))), (Jvm.Cond.eq (Jvm.Term.elem (Jvm.Term.field (Jvm.Term.string "SchedulerTree" (308 : Nat)) "java/lang/String" "value" "[B") (Jvm.Term.int (38 : Int32))) (Jvm.Term.int (49 : Int32))), (Jvm.Cond.eq (Jvm.Term.elem (Jvm.Term.field (Jvm.Term.string "SchedulerTree" (308 : Nat)) "java/lang/String" "value" "[B") (Jvm.Term.int (39 : Int32))) (Jvm.Term.int (48 : Int32))), (Jvm.Cond.eq (Jvm.Term.elem (Jvm.Term.field (Jvm.Term.string "SchedulerTree" (308 : Nat)) "java/lang/String" "value" "[B") (Jvm.Term.int (40 : Int32))) (Jvm.Term.int (48 : Int32))), (Jvm.Cond.eq (Jvm.Term.elem (Jvm.Term.field (Jvm.Term.string "SchedulerTree" (308 : Nat)) "java/lang/String" "value" "[B") (Jvm.Term.int (41 : Int32))) (Jvm.Term.int (47 : Int32))), (Jvm.Cond.eq (Jvm.Term.elem (Jvm.Term.field (Jvm.Term.string "SchedulerTree" (308 : Nat)) "java/lang/String" "value" "[B") (Jvm.Term.int (42 : Int32))) (Jvm.Term.int (119 : Int32))), (Jvm.Cond.eq (Jvm.Term.elem (Jvm.Term.field (Jvm.Term.string "SchedulerTree" (308 : Nat)) "java/lang/String" "value" "[B") (Jvm.Term.int (43 : Int32))) (Jvm.Term.int (38 : Int32))), (Jvm.Cond.exactly (Jvm.Term.string "SchedulerTree" (310 : Nat)) "java/lang/String"), (Jvm.Cond.eq (Jvm.Term.field (Jvm.Term.string "SchedulerTree" (310 : Nat)) "java/lang/String" "coder" "B") (Jvm.Term.int (0 : Int32))), (Jvm.Cond.arrayOf (Jvm.Term.field (Jvm.Term.string "SchedulerTree" (310 : Nat)) "java/lang/String" "value" "[B") Jvm.ClassFile.FieldType.byte), (Jvm.Cond.eq (Jvm.Term.length (Jvm.Term.field (Jvm.Term.string "SchedulerTree" (310 : Nat)) "java/lang/String" "value" "[B")) (Jvm.Term.int (28 : Int32))), (Jvm.Cond.eq (Jvm.Term.elem (Jvm.Term.field (Jvm.Term.string "SchedulerTree" (310 : Nat)) "java/lang/String" "value" "[B") (Jvm.Term.int (0 : Int32))) (Jvm.Term.int (116 : Int32))), (Jvm.Cond.eq (Jvm.Term.elem (Jvm.Term.field (Jvm.Term.string "SchedulerTree" (310 : Nat)) "java/lang/String" "value" "[B") (Jvm.Term.int (1 : Int32))) (Jvm.Term.int (59 : Int32))), (Jvm.Cond.eq (Jvm.Term.elem (Jvm.Term.field (Jvm.Term.string "SchedulerTree" (310 : Nat)) "java/lang/String" "value" "[B") (Jvm.Term.int (2 : Int32))) (Jvm.Term.int (48 : Int32))), (Jvm.Cond.eq (Jvm.Term.elem (Jvm.Term.field (Jvm.Term.string "SchedulerTree" (310 : Nat)) "java/lang/String" "value" "[B") (Jvm.Term.int (3 : Int32))) (Jvm.Term.int (60 : Int32))), (Jvm.Cond.eq (Jvm.Term.elem (Jvm.Term.field (Jvm.Term.string "SchedulerTree" (310 : Nat)) "java/lang/String" "value" "[B") (Jvm.Term.int (4 : Int32))) (Jvm.Term.int (112 : Int32))), (Jvm.Cond.eq (Jvm.Term.elem (Jvm.Term.field (Jvm.Term.string "SchedulerTree" (310 : Nat)) "java/lang/String" "value" "[B") (Jvm.Term.int (5 : Int32))) (Jvm.Term.int (64 : Int32))), (Jvm.Cond.eq (Jvm.Term.elem (Jvm.Term.field (Jvm.Term.string "SchedulerTree" (310 : Nat)) "java/lang/String" "value" "[B") (Jvm.Term.int (6 : Int32))) (Jvm.Term.int (49 : Int32))), (Jvm.Cond.eq (Jvm.Term.elem (Jvm.Term.field (Jvm.Term.string "SchedulerTree" (310 : Nat)) "java/lang/String" "value" "[B") (Jvm.Term.int (7 : Int32))) (Jvm.Term.int (48 : Int32))), (Jvm.Cond.eq (Jvm.Term.elem (Jvm.Term.field (Jvm.Term.string "SchedulerTree" (310 : Nat)) "java/lang/String" "value" "[B") (Jvm.Term.int (8 : Int32))) (Jvm.Term.int (48 : Int32))), (Jvm.Cond.eq (Jvm.Term.elem (Jvm.Term.field (Jvm.Term.string "SchedulerTree" (310 : Nat)) "java/lang/String" "value" "[B") (Jvm.Term.int (9 : Int32))) (Jvm.Term.int (44 : Int32))), (Jvm.Cond.eq (Jvm.Term.elem (Jvm.Term.field (Jvm.Term.string "SchedulerTree" (310 : Nat)) "java/lang/String" "value" "[B") (Jvm.Term.int (10 : Int32))) (Jvm.Term.int (53 : Int32))), (Jvm.Cond.eq (Jvm.Term.elem (Jvm.Term.field (Jvm.Term.string "SchedulerTree" (310 : Nat)) "java/lang/String" "value" "[B") (Jvm.Term.int (11 : Int32))) (Jvm.Term.int (48 : Int32))), (Jvm.Cond.eq (Jvm.Term.elem (Jvm.Term.field (Jvm.Term.string "SchedulerTree" (310 : Nat)) "java/lang/String" "value" "[B") (Jvm.Term.int (12 : Int32))) (Jvm.Term.int (48 : Int32))), (Jvm.Cond.eq (Jvm.Term.elem (Jvm.Term.field (Jvm.Term.string "SchedulerTree" (310 : Nat)) "java/lang/String" "value" "[B") (Jvm.Term.int (13 : Int32))) (Jvm.Term.int (59 : Int32))), (Jvm.Cond.eq (Jvm.Term.elem (Jvm.Term.field (Jvm.Term.string "SchedulerTree" (310 : Nat)) "java/lang/String" "value" "[B") (Jvm.Term.int (14 : Int32))) (Jvm.Term.int (48 : Int32))), (Jvm.Cond.eq (Jvm.Term.elem (Jvm.Term.field (Jvm.Term.string "SchedulerTree" (310 : Nat)) "java/lang/String" "value" "[B") (Jvm.Term.int (15 : Int32))) (Jvm.Term.int (60 : Int32))), (Jvm.Cond.eq (Jvm.Term.elem (Jvm.Term.field (Jvm.Term.string "SchedulerTree" (310 : Nat)) "java/lang/String" "value" "[B") (Jvm.Term.int (16 : Int32))) (Jvm.Term.int (48 : Int32))), (Jvm.Cond.eq (Jvm.Term.elem (Jvm.Term.field (Jvm.Term.string "SchedulerTree" (310 : Nat)) "java/lang/String" "value" "[B") (Jvm.Term.int (17 : Int32))) (Jvm.Term.int (64 : Int32))), (Jvm.Cond.eq (Jvm.Term.elem (Jvm.Term.field (Jvm.Term.string "SchedulerTree" (310 : Nat)) "java/lang/String" "value" "[B") (Jvm.Term.int (18 : Int32))) (Jvm.Term.int (53 : Int32))), (Jvm.Cond.eq (Jvm.Term.elem (Jvm.Term.field (Jvm.Term.string "SchedulerTree" (310 : Nat)) "java/lang/String" "value" "[B") (Jvm.Term.int (19 : Int32))) (Jvm.Term.int (48 : Int32))), (Jvm.Cond.eq (Jvm.Term.elem (Jvm.Term.field (Jvm.Term.string "SchedulerTree" (310 : Nat)) "java/lang/String" "value" "[B") (Jvm.Term.int (20 : Int32))) (Jvm.Term.int (44 : Int32))), (Jvm.Cond.eq (Jvm.Term.elem (Jvm.Term.field (Jvm.Term.string "SchedulerTree" (310 : Nat)) "java/lang/String" "value" "[B") (Jvm.Term.int (21 : Int32))) (Jvm.Term.int (48 : Int32))), (Jvm.Cond.eq (Jvm.Term.elem (Jvm.Term.field (Jvm.Term.string "SchedulerTree" (310 : Nat)) "java/lang/String" "value" "[B") (Jvm.Term.int (22 : Int32))) (Jvm.Term.int (37 : Int32))), (Jvm.Cond.eq (Jvm.Term.elem (Jvm.Term.field (Jvm.Term.string "SchedulerTree" (310 : Nat)) "java/lang/String" "value" "[B") (Jvm.Term.int (23 : Int32))) (Jvm.Term.int (59 : Int32))), (Jvm.Cond.eq (Jvm.Term.elem (Jvm.Term.field (Jvm.Term.string "SchedulerTree" (310 : Nat)) "java/lang/String" "value" "[B") (Jvm.Term.int (24 : Int32))) (Jvm.Term.int (48 : Int32))), (Jvm.Cond.eq (Jvm.Term.elem (Jvm.Term.field (Jvm.Term.string "SchedulerTree" (310 : Nat)) "java/lang/String" "value" "[B") (Jvm.Term.int (25 : Int32))) (Jvm.Term.int (60 : Int32))), (Jvm.Cond.eq (Jvm.Term.elem (Jvm.Term.field (Jvm.Term.string "SchedulerTree" (310 : Nat)) "java/lang/String" "value" "[B") (Jvm.Term.int (26 : Int32))) (Jvm.Term.int (100 : Int32))), (Jvm.Cond.eq (Jvm.Term.elem (Jvm.Term.field (Jvm.Term.string "SchedulerTree" (310 : Nat)) "java/lang/String" "value" "[B") (Jvm.Term.int (27 : Int32))) (Jvm.Term.int (94 : Int32))), (Jvm.Cond.exactly (Jvm.Term.string "SchedulerTree" (312 : Nat)) "java/lang/String"), (Jvm.Cond.eq (Jvm.Term.field (Jvm.Term.string "SchedulerTree" (312 : Nat)) "java/lang/String" "coder" "B") (Jvm.Term.int (0 : Int32))), (Jvm.Cond.arrayOf (Jvm.Term.field (Jvm.Term.string "SchedulerTree" (312 : Nat)) "java/lang/String" "value" "[B") Jvm.ClassFile.FieldType.byte), (Jvm.Cond.eq (Jvm.Term.length (Jvm.Term.field (Jvm.Term.string "SchedulerTree" (312 : Nat)) "java/lang/String" "value" "[B")) (Jvm.Term.int (1 : Int32))), (Jvm.Cond.eq (Jvm.Term.elem (Jvm.Term.field (Jvm.Term.string "SchedulerTree" (312 : Nat)) "java/lang/String" "value" "[B") (Jvm.Term.int (0 : Int32))) (Jvm.Term.int (48 : Int32))), (Jvm.Cond.exactly (Jvm.Term.string "SchedulerTree$Reader" (131 : Nat)) "java/lang/String"), (Jvm.Cond.eq (Jvm.Term.field (Jvm.Term.string "SchedulerTree$Reader" (131 : Nat)) "java/lang/String" "coder" "B") (Jvm.Term.int (0 : Int32))), (Jvm.Cond.arrayOf (Jvm.Term.field (Jvm.Term.string "SchedulerTree$Reader" (131 : Nat)) "java/lang/String" "value" "[B") Jvm.ClassFile.FieldType.byte), (Jvm.Cond.eq (Jvm.Term.length (Jvm.Term.field (Jvm.Term.string "SchedulerTree$Reader" (131 : Nat)) "java/lang/String" "value" "[B")) (Jvm.Term.int (10 : Int32))), (Jvm.Cond.eq (Jvm.Term.elem (Jvm.Term.field (Jvm.Term.string "SchedulerTree$Reader" (131 : Nat)) "java/lang/String" "value" "[B") (Jvm.Term.int (0 : Int32))) (Jvm.Term.int (112 : Int32))), (Jvm.Cond.eq (Jvm.Term.elem (Jvm.Term.field (Jvm.Term.string "SchedulerTree$Reader" (131 : Nat)) "java/lang/String" "value" "[B") (Jvm.Term.int (1 : Int32))) (Jvm.Term.int (108 : Int32))), (Jvm.Cond.eq (Jvm.Term.elem (Jvm.Term.field (Jvm.Term.string "SchedulerTree$Reader" (131 : Nat)) "java/lang/String" "value" "[B") (Jvm.Term.int (2 : Int32))) (Jvm.Term.int (100 : Int32))), (Jvm.Cond.eq (Jvm.Term.elem (Jvm.Term.field (Jvm.Term.string "SchedulerTree$Reader" (131 : Nat)) "java/lang/String" "value" "[B") (Jvm.Term.int (3 : Int32))) (Jvm.Term.int (102 : Int32))), (Jvm.Cond.eq (Jvm.Term.elem (Jvm.Term.field (Jvm.Term.string "SchedulerTree$Reader" (131 : Nat)) "java/lang/String" "value" "[B") (Jvm.Term.int (4 : Int32))) (Jvm.Term.int (119 : Int32))), (Jvm.Cond.eq (Jvm.Term.elem (Jvm.Term.field (Jvm.Term.string "SchedulerTree$Reader" (131 : Nat)) "java/lang/String" "value" "[B") (Jvm.Term.int (5 : Int32))) (Jvm.Term.int (97 : Int32))), (Jvm.Cond.eq (Jvm.Term.elem (Jvm.Term.field (Jvm.Term.string "SchedulerTree$Reader" (131 : Nat)) "java/lang/String" "value" "[B") (Jvm.Term.int (6 : Int32))) (Jvm.Term.int (116 : Int32))), (Jvm.Cond.eq (Jvm.Term.elem (Jvm.Term.field (Jvm.Term.string "SchedulerTree$Reader" (131 : Nat)) "java/lang/String" "value" "[B") (Jvm.Term.int (7 : Int32))) (Jvm.Term.int (118 : Int32))), (Jvm.Cond.eq (Jvm.Term.elem (Jvm.Term.field (Jvm.Term.string "SchedulerTree$Reader" (131 : Nat)) "java/lang/String" "value" "[B") (Jvm.Term.int (8 : Int32))) (Jvm.Term.int (110 : Int32))), (Jvm.Cond.eq (Jvm.Term.elem (Jvm.Term.field (Jvm.Term.string "SchedulerTree$Reader" (131 : Nat)) "java/lang/String" "value" "[B") (Jvm.Term.int (9 : Int32))) (Jvm.Term.int (114 : Int32))), (Jvm.Cond.exactly (Jvm.Term.string "SchedulerTree$Reader" (98 : Nat)) "java/lang/String"), (Jvm.Cond.eq (Jvm.Term.field (Jvm.Term.string "SchedulerTree$Reader" (98 : Nat)) "java/lang/String" "coder" "B") (Jvm.Term.int (0 : Int32))), (Jvm.Cond.arrayOf (Jvm.Term.field (Jvm.Term.string "SchedulerTree$Reader" (98 : Nat)) "java/lang/String" "value" "[B") Jvm.ClassFile.FieldType.byte), (Jvm.Cond.eq (Jvm.Term.length (Jvm.Term.field (Jvm.Term.string "SchedulerTree$Reader" (98 : Nat)) "java/lang/String" "value" "[B")) (Jvm.Term.int (3 : Int32))), (Jvm.Cond.eq (Jvm.Term.elem (Jvm.Term.field (Jvm.Term.string "SchedulerTree$Reader" (98 : Nat)) "java/lang/String" "value" "[B") (Jvm.Term.int (0 : Int32))) (Jvm.Term.int (94 : Int32))), (Jvm.Cond.eq (Jvm.Term.elem (Jvm.Term.field (Jvm.Term.string "SchedulerTree$Reader" (98 : Nat)) "java/lang/String" "value" "[B") (Jvm.Term.int (1 : Int32))) (Jvm.Term.int (37 : Int32))), (Jvm.Cond.eq (Jvm.Term.elem (Jvm.Term.field (Jvm.Term.string "SchedulerTree$Reader" (98 : Nat)) "java/lang/String" "value" "[B") (Jvm.Term.int (2 : Int32))) (Jvm.Term.int (38 : Int32))), (Jvm.Cond.exactly (Jvm.Term.string "SchedulerTree" (53 : Nat)) "java/lang/String"), (Jvm.Cond.exactly (Jvm.Term.string "SchedulerTree" (63 : Nat)) "java/lang/String"), (Jvm.Cond.exactly (Jvm.Term.string "SchedulerTree" (96 : Nat)) "java/lang/String"), (Jvm.Cond.exactly (Jvm.Term.string "SchedulerTree" (100 : Nat)) "java/lang/String"), (Jvm.Cond.exactly (Jvm.Term.string "SchedulerTree" (317 : Nat)) "java/lang/String"), (Jvm.Cond.exactly (Jvm.Term.string "SchedulerTree" (321 : Nat)) "java/lang/String"), (Jvm.Cond.exactly (Jvm.Term.string "SchedulerTree" (325 : Nat)) "java/lang/String"), (Jvm.Cond.exactly (Jvm.Term.string "SchedulerTree" (142 : Nat)) "java/lang/String"), (Jvm.Cond.exactly (Jvm.Term.string "SchedulerTree" (147 : Nat)) "java/lang/String"), (Jvm.Cond.exactly (Jvm.Term.string "SchedulerTree" (327 : Nat)) "java/lang/String"), (Jvm.Cond.exactly (Jvm.Term.string "SchedulerTree" (329 : Nat)) "java/lang/String"), (Jvm.Cond.exactly (Jvm.Term.string "SchedulerTree" (332 : Nat)) "java/lang/String"), (Jvm.Cond.exactly (Jvm.Term.string "SchedulerTree" (156 : Nat)) "java/lang/String"), (Jvm.Cond.exactly (Jvm.Term.string "SchedulerTree" (167 : Nat)) "java/lang/String"), (Jvm.Cond.exactly (Jvm.Term.string "SchedulerTree" (187 : Nat)) "java/lang/String"), (Jvm.Cond.exactly (Jvm.Term.string "SchedulerTree" (319 : Nat)) "java/lang/String"), (Jvm.Cond.exactly (Jvm.Term.string "SchedulerTree" (225 : Nat)) "java/lang/String"), (Jvm.Cond.exactly (Jvm.Term.string "SchedulerTree" (234 : Nat)) "java/lang/String"), (Jvm.Cond.exactly (Jvm.Term.string "SchedulerTree" (246 : Nat)) "java/lang/String"), (Jvm.Cond.exactly (Jvm.Term.string "SchedulerTree" (323 : Nat)) "java/lang/String"), (Jvm.Cond.exactly (Jvm.Term.string "SchedulerTree" (282 : Nat)) "java/lang/String"), (Jvm.Cond.exactly (Jvm.Term.string "SchedulerTree" (334 : Nat)) "java/lang/String"), (Jvm.Cond.not (Jvm.Cond.castable "java/lang/IllegalArgumentException" "java/lang/IllegalStateException")), (Jvm.Cond.not (Jvm.Cond.castable "java/lang/IllegalArgumentException" "java/lang/IndexOutOfBoundsException")), (Jvm.Cond.not (Jvm.Cond.castable "java/lang/IllegalStateException" "java/lang/IllegalArgumentException")), (Jvm.Cond.not (Jvm.Cond.castable "java/lang/IllegalStateException" "java/lang/IndexOutOfBoundsException")), (Jvm.Cond.not (Jvm.Cond.castable "java/lang/IndexOutOfBoundsException" "java/lang/IllegalArgumentException")), (Jvm.Cond.not (Jvm.Cond.castable "java/lang/IndexOutOfBoundsException" "java/lang/IllegalStateException")), (Jvm.Cond.eq (Jvm.Term.static "java/lang/String" "COMPACT_STRINGS" "Z") (Jvm.Term.int (1 : Int32))), (Jvm.Cond.isRef (Jvm.Term.static "jdk/internal/util/Preconditions" "SIOOBE_FORMATTER" "Ljava/util/function/BiFunction;")), (Jvm.Cond.isRef (Jvm.Term.static "java/lang/Throwable" "UNASSIGNED_STACK" "[Ljava/lang/StackTraceElement;")), (Jvm.Cond.isRef (Jvm.Term.static "java/lang/Throwable" "SUPPRESSED_SENTINEL" "Ljava/util/List;"))]
set_option maxRecDepth 100000 in
theorem en_in : ∀ w ∈ en_need, w ∈ flatC (Jvm.Cond.and given_1 narrow_1) := by
  have h : en_need.all (fun w => (flatC (Jvm.Cond.and given_1 narrow_1)).contains w) = true := by decide +kernel
  intro w hw
  exact List.contains_iff_mem.mp (List.all_eq_true.mp h w hw)
theorem TB_s1 {w : Cond} (i : Nat) (h : tables_1_1[i]? = some w) : w ∈ lw_tbl := by
  have h := List.mem_of_getElem? h
  exact List.mem_append_right _ (List.mem_append_left _ h)
theorem TB_s2 {w : Cond} (i : Nat) (h : tables_1_2[i]? = some w) : w ∈ lw_tbl := by
  have h := List.mem_of_getElem? h
  exact List.mem_append_right _ (List.mem_append_right _ (List.mem_append_left _ h))
theorem TB_s3 {w : Cond} (i : Nat) (h : tables_1_3[i]? = some w) : w ∈ lw_tbl := by
  have h := List.mem_of_getElem? h
  exact List.mem_append_right _ (List.mem_append_right _ (List.mem_append_right _ (List.mem_append_left _ h)))
theorem TB_s4 {w : Cond} (i : Nat) (h : tables_1_4[i]? = some w) : w ∈ lw_tbl := by
  have h := List.mem_of_getElem? h
  exact List.mem_append_right _ (List.mem_append_right _ (List.mem_append_right _ (List.mem_append_right _ (List.mem_append_left _ h))))
theorem TB_s5 {w : Cond} (i : Nat) (h : tables_1_5[i]? = some w) : w ∈ lw_tbl := by
  have h := List.mem_of_getElem? h
  exact List.mem_append_right _ (List.mem_append_right _ (List.mem_append_right _ (List.mem_append_right _ (List.mem_append_right _ (List.mem_append_left _ h)))))
theorem TB_s6 {w : Cond} (i : Nat) (h : tables_1_6[i]? = some w) : w ∈ lw_tbl := by
  have h := List.mem_of_getElem? h
  exact List.mem_append_right _ (List.mem_append_right _ (List.mem_append_right _ (List.mem_append_right _ (List.mem_append_right _ (List.mem_append_right _ (List.mem_append_left _ h))))))
theorem TB_s7 {w : Cond} (i : Nat) (h : tables_1_7[i]? = some w) : w ∈ lw_tbl := by
  have h := List.mem_of_getElem? h
  exact List.mem_append_right _ (List.mem_append_right _ (List.mem_append_right _ (List.mem_append_right _ (List.mem_append_right _ (List.mem_append_right _ (List.mem_append_right _ (h)))))))
theorem tb_1010 : Cond.stringRef "SchedulerTree" 319 "no such element" ∈ lw_tbl := TB_s5 50 rfl
theorem tb_1033 : Cond.stringRef "SchedulerTree" 225 "no such class at this node" ∈ lw_tbl := TB_s5 73 rfl
theorem tb_1052 : Cond.stringRef "SchedulerTree" 234 "no such place" ∈ lw_tbl := TB_s5 92 rfl
theorem tb_1085 : Cond.stringRef "SchedulerTree" 246 "no such packet waits" ∈ lw_tbl := TB_s5 125 rfl
theorem tb_1098 : Cond.stringRef "SchedulerTree" 323 "no such packet" ∈ lw_tbl := TB_s5 138 rfl
theorem tb_1167 : Cond.stringRef "SchedulerTree" 282 "too many checkpoints are kept" ∈ lw_tbl := TB_s5 207 rfl
theorem tb_1179 : Cond.stringRef "SchedulerTree" 334 "no checkpoint is kept" ∈ lw_tbl := TB_s5 219 rfl
theorem tb_128 : Cond.arrayOver (.object "SchedulerTree$World") ∈ lw_tbl := TB_s1 128 rfl
theorem tb_131 : Cond.methodLinkNest "SchedulerTree" 32 ⟨"SchedulerTree$Calculator", "<init>", "()V"⟩ "SchedulerTree" ∈ lw_tbl := TB_s1 131 rfl
theorem tb_149 : Cond.methodLinkNest "SchedulerTree$World" 17 ⟨"SchedulerTree$Plan", "<init>", "()V"⟩ "SchedulerTree" ∈ lw_tbl := TB_s1 149 rfl
theorem tb_151 : Cond.arrayOver (.object "SchedulerTree$Node") ∈ lw_tbl := TB_s1 151 rfl
theorem tb_154 : Cond.methodLinkNest "SchedulerTree$World" 30 ⟨"SchedulerTree$Packets", "<init>", "()V"⟩ "SchedulerTree" ∈ lw_tbl := TB_s1 154 rfl
theorem tb_230 : Cond.methodLinkNest "SchedulerTree$World" 44 ⟨"SchedulerTree$Line", "<init>", "()V"⟩ "SchedulerTree" ∈ lw_tbl := TB_s1 230 rfl
theorem tb_253 : Cond.methodLinkNest "SchedulerTree$World" 53 ⟨"SchedulerTree$Node", "<init>", "()V"⟩ "SchedulerTree" ∈ lw_tbl := TB_s2 13 rfl
theorem tb_332 : Cond.stringRef "SchedulerTree" 302 "p" ∈ lw_tbl := TB_s2 92 rfl
theorem tb_333 : Cond.stringRef "SchedulerTree" 304 "d" ∈ lw_tbl := TB_s2 93 rfl
theorem tb_334 : Cond.stringRef "SchedulerTree" 306 "M(v,a):r+l/w" ∈ lw_tbl := TB_s2 94 rfl
theorem tb_335 : Cond.stringRef "SchedulerTree" 308 "M(v,a):r+l*100/w;0<p;0<d;0<M(v,a):r+l*100/w&" ∈ lw_tbl := TB_s2 95 rfl
theorem tb_336 : Cond.stringRef "SchedulerTree" 310 "t;0<p@100,500;0<0@50,0%;0<d^" ∈ lw_tbl := TB_s2 96 rfl
theorem tb_337 : Cond.stringRef "SchedulerTree" 312 "0" ∈ lw_tbl := TB_s2 97 rfl
theorem tb_34 : Cond.methodLinkNest "SchedulerTree" 19 ⟨"SchedulerTree$Reader", "<init>", "()V"⟩ "SchedulerTree" ∈ lw_tbl := TB_s1 34 rfl
theorem tb_351 : Cond.laysStatic "java/lang/String" "COMPACT_STRINGS" "Z" ∈ lw_tbl := TB_s2 111 rfl
theorem tb_367 : Cond.laysStatic "jdk/internal/util/Preconditions" "SIOOBE_FORMATTER" "Ljava/util/function/BiFunction;" ∈ lw_tbl := TB_s2 127 rfl
theorem tb_385 : Cond.laysStatic "java/lang/StringUTF16" "$assertionsDisabled" "Z" ∈ lw_tbl := TB_s2 145 rfl
theorem tb_387 : Cond.laysStatic "java/lang/StringUTF16" "HI_BYTE_SHIFT" "I" ∈ lw_tbl := TB_s2 147 rfl
theorem tb_389 : Cond.laysStatic "java/lang/StringUTF16" "LO_BYTE_SHIFT" "I" ∈ lw_tbl := TB_s2 149 rfl
theorem tb_40 : Cond.methodLinkNest "SchedulerTree$Reader" 11 ⟨"SchedulerTree$Plan", "<init>", "()V"⟩ "SchedulerTree" ∈ lw_tbl := TB_s1 40 rfl
theorem tb_441 : Cond.stringRef "SchedulerTree$Reader" 131 "pldfwatvnr" ∈ lw_tbl := TB_s2 201 rfl
theorem tb_528 : Cond.stringRef "SchedulerTree$Reader" 98 "^%&" ∈ lw_tbl := TB_s3 48 rfl
theorem tb_768 : Cond.castable "java/lang/IllegalArgumentException" "java/lang/IllegalArgumentException" ∈ lw_tbl := TB_s4 48 rfl
theorem tb_769 : Cond.declares ⟨"java/lang/RuntimeException", "<init>", "()V"⟩ ∈ lw_tbl := TB_s4 49 rfl
theorem tb_770 : Cond.declares ⟨"java/lang/RuntimeException", "<init>", "(Ljava/lang/String;)V"⟩ ∈ lw_tbl := TB_s4 50 rfl
theorem tb_771 : Cond.declares ⟨"java/lang/Exception", "<init>", "()V"⟩ ∈ lw_tbl := TB_s4 51 rfl
theorem tb_772 : Cond.declares ⟨"java/lang/Exception", "<init>", "(Ljava/lang/String;)V"⟩ ∈ lw_tbl := TB_s4 52 rfl
theorem tb_773 : Cond.declares ⟨"java/lang/Throwable", "<init>", "()V"⟩ ∈ lw_tbl := TB_s4 53 rfl
theorem tb_774 : Cond.declares ⟨"java/lang/Throwable", "<init>", "(Ljava/lang/String;)V"⟩ ∈ lw_tbl := TB_s4 54 rfl
theorem tb_793 : Cond.laysStatic "java/lang/Throwable" "UNASSIGNED_STACK" "[Ljava/lang/StackTraceElement;" ∈ lw_tbl := TB_s4 73 rfl
theorem tb_795 : Cond.laysStatic "java/lang/Throwable" "SUPPRESSED_SENTINEL" "Ljava/util/List;" ∈ lw_tbl := TB_s4 75 rfl
theorem tb_807 : Cond.stringRef "SchedulerTree" 53 "no such character" ∈ lw_tbl := TB_s4 87 rfl
theorem tb_835 : Cond.castable "java/lang/IllegalStateException" "java/lang/IllegalStateException" ∈ lw_tbl := TB_s4 115 rfl
theorem tb_842 : Cond.stringRef "SchedulerTree" 63 "the text is full" ∈ lw_tbl := TB_s4 122 rfl
theorem tb_856 : Cond.stringRef "SchedulerTree" 96 "no such template" ∈ lw_tbl := TB_s4 136 rfl
theorem tb_867 : Cond.castable "java/lang/IndexOutOfBoundsException" "java/lang/IndexOutOfBoundsException" ∈ lw_tbl := TB_s4 147 rfl
theorem tb_874 : Cond.stringRef "SchedulerTree" 100 "no such error" ∈ lw_tbl := TB_s4 154 rfl
theorem tb_893 : Cond.stringRef "SchedulerTree" 317 "no such node" ∈ lw_tbl := TB_s4 173 rfl
theorem tb_918 : Cond.stringRef "SchedulerTree" 321 "no such flow" ∈ lw_tbl := TB_s4 198 rfl
theorem tb_922 : Cond.stringRef "SchedulerTree" 325 "no such weight" ∈ lw_tbl := TB_s4 202 rfl
theorem tb_938 : Cond.stringRef "SchedulerTree" 142 "the node is not a leaf" ∈ lw_tbl := TB_s4 218 rfl
theorem tb_953 : Cond.stringRef "SchedulerTree" 147 "no such rate" ∈ lw_tbl := TB_s4 233 rfl
theorem tb_964 : Cond.stringRef "SchedulerTree" 327 "no such length" ∈ lw_tbl := TB_s5 4 rfl
theorem tb_965 : Cond.stringRef "SchedulerTree" 329 "no such priority" ∈ lw_tbl := TB_s5 5 rfl
theorem tb_967 : Cond.stringRef "SchedulerTree" 332 "no such slack" ∈ lw_tbl := TB_s5 7 rfl
theorem tb_968 : Cond.stringRef "SchedulerTree" 156 "too many packets wait" ∈ lw_tbl := TB_s5 8 rfl
theorem tb_969 : Cond.stringRef "SchedulerTree" 167 "too many packets have arrived" ∈ lw_tbl := TB_s5 9 rfl
theorem tb_990 : Cond.stringRef "SchedulerTree" 187 "time does not go back" ∈ lw_tbl := TB_s5 30 rfl
set_option maxRecDepth 100000 in
set_option maxHeartbeats 4000000 in
theorem en_t0 {args : Array Value} {s : State} {A : Nat → Prop} (hn : ∀ w ∈ en_need, w.before args s = true) (hA : ∀ a : Nat, a < s.heap.size → ¬ A a) : ∃ a v : Nat, (Term.string "SchedulerTree" 302).eval args s none [] s = some (.ref a) ∧ va_O "java/lang/String" a A s s.heap ∧ va_OF "java/lang/String" "coder" "B" (.int 0) a A s s.heap ∧ va_OF "java/lang/String" "value" "[B" (.ref v) a A s s.heap ∧ va_T .byte v 1 (fun j => .int (([112] : List Int32).getD j 0)) A s s.heap :=
  en_tx (n := 1) (by decide) (hn _ (List.mem_of_getElem? (i := 0) rfl)) (hn _ (List.mem_of_getElem? (i := 1) rfl)) (hn _ (List.mem_of_getElem? (i := 2) rfl)) (hn _ (List.mem_of_getElem? (i := 3) rfl)) (fun j hj => by rcases (show j = 0 by omega) with rfl; exact (hn _ (List.mem_of_getElem? (i := 4) rfl))) hA
set_option maxRecDepth 100000 in
set_option maxHeartbeats 4000000 in
theorem en_t1 {args : Array Value} {s : State} {A : Nat → Prop} (hn : ∀ w ∈ en_need, w.before args s = true) (hA : ∀ a : Nat, a < s.heap.size → ¬ A a) : ∃ a v : Nat, (Term.string "SchedulerTree" 304).eval args s none [] s = some (.ref a) ∧ va_O "java/lang/String" a A s s.heap ∧ va_OF "java/lang/String" "coder" "B" (.int 0) a A s s.heap ∧ va_OF "java/lang/String" "value" "[B" (.ref v) a A s s.heap ∧ va_T .byte v 1 (fun j => .int (([100] : List Int32).getD j 0)) A s s.heap :=
  en_tx (n := 1) (by decide) (hn _ (List.mem_of_getElem? (i := 5) rfl)) (hn _ (List.mem_of_getElem? (i := 6) rfl)) (hn _ (List.mem_of_getElem? (i := 7) rfl)) (hn _ (List.mem_of_getElem? (i := 8) rfl)) (fun j hj => by rcases (show j = 0 by omega) with rfl; exact (hn _ (List.mem_of_getElem? (i := 9) rfl))) hA
set_option maxRecDepth 100000 in
set_option maxHeartbeats 4000000 in
theorem en_t2 {args : Array Value} {s : State} {A : Nat → Prop} (hn : ∀ w ∈ en_need, w.before args s = true) (hA : ∀ a : Nat, a < s.heap.size → ¬ A a) : ∃ a v : Nat, (Term.string "SchedulerTree" 306).eval args s none [] s = some (.ref a) ∧ va_O "java/lang/String" a A s s.heap ∧ va_OF "java/lang/String" "coder" "B" (.int 0) a A s s.heap ∧ va_OF "java/lang/String" "value" "[B" (.ref v) a A s s.heap ∧ va_T .byte v 12 (fun j => .int (([77, 40, 118, 44, 97, 41, 58, 114, 43, 108, 47, 119] : List Int32).getD j 0)) A s s.heap :=
  en_tx (n := 12) (by decide) (hn _ (List.mem_of_getElem? (i := 10) rfl)) (hn _ (List.mem_of_getElem? (i := 11) rfl)) (hn _ (List.mem_of_getElem? (i := 12) rfl)) (hn _ (List.mem_of_getElem? (i := 13) rfl)) (fun j hj => by
    rcases (show j = 0 ∨ j = 1 ∨ j = 2 ∨ j = 3 ∨ j = 4 ∨ j = 5 ∨ j = 6 ∨ j = 7 ∨ j = 8 ∨ j = 9 ∨ j = 10 ∨ j = 11 by omega) with rfl | rfl | rfl | rfl | rfl | rfl | rfl | rfl | rfl | rfl | rfl | rfl
    · exact (hn _ (List.mem_of_getElem? (i := 14) rfl))
    · exact (hn _ (List.mem_of_getElem? (i := 15) rfl))
    · exact (hn _ (List.mem_of_getElem? (i := 16) rfl))
    · exact (hn _ (List.mem_of_getElem? (i := 17) rfl))
    · exact (hn _ (List.mem_of_getElem? (i := 18) rfl))
    · exact (hn _ (List.mem_of_getElem? (i := 19) rfl))
    · exact (hn _ (List.mem_of_getElem? (i := 20) rfl))
    · exact (hn _ (List.mem_of_getElem? (i := 21) rfl))
    · exact (hn _ (List.mem_of_getElem? (i := 22) rfl))
    · exact (hn _ (List.mem_of_getElem? (i := 23) rfl))
    · exact (hn _ (List.mem_of_getElem? (i := 24) rfl))
    · exact (hn _ (List.mem_of_getElem? (i := 25) rfl))) hA
set_option maxRecDepth 100000 in
set_option maxHeartbeats 4000000 in
theorem en_t3 {args : Array Value} {s : State} {A : Nat → Prop} (hn : ∀ w ∈ en_need, w.before args s = true) (hA : ∀ a : Nat, a < s.heap.size → ¬ A a) : ∃ a v : Nat, (Term.string "SchedulerTree" 308).eval args s none [] s = some (.ref a) ∧ va_O "java/lang/String" a A s s.heap ∧ va_OF "java/lang/String" "coder" "B" (.int 0) a A s s.heap ∧ va_OF "java/lang/String" "value" "[B" (.ref v) a A s s.heap ∧ va_T .byte v 44 (fun j => .int (([77, 40, 118, 44, 97, 41, 58, 114, 43, 108, 42, 49, 48, 48, 47, 119, 59, 48, 60, 112, 59, 48, 60, 100, 59, 48, 60, 77, 40, 118, 44, 97, 41, 58, 114, 43, 108, 42, 49, 48, 48, 47, 119, 38] : List Int32).getD j 0)) A s s.heap :=
  en_tx (n := 44) (by decide) (hn _ (List.mem_of_getElem? (i := 26) rfl)) (hn _ (List.mem_of_getElem? (i := 27) rfl)) (hn _ (List.mem_of_getElem? (i := 28) rfl)) (hn _ (List.mem_of_getElem? (i := 29) rfl)) (fun j hj => by
    rcases (show j = 0 ∨ j = 1 ∨ j = 2 ∨ j = 3 ∨ j = 4 ∨ j = 5 ∨ j = 6 ∨ j = 7 ∨ j = 8 ∨ j = 9 ∨ j = 10 ∨ j = 11 ∨ j = 12 ∨ j = 13 ∨ j = 14 ∨ j = 15 ∨ j = 16 ∨ j = 17 ∨ j = 18 ∨ j = 19 ∨ j = 20 ∨ j = 21 ∨ j = 22 ∨ j = 23 ∨ j = 24 ∨ j = 25 ∨ j = 26 ∨ j = 27 ∨ j = 28 ∨ j = 29 ∨ j = 30 ∨ j = 31 ∨ j = 32 ∨ j = 33 ∨ j = 34 ∨ j = 35 ∨ j = 36 ∨ j = 37 ∨ j = 38 ∨ j = 39 ∨ j = 40 ∨ j = 41 ∨ j = 42 ∨ j = 43 by omega) with rfl | rfl | rfl | rfl | rfl | rfl | rfl | rfl | rfl | rfl | rfl | rfl | rfl | rfl | rfl | rfl | rfl | rfl | rfl | rfl | rfl | rfl | rfl | rfl | rfl | rfl | rfl | rfl | rfl | rfl | rfl | rfl | rfl | rfl | rfl | rfl | rfl | rfl | rfl | rfl | rfl | rfl | rfl | rfl
    · exact (hn _ (List.mem_of_getElem? (i := 30) rfl))
    · exact (hn _ (List.mem_of_getElem? (i := 31) rfl))
    · exact (hn _ (List.mem_of_getElem? (i := 32) rfl))
    · exact (hn _ (List.mem_of_getElem? (i := 33) rfl))
    · exact (hn _ (List.mem_of_getElem? (i := 34) rfl))
    · exact (hn _ (List.mem_of_getElem? (i := 35) rfl))
    · exact (hn _ (List.mem_of_getElem? (i := 36) rfl))
    · exact (hn _ (List.mem_of_getElem? (i := 37) rfl))
    · exact (hn _ (List.mem_of_getElem? (i := 38) rfl))
    · exact (hn _ (List.mem_of_getElem? (i := 39) rfl))
    · exact (hn _ (List.mem_of_getElem? (i := 40) rfl))
    · exact (hn _ (List.mem_of_getElem? (i := 41) rfl))
    · exact (hn _ (List.mem_of_getElem? (i := 42) rfl))
    · exact (hn _ (List.mem_of_getElem? (i := 43) rfl))
    · exact (hn _ (List.mem_of_getElem? (i := 44) rfl))
    · exact (hn _ (List.mem_of_getElem? (i := 45) rfl))
    · exact (hn _ (List.mem_of_getElem? (i := 46) rfl))
    · exact (hn _ (List.mem_of_getElem? (i := 47) rfl))
    · exact (hn _ (List.mem_of_getElem? (i := 48) rfl))
    · exact (hn _ (List.mem_of_getElem? (i := 49) rfl))
    · exact (hn _ (List.mem_of_getElem? (i := 50) rfl))
    · exact (hn _ (List.mem_of_getElem? (i := 51) rfl))
    · exact (hn _ (List.mem_of_getElem? (i := 52) rfl))
    · exact (hn _ (List.mem_of_getElem? (i := 53) rfl))
    · exact (hn _ (List.mem_of_getElem? (i := 54) rfl))
    · exact (hn _ (List.mem_of_getElem? (i := 55) rfl))
    · exact (hn _ (List.mem_of_getElem? (i := 56) rfl))
    · exact (hn _ (List.mem_of_getElem? (i := 57) rfl))
    · exact (hn _ (List.mem_of_getElem? (i := 58) rfl))
    · exact (hn _ (List.mem_of_getElem? (i := 59) rfl))
    · exact (hn _ (List.mem_of_getElem? (i := 60) rfl))
    · exact (hn _ (List.mem_of_getElem? (i := 61) rfl))
    · exact (hn _ (List.mem_of_getElem? (i := 62) rfl))
    · exact (hn _ (List.mem_of_getElem? (i := 63) rfl))
    · exact (hn _ (List.mem_of_getElem? (i := 64) rfl))
    · exact (hn _ (List.mem_of_getElem? (i := 65) rfl))
    · exact (hn _ (List.mem_of_getElem? (i := 66) rfl))
    · exact (hn _ (List.mem_of_getElem? (i := 67) rfl))
    · exact (hn _ (List.mem_of_getElem? (i := 68) rfl))
    · exact (hn _ (List.mem_of_getElem? (i := 69) rfl))
    · exact (hn _ (List.mem_of_getElem? (i := 70) rfl))
    · exact (hn _ (List.mem_of_getElem? (i := 71) rfl))
    · exact (hn _ (List.mem_of_getElem? (i := 72) rfl))
    · exact (hn _ (List.mem_of_getElem? (i := 73) rfl))) hA
set_option maxRecDepth 100000 in
set_option maxHeartbeats 4000000 in
theorem en_t4 {args : Array Value} {s : State} {A : Nat → Prop} (hn : ∀ w ∈ en_need, w.before args s = true) (hA : ∀ a : Nat, a < s.heap.size → ¬ A a) : ∃ a v : Nat, (Term.string "SchedulerTree" 310).eval args s none [] s = some (.ref a) ∧ va_O "java/lang/String" a A s s.heap ∧ va_OF "java/lang/String" "coder" "B" (.int 0) a A s s.heap ∧ va_OF "java/lang/String" "value" "[B" (.ref v) a A s s.heap ∧ va_T .byte v 28 (fun j => .int (([116, 59, 48, 60, 112, 64, 49, 48, 48, 44, 53, 48, 48, 59, 48, 60, 48, 64, 53, 48, 44, 48, 37, 59, 48, 60, 100, 94] : List Int32).getD j 0)) A s s.heap :=
  en_tx (n := 28) (by decide) (hn _ (List.mem_of_getElem? (i := 74) rfl)) (hn _ (List.mem_of_getElem? (i := 75) rfl)) (hn _ (List.mem_of_getElem? (i := 76) rfl)) (hn _ (List.mem_of_getElem? (i := 77) rfl)) (fun j hj => by
    rcases (show j = 0 ∨ j = 1 ∨ j = 2 ∨ j = 3 ∨ j = 4 ∨ j = 5 ∨ j = 6 ∨ j = 7 ∨ j = 8 ∨ j = 9 ∨ j = 10 ∨ j = 11 ∨ j = 12 ∨ j = 13 ∨ j = 14 ∨ j = 15 ∨ j = 16 ∨ j = 17 ∨ j = 18 ∨ j = 19 ∨ j = 20 ∨ j = 21 ∨ j = 22 ∨ j = 23 ∨ j = 24 ∨ j = 25 ∨ j = 26 ∨ j = 27 by omega) with rfl | rfl | rfl | rfl | rfl | rfl | rfl | rfl | rfl | rfl | rfl | rfl | rfl | rfl | rfl | rfl | rfl | rfl | rfl | rfl | rfl | rfl | rfl | rfl | rfl | rfl | rfl | rfl
    · exact (hn _ (List.mem_of_getElem? (i := 78) rfl))
    · exact (hn _ (List.mem_of_getElem? (i := 79) rfl))
    · exact (hn _ (List.mem_of_getElem? (i := 80) rfl))
    · exact (hn _ (List.mem_of_getElem? (i := 81) rfl))
    · exact (hn _ (List.mem_of_getElem? (i := 82) rfl))
    · exact (hn _ (List.mem_of_getElem? (i := 83) rfl))
    · exact (hn _ (List.mem_of_getElem? (i := 84) rfl))
    · exact (hn _ (List.mem_of_getElem? (i := 85) rfl))
    · exact (hn _ (List.mem_of_getElem? (i := 86) rfl))
    · exact (hn _ (List.mem_of_getElem? (i := 87) rfl))
    · exact (hn _ (List.mem_of_getElem? (i := 88) rfl))
    · exact (hn _ (List.mem_of_getElem? (i := 89) rfl))
    · exact (hn _ (List.mem_of_getElem? (i := 90) rfl))
    · exact (hn _ (List.mem_of_getElem? (i := 91) rfl))
    · exact (hn _ (List.mem_of_getElem? (i := 92) rfl))
    · exact (hn _ (List.mem_of_getElem? (i := 93) rfl))
    · exact (hn _ (List.mem_of_getElem? (i := 94) rfl))
    · exact (hn _ (List.mem_of_getElem? (i := 95) rfl))
    · exact (hn _ (List.mem_of_getElem? (i := 96) rfl))
    · exact (hn _ (List.mem_of_getElem? (i := 97) rfl))
    · exact (hn _ (List.mem_of_getElem? (i := 98) rfl))
    · exact (hn _ (List.mem_of_getElem? (i := 99) rfl))
    · exact (hn _ (List.mem_of_getElem? (i := 100) rfl))
    · exact (hn _ (List.mem_of_getElem? (i := 101) rfl))
    · exact (hn _ (List.mem_of_getElem? (i := 102) rfl))
    · exact (hn _ (List.mem_of_getElem? (i := 103) rfl))
    · exact (hn _ (List.mem_of_getElem? (i := 104) rfl))
    · exact (hn _ (List.mem_of_getElem? (i := 105) rfl))) hA
set_option maxRecDepth 100000 in
set_option maxHeartbeats 4000000 in
theorem en_t5 {args : Array Value} {s : State} {A : Nat → Prop} (hn : ∀ w ∈ en_need, w.before args s = true) (hA : ∀ a : Nat, a < s.heap.size → ¬ A a) : ∃ a v : Nat, (Term.string "SchedulerTree" 312).eval args s none [] s = some (.ref a) ∧ va_O "java/lang/String" a A s s.heap ∧ va_OF "java/lang/String" "coder" "B" (.int 0) a A s s.heap ∧ va_OF "java/lang/String" "value" "[B" (.ref v) a A s s.heap ∧ va_T .byte v 1 (fun j => .int (([48] : List Int32).getD j 0)) A s s.heap :=
  en_tx (n := 1) (by decide) (hn _ (List.mem_of_getElem? (i := 106) rfl)) (hn _ (List.mem_of_getElem? (i := 107) rfl)) (hn _ (List.mem_of_getElem? (i := 108) rfl)) (hn _ (List.mem_of_getElem? (i := 109) rfl)) (fun j hj => by rcases (show j = 0 by omega) with rfl; exact (hn _ (List.mem_of_getElem? (i := 110) rfl))) hA
set_option maxRecDepth 100000 in
set_option maxHeartbeats 4000000 in
theorem en_t6 {args : Array Value} {s : State} {A : Nat → Prop} (hn : ∀ w ∈ en_need, w.before args s = true) (hA : ∀ a : Nat, a < s.heap.size → ¬ A a) : ∃ a v : Nat, (Term.string "SchedulerTree$Reader" 131).eval args s none [] s = some (.ref a) ∧ va_O "java/lang/String" a A s s.heap ∧ va_OF "java/lang/String" "coder" "B" (.int 0) a A s s.heap ∧ va_OF "java/lang/String" "value" "[B" (.ref v) a A s s.heap ∧ va_T .byte v 10 (fun j => .int (([112, 108, 100, 102, 119, 97, 116, 118, 110, 114] : List Int32).getD j 0)) A s s.heap :=
  en_tx (n := 10) (by decide) (hn _ (List.mem_of_getElem? (i := 111) rfl)) (hn _ (List.mem_of_getElem? (i := 112) rfl)) (hn _ (List.mem_of_getElem? (i := 113) rfl)) (hn _ (List.mem_of_getElem? (i := 114) rfl)) (fun j hj => by
    rcases (show j = 0 ∨ j = 1 ∨ j = 2 ∨ j = 3 ∨ j = 4 ∨ j = 5 ∨ j = 6 ∨ j = 7 ∨ j = 8 ∨ j = 9 by omega) with rfl | rfl | rfl | rfl | rfl | rfl | rfl | rfl | rfl | rfl
    · exact (hn _ (List.mem_of_getElem? (i := 115) rfl))
    · exact (hn _ (List.mem_of_getElem? (i := 116) rfl))
    · exact (hn _ (List.mem_of_getElem? (i := 117) rfl))
    · exact (hn _ (List.mem_of_getElem? (i := 118) rfl))
    · exact (hn _ (List.mem_of_getElem? (i := 119) rfl))
    · exact (hn _ (List.mem_of_getElem? (i := 120) rfl))
    · exact (hn _ (List.mem_of_getElem? (i := 121) rfl))
    · exact (hn _ (List.mem_of_getElem? (i := 122) rfl))
    · exact (hn _ (List.mem_of_getElem? (i := 123) rfl))
    · exact (hn _ (List.mem_of_getElem? (i := 124) rfl))) hA
set_option maxRecDepth 100000 in
set_option maxHeartbeats 4000000 in
theorem en_t7 {args : Array Value} {s : State} {A : Nat → Prop} (hn : ∀ w ∈ en_need, w.before args s = true) (hA : ∀ a : Nat, a < s.heap.size → ¬ A a) : ∃ a v : Nat, (Term.string "SchedulerTree$Reader" 98).eval args s none [] s = some (.ref a) ∧ va_O "java/lang/String" a A s s.heap ∧ va_OF "java/lang/String" "coder" "B" (.int 0) a A s s.heap ∧ va_OF "java/lang/String" "value" "[B" (.ref v) a A s s.heap ∧ va_T .byte v 3 (fun j => .int (([94, 37, 38] : List Int32).getD j 0)) A s s.heap :=
  en_tx (n := 3) (by decide) (hn _ (List.mem_of_getElem? (i := 125) rfl)) (hn _ (List.mem_of_getElem? (i := 126) rfl)) (hn _ (List.mem_of_getElem? (i := 127) rfl)) (hn _ (List.mem_of_getElem? (i := 128) rfl)) (fun j hj => by
    rcases (show j = 0 ∨ j = 1 ∨ j = 2 by omega) with rfl | rfl | rfl
    · exact (hn _ (List.mem_of_getElem? (i := 129) rfl))
    · exact (hn _ (List.mem_of_getElem? (i := 130) rfl))
    · exact (hn _ (List.mem_of_getElem? (i := 131) rfl))) hA
set_option maxRecDepth 100000 in
set_option maxHeartbeats 4000000 in
theorem en_t8 {args : Array Value} {s : State} (hn : ∀ w ∈ en_need, w.before args s = true) : ∃ a : Nat, (Term.string "SchedulerTree" 53).eval args s none [] s = some (.ref a) := by
  obtain ⟨a, c, cA, kA, q1, -⟩ := Cond.exactly_spec (args := args) (first := s) (o := none) (s := s) (idx := []) (t := (Term.string "SchedulerTree" 53)) (cls := "java/lang/String") (hn _ (List.mem_of_getElem? (i := 132) rfl))
  exact ⟨a, q1⟩
set_option maxRecDepth 100000 in
set_option maxHeartbeats 4000000 in
theorem en_t9 {args : Array Value} {s : State} (hn : ∀ w ∈ en_need, w.before args s = true) : ∃ a : Nat, (Term.string "SchedulerTree" 63).eval args s none [] s = some (.ref a) := by
  obtain ⟨a, c, cA, kA, q1, -⟩ := Cond.exactly_spec (args := args) (first := s) (o := none) (s := s) (idx := []) (t := (Term.string "SchedulerTree" 63)) (cls := "java/lang/String") (hn _ (List.mem_of_getElem? (i := 133) rfl))
  exact ⟨a, q1⟩
set_option maxRecDepth 100000 in
set_option maxHeartbeats 4000000 in
theorem en_t10 {args : Array Value} {s : State} (hn : ∀ w ∈ en_need, w.before args s = true) : ∃ a : Nat, (Term.string "SchedulerTree" 96).eval args s none [] s = some (.ref a) := by
  obtain ⟨a, c, cA, kA, q1, -⟩ := Cond.exactly_spec (args := args) (first := s) (o := none) (s := s) (idx := []) (t := (Term.string "SchedulerTree" 96)) (cls := "java/lang/String") (hn _ (List.mem_of_getElem? (i := 134) rfl))
  exact ⟨a, q1⟩
set_option maxRecDepth 100000 in
set_option maxHeartbeats 4000000 in
theorem en_t11 {args : Array Value} {s : State} (hn : ∀ w ∈ en_need, w.before args s = true) : ∃ a : Nat, (Term.string "SchedulerTree" 100).eval args s none [] s = some (.ref a) := by
  obtain ⟨a, c, cA, kA, q1, -⟩ := Cond.exactly_spec (args := args) (first := s) (o := none) (s := s) (idx := []) (t := (Term.string "SchedulerTree" 100)) (cls := "java/lang/String") (hn _ (List.mem_of_getElem? (i := 135) rfl))
  exact ⟨a, q1⟩
set_option maxRecDepth 100000 in
set_option maxHeartbeats 4000000 in
theorem en_t12 {args : Array Value} {s : State} (hn : ∀ w ∈ en_need, w.before args s = true) : ∃ a : Nat, (Term.string "SchedulerTree" 317).eval args s none [] s = some (.ref a) := by
  obtain ⟨a, c, cA, kA, q1, -⟩ := Cond.exactly_spec (args := args) (first := s) (o := none) (s := s) (idx := []) (t := (Term.string "SchedulerTree" 317)) (cls := "java/lang/String") (hn _ (List.mem_of_getElem? (i := 136) rfl))
  exact ⟨a, q1⟩
set_option maxRecDepth 100000 in
set_option maxHeartbeats 4000000 in
theorem en_t13 {args : Array Value} {s : State} (hn : ∀ w ∈ en_need, w.before args s = true) : ∃ a : Nat, (Term.string "SchedulerTree" 321).eval args s none [] s = some (.ref a) := by
  obtain ⟨a, c, cA, kA, q1, -⟩ := Cond.exactly_spec (args := args) (first := s) (o := none) (s := s) (idx := []) (t := (Term.string "SchedulerTree" 321)) (cls := "java/lang/String") (hn _ (List.mem_of_getElem? (i := 137) rfl))
  exact ⟨a, q1⟩
set_option maxRecDepth 100000 in
set_option maxHeartbeats 4000000 in
theorem en_t14 {args : Array Value} {s : State} (hn : ∀ w ∈ en_need, w.before args s = true) : ∃ a : Nat, (Term.string "SchedulerTree" 325).eval args s none [] s = some (.ref a) := by
  obtain ⟨a, c, cA, kA, q1, -⟩ := Cond.exactly_spec (args := args) (first := s) (o := none) (s := s) (idx := []) (t := (Term.string "SchedulerTree" 325)) (cls := "java/lang/String") (hn _ (List.mem_of_getElem? (i := 138) rfl))
  exact ⟨a, q1⟩
set_option maxRecDepth 100000 in
set_option maxHeartbeats 4000000 in
theorem en_t15 {args : Array Value} {s : State} (hn : ∀ w ∈ en_need, w.before args s = true) : ∃ a : Nat, (Term.string "SchedulerTree" 142).eval args s none [] s = some (.ref a) := by
  obtain ⟨a, c, cA, kA, q1, -⟩ := Cond.exactly_spec (args := args) (first := s) (o := none) (s := s) (idx := []) (t := (Term.string "SchedulerTree" 142)) (cls := "java/lang/String") (hn _ (List.mem_of_getElem? (i := 139) rfl))
  exact ⟨a, q1⟩
set_option maxRecDepth 100000 in
set_option maxHeartbeats 4000000 in
theorem en_t16 {args : Array Value} {s : State} (hn : ∀ w ∈ en_need, w.before args s = true) : ∃ a : Nat, (Term.string "SchedulerTree" 147).eval args s none [] s = some (.ref a) := by
  obtain ⟨a, c, cA, kA, q1, -⟩ := Cond.exactly_spec (args := args) (first := s) (o := none) (s := s) (idx := []) (t := (Term.string "SchedulerTree" 147)) (cls := "java/lang/String") (hn _ (List.mem_of_getElem? (i := 140) rfl))
  exact ⟨a, q1⟩
set_option maxRecDepth 100000 in
set_option maxHeartbeats 4000000 in
theorem en_t17 {args : Array Value} {s : State} (hn : ∀ w ∈ en_need, w.before args s = true) : ∃ a : Nat, (Term.string "SchedulerTree" 327).eval args s none [] s = some (.ref a) := by
  obtain ⟨a, c, cA, kA, q1, -⟩ := Cond.exactly_spec (args := args) (first := s) (o := none) (s := s) (idx := []) (t := (Term.string "SchedulerTree" 327)) (cls := "java/lang/String") (hn _ (List.mem_of_getElem? (i := 141) rfl))
  exact ⟨a, q1⟩
set_option maxRecDepth 100000 in
set_option maxHeartbeats 4000000 in
theorem en_t18 {args : Array Value} {s : State} (hn : ∀ w ∈ en_need, w.before args s = true) : ∃ a : Nat, (Term.string "SchedulerTree" 329).eval args s none [] s = some (.ref a) := by
  obtain ⟨a, c, cA, kA, q1, -⟩ := Cond.exactly_spec (args := args) (first := s) (o := none) (s := s) (idx := []) (t := (Term.string "SchedulerTree" 329)) (cls := "java/lang/String") (hn _ (List.mem_of_getElem? (i := 142) rfl))
  exact ⟨a, q1⟩
set_option maxRecDepth 100000 in
set_option maxHeartbeats 4000000 in
theorem en_t19 {args : Array Value} {s : State} (hn : ∀ w ∈ en_need, w.before args s = true) : ∃ a : Nat, (Term.string "SchedulerTree" 332).eval args s none [] s = some (.ref a) := by
  obtain ⟨a, c, cA, kA, q1, -⟩ := Cond.exactly_spec (args := args) (first := s) (o := none) (s := s) (idx := []) (t := (Term.string "SchedulerTree" 332)) (cls := "java/lang/String") (hn _ (List.mem_of_getElem? (i := 143) rfl))
  exact ⟨a, q1⟩
set_option maxRecDepth 100000 in
set_option maxHeartbeats 4000000 in
theorem en_t20 {args : Array Value} {s : State} (hn : ∀ w ∈ en_need, w.before args s = true) : ∃ a : Nat, (Term.string "SchedulerTree" 156).eval args s none [] s = some (.ref a) := by
  obtain ⟨a, c, cA, kA, q1, -⟩ := Cond.exactly_spec (args := args) (first := s) (o := none) (s := s) (idx := []) (t := (Term.string "SchedulerTree" 156)) (cls := "java/lang/String") (hn _ (List.mem_of_getElem? (i := 144) rfl))
  exact ⟨a, q1⟩
set_option maxRecDepth 100000 in
set_option maxHeartbeats 4000000 in
theorem en_t21 {args : Array Value} {s : State} (hn : ∀ w ∈ en_need, w.before args s = true) : ∃ a : Nat, (Term.string "SchedulerTree" 167).eval args s none [] s = some (.ref a) := by
  obtain ⟨a, c, cA, kA, q1, -⟩ := Cond.exactly_spec (args := args) (first := s) (o := none) (s := s) (idx := []) (t := (Term.string "SchedulerTree" 167)) (cls := "java/lang/String") (hn _ (List.mem_of_getElem? (i := 145) rfl))
  exact ⟨a, q1⟩
set_option maxRecDepth 100000 in
set_option maxHeartbeats 4000000 in
theorem en_t22 {args : Array Value} {s : State} (hn : ∀ w ∈ en_need, w.before args s = true) : ∃ a : Nat, (Term.string "SchedulerTree" 187).eval args s none [] s = some (.ref a) := by
  obtain ⟨a, c, cA, kA, q1, -⟩ := Cond.exactly_spec (args := args) (first := s) (o := none) (s := s) (idx := []) (t := (Term.string "SchedulerTree" 187)) (cls := "java/lang/String") (hn _ (List.mem_of_getElem? (i := 146) rfl))
  exact ⟨a, q1⟩
set_option maxRecDepth 100000 in
set_option maxHeartbeats 4000000 in
theorem en_t23 {args : Array Value} {s : State} (hn : ∀ w ∈ en_need, w.before args s = true) : ∃ a : Nat, (Term.string "SchedulerTree" 319).eval args s none [] s = some (.ref a) := by
  obtain ⟨a, c, cA, kA, q1, -⟩ := Cond.exactly_spec (args := args) (first := s) (o := none) (s := s) (idx := []) (t := (Term.string "SchedulerTree" 319)) (cls := "java/lang/String") (hn _ (List.mem_of_getElem? (i := 147) rfl))
  exact ⟨a, q1⟩
set_option maxRecDepth 100000 in
set_option maxHeartbeats 4000000 in
theorem en_t24 {args : Array Value} {s : State} (hn : ∀ w ∈ en_need, w.before args s = true) : ∃ a : Nat, (Term.string "SchedulerTree" 225).eval args s none [] s = some (.ref a) := by
  obtain ⟨a, c, cA, kA, q1, -⟩ := Cond.exactly_spec (args := args) (first := s) (o := none) (s := s) (idx := []) (t := (Term.string "SchedulerTree" 225)) (cls := "java/lang/String") (hn _ (List.mem_of_getElem? (i := 148) rfl))
  exact ⟨a, q1⟩
set_option maxRecDepth 100000 in
set_option maxHeartbeats 4000000 in
theorem en_t25 {args : Array Value} {s : State} (hn : ∀ w ∈ en_need, w.before args s = true) : ∃ a : Nat, (Term.string "SchedulerTree" 234).eval args s none [] s = some (.ref a) := by
  obtain ⟨a, c, cA, kA, q1, -⟩ := Cond.exactly_spec (args := args) (first := s) (o := none) (s := s) (idx := []) (t := (Term.string "SchedulerTree" 234)) (cls := "java/lang/String") (hn _ (List.mem_of_getElem? (i := 149) rfl))
  exact ⟨a, q1⟩
set_option maxRecDepth 100000 in
set_option maxHeartbeats 4000000 in
theorem en_t26 {args : Array Value} {s : State} (hn : ∀ w ∈ en_need, w.before args s = true) : ∃ a : Nat, (Term.string "SchedulerTree" 246).eval args s none [] s = some (.ref a) := by
  obtain ⟨a, c, cA, kA, q1, -⟩ := Cond.exactly_spec (args := args) (first := s) (o := none) (s := s) (idx := []) (t := (Term.string "SchedulerTree" 246)) (cls := "java/lang/String") (hn _ (List.mem_of_getElem? (i := 150) rfl))
  exact ⟨a, q1⟩
set_option maxRecDepth 100000 in
set_option maxHeartbeats 4000000 in
theorem en_t27 {args : Array Value} {s : State} (hn : ∀ w ∈ en_need, w.before args s = true) : ∃ a : Nat, (Term.string "SchedulerTree" 323).eval args s none [] s = some (.ref a) := by
  obtain ⟨a, c, cA, kA, q1, -⟩ := Cond.exactly_spec (args := args) (first := s) (o := none) (s := s) (idx := []) (t := (Term.string "SchedulerTree" 323)) (cls := "java/lang/String") (hn _ (List.mem_of_getElem? (i := 151) rfl))
  exact ⟨a, q1⟩
set_option maxRecDepth 100000 in
set_option maxHeartbeats 4000000 in
theorem en_t28 {args : Array Value} {s : State} (hn : ∀ w ∈ en_need, w.before args s = true) : ∃ a : Nat, (Term.string "SchedulerTree" 282).eval args s none [] s = some (.ref a) := by
  obtain ⟨a, c, cA, kA, q1, -⟩ := Cond.exactly_spec (args := args) (first := s) (o := none) (s := s) (idx := []) (t := (Term.string "SchedulerTree" 282)) (cls := "java/lang/String") (hn _ (List.mem_of_getElem? (i := 152) rfl))
  exact ⟨a, q1⟩
set_option maxRecDepth 100000 in
set_option maxHeartbeats 4000000 in
theorem en_t29 {args : Array Value} {s : State} (hn : ∀ w ∈ en_need, w.before args s = true) : ∃ a : Nat, (Term.string "SchedulerTree" 334).eval args s none [] s = some (.ref a) := by
  obtain ⟨a, c, cA, kA, q1, -⟩ := Cond.exactly_spec (args := args) (first := s) (o := none) (s := s) (idx := []) (t := (Term.string "SchedulerTree" 334)) (cls := "java/lang/String") (hn _ (List.mem_of_getElem? (i := 153) rfl))
  exact ⟨a, q1⟩
set_option maxRecDepth 100000 in
set_option maxHeartbeats 8000000 in
theorem law_entry (l : Launch) (hflags : l.flags = flags0) {p : Program} {e : Env} {s : State} {m : MethodId} {below : List Frame} {meth : Method} {c : Code} {b L : Nat} {xs : Nat → Int32} (C0 : lw_At p s m meth c b L xs) : ∃ t : gT, gScL t = L ∧ gScX t = xs ∧ gScB t = b ∧ gBs t = s.heap.size ∧ g_Cx t (p, l, e, s, m, #[Value.ref b], below, meth, c, lw_Z below #[Value.ref b] s) code 8 RL (some .boolean) := by
  obtain ⟨hx, hb, hr, hml, hown, hts, hX, hbl, hlocks, hgv⟩ := id C0
  have hn : ∀ w ∈ en_need, w.before #[Value.ref b] s = true := fun w hw => flat_of_before _ hgv w (en_in w hw)
  have hA : ∀ a : Nat, a < s.heap.size → ¬ (fun q : Nat => s.heap.size ≤ q) a := fun a h => Nat.not_le.mpr h
  obtain ⟨c0, i0, k0⟩ := u_known (C := RX0) (T := TX0) (N := 2) (n := 2) hts (fun w h => WL_tbl (inW_0 w h)) (hts _ (WL_tbl tw_130))
  obtain ⟨c1, i1, k1⟩ := u_known (C := RX1) (T := TX1) (N := 7) (n := 7) hts (fun w h => WL_tbl (inW_1 w h)) (hts _ (WL_tbl tw_192))
  obtain ⟨c2, i2, k2⟩ := u_known (C := RX2) (T := TX2) (N := 4) (n := 4) hts (fun w h => WL_tbl (inW_2 w h)) (hts _ (WL_tbl tw_229))
  obtain ⟨c3, i3, k3⟩ := u_known (C := RX3) (T := TX3) (N := 8) (n := 8) hts (fun w h => WL_tbl (inW_3 w h)) (hts _ (WL_tbl tw_252))
  obtain ⟨c4, i4, k4⟩ := u_known (C := RX4) (T := TX4) (N := 7) (n := 7) hts (fun w h => WL_tbl (inW_4 w h)) (hts _ (WL_tbl tw_153))
  obtain ⟨c5, i5, k5⟩ := u_known (C := RX5) (T := TX5) (N := 11) (n := 11) hts (fun w h => WL_tbl (inW_5 w h)) (hts _ (WL_tbl tw_39))
  obtain ⟨c6, i6, k6⟩ := u_known (C := RX6) (T := TX6) (N := 9) (n := 9) hts (fun w h => WL_tbl (inW_6 w h)) (hts _ (WL_tbl tw_33))
  obtain ⟨c7, i7, k7⟩ := u_known (C := RX7) (T := TX7) (N := 8) (n := 8) hts (fun w h => WL_tbl (inW_7 w h)) (hts _ (WL_tbl tw_143))
  obtain ⟨c8, i8, k8⟩ := u_known (C := RX8) (T := TX8) (N := 8) (n := 8) hts (fun w h => WL_tbl (inW_8 w h)) (hts _ (WL_tbl tw_25))
  obtain ⟨c9, i9, k9⟩ := u_known (C := RX9) (T := TX9) (N := 20) (n := 20) hts (fun w h => WL_tbl (inW_9 w h)) (hts _ (WL_tbl tw_1188))
  obtain ⟨aI, raI⟩ := en_arr (hts _ (WL_tbl tw_97)) (fun C h => by cases h)
  obtain ⟨aL, raL⟩ := en_arr (hts _ (WL_tbl tw_142)) (fun C h => by cases h)
  obtain ⟨aC, raC⟩ := en_arr (hts _ (WL_tbl tw_96)) (fun C h => by cases h)
  obtain ⟨aN, raN⟩ := en_over (hts _ tb_151)
  obtain ⟨aW, raW⟩ := en_over (hts _ tb_128)
  obtain ⟨s0, v0, e0, o0⟩ := en_t0 hn hA
  obtain ⟨s1, v1, e1, o1⟩ := en_t1 hn hA
  obtain ⟨s2, v2, e2, o2⟩ := en_t2 hn hA
  obtain ⟨s3, v3, e3, o3⟩ := en_t3 hn hA
  obtain ⟨s4, v4, e4, o4⟩ := en_t4 hn hA
  obtain ⟨s5, v5, e5, o5⟩ := en_t5 hn hA
  obtain ⟨s6, v6, e6, o6⟩ := en_t6 hn hA
  obtain ⟨s7, v7, e7, o7⟩ := en_t7 hn hA
  obtain ⟨s8, e8⟩ := en_t8 hn
  obtain ⟨s9, e9⟩ := en_t9 hn
  obtain ⟨s10, e10⟩ := en_t10 hn
  obtain ⟨s11, e11⟩ := en_t11 hn
  obtain ⟨s12, e12⟩ := en_t12 hn
  obtain ⟨s13, e13⟩ := en_t13 hn
  obtain ⟨s14, e14⟩ := en_t14 hn
  obtain ⟨s15, e15⟩ := en_t15 hn
  obtain ⟨s16, e16⟩ := en_t16 hn
  obtain ⟨s17, e17⟩ := en_t17 hn
  obtain ⟨s18, e18⟩ := en_t18 hn
  obtain ⟨s19, e19⟩ := en_t19 hn
  obtain ⟨s20, e20⟩ := en_t20 hn
  obtain ⟨s21, e21⟩ := en_t21 hn
  obtain ⟨s22, e22⟩ := en_t22 hn
  obtain ⟨s23, e23⟩ := en_t23 hn
  obtain ⟨s24, e24⟩ := en_t24 hn
  obtain ⟨s25, e25⟩ := en_t25 hn
  obtain ⟨s26, e26⟩ := en_t26 hn
  obtain ⟨s27, e27⟩ := en_t27 hn
  obtain ⟨s28, e28⟩ := en_t28 hn
  obtain ⟨s29, e29⟩ := en_t29 hn
  refine ⟨(((fun k => [c0, c1, c2, c3, c4, c5, c6, c7, c8, c9].getD k c0), (fun k => [i0, i1, i2, i3, i4, i5, i6, i7, i8, i9].getD k i0)), (fun k => [aI, aL, aC, aN, aW].getD k aI), (fun _ _ => 0), [], s.heap.size, ((fun i => [s0, s1, s2, s3, s4, s5, s6, s7, s8, s9, s10, s11, s12, s13, s14, s15, s16, s17, s18, s19, s20, s21, s22, s23, s24, s25, s26, s27, s28, s29].getD i 0), (fun i => [v0, v1, v2, v3, v4, v5, v6, v7].getD i 0)), (b, L, xs)), rfl, rfl, rfl, rfl, hx, hb, hml, hown, fun w hw => hts w (WL_tbl hw), ⟨⟨?_, ?_⟩, ?_, ?_, ?_, hts _ tb_151, hts _ tb_128⟩, ⟨Nat.le_refl _, ?_, vx_Zqof (hts _ tb_793) (hts _ (WL_tbl tw_18)) (hn _ (List.mem_of_getElem? (i := 162) rfl)) hA, vx_Zqof (hts _ tb_795) (hts _ (WL_tbl tw_18)) (hn _ (List.mem_of_getElem? (i := 163) rfl)) hA, va_Zof (hts _ tb_351) (hts _ (WL_tbl tw_10)) (va_eqi (hn _ (List.mem_of_getElem? (i := 160) rfl))) hA, va_Zqof (hts _ tb_367) (hts _ (WL_tbl tw_12)) (hn _ (List.mem_of_getElem? (i := 161) rfl)) hA, hX, hbl⟩, hr, hlocks, ?_⟩
  · intro k q hq
    match k, hq with
    | 0, hq => cases hq; exact k0
    | 1, hq => cases hq; exact k1
    | 2, hq => cases hq; exact k2
    | 3, hq => cases hq; exact k3
    | 4, hq => cases hq; exact k4
    | 5, hq => cases hq; exact k5
    | 6, hq => cases hq; exact k6
    | 7, hq => cases hq; exact k7
    | 8, hq => cases hq; exact k8
    | 9, hq => cases hq; exact k9
    | k + 10, hq => simp [vwCl] at hq
  · intro k q hq
    match k, hq with
    | 0, hq => cases hq; exact raI
    | 1, hq => cases hq; exact raL
    | 2, hq => cases hq; exact raC
    | 3, hq => cases hq; exact raN
    | 4, hq => cases hq; exact raW
    | k + 5, hq => simp [g_tys] at hq
  · intro k q hq
    match k, hq with
    | 0, hq => cases hq; exact vk_R.of (hts _ tb_332) e0
    | 1, hq => cases hq; exact vk_R.of (hts _ tb_333) e1
    | 2, hq => cases hq; exact vk_R.of (hts _ tb_334) e2
    | 3, hq => cases hq; exact vk_R.of (hts _ tb_335) e3
    | 4, hq => cases hq; exact vk_R.of (hts _ tb_336) e4
    | 5, hq => cases hq; exact vk_R.of (hts _ tb_337) e5
    | 6, hq => cases hq; exact vk_R.of (hts _ tb_441) e6
    | 7, hq => cases hq; exact vk_R.of (hts _ tb_528) e7
    | 8, hq => cases hq; exact vk_R.of (hts _ tb_807) e8
    | 9, hq => cases hq; exact vk_R.of (hts _ tb_842) e9
    | 10, hq => cases hq; exact vk_R.of (hts _ tb_856) e10
    | 11, hq => cases hq; exact vk_R.of (hts _ tb_874) e11
    | 12, hq => cases hq; exact vk_R.of (hts _ tb_893) e12
    | 13, hq => cases hq; exact vk_R.of (hts _ tb_918) e13
    | 14, hq => cases hq; exact vk_R.of (hts _ tb_922) e14
    | 15, hq => cases hq; exact vk_R.of (hts _ tb_938) e15
    | 16, hq => cases hq; exact vk_R.of (hts _ tb_953) e16
    | 17, hq => cases hq; exact vk_R.of (hts _ tb_964) e17
    | 18, hq => cases hq; exact vk_R.of (hts _ tb_965) e18
    | 19, hq => cases hq; exact vk_R.of (hts _ tb_967) e19
    | 20, hq => cases hq; exact vk_R.of (hts _ tb_968) e20
    | 21, hq => cases hq; exact vk_R.of (hts _ tb_969) e21
    | 22, hq => cases hq; exact vk_R.of (hts _ tb_990) e22
    | 23, hq => cases hq; exact vk_R.of (hts _ tb_1010) e23
    | 24, hq => cases hq; exact vk_R.of (hts _ tb_1033) e24
    | 25, hq => cases hq; exact vk_R.of (hts _ tb_1052) e25
    | 26, hq => cases hq; exact vk_R.of (hts _ tb_1085) e26
    | 27, hq => cases hq; exact vk_R.of (hts _ tb_1098) e27
    | 28, hq => cases hq; exact vk_R.of (hts _ tb_1167) e28
    | 29, hq => cases hq; exact vk_R.of (hts _ tb_1179) e29
    | k + 30, hq => simp [g_strs] at hq
  · exact (show ∀ w ∈ g_nw, va_Nw w s from (List.forall_mem_cons.mpr ⟨va_Nw.of rfl (hts _ tb_768), (List.forall_mem_cons.mpr ⟨va_Nw.of rfl (hts _ tb_835), (List.forall_mem_cons.mpr ⟨va_Nw.of rfl (hts _ tb_867), (List.forall_mem_cons.mpr ⟨va_Nw.of rfl (hts _ tb_769), (List.forall_mem_cons.mpr ⟨va_Nw.of rfl (hts _ tb_770), (List.forall_mem_cons.mpr ⟨va_Nw.of rfl (hts _ tb_771), (List.forall_mem_cons.mpr ⟨va_Nw.of rfl (hts _ tb_772), (List.forall_mem_cons.mpr ⟨va_Nw.of rfl (hts _ tb_773), (List.forall_mem_cons.mpr ⟨va_Nw.of rfl (hts _ tb_774), (List.forall_mem_cons.mpr ⟨va_Nw.of rfl (hts _ tb_34), (List.forall_mem_cons.mpr ⟨va_Nw.of rfl (hts _ tb_40), (List.forall_mem_cons.mpr ⟨va_Nw.of rfl (hts _ tb_131), (List.forall_mem_cons.mpr ⟨va_Nw.of rfl (hts _ tb_149), (List.forall_mem_cons.mpr ⟨va_Nw.of rfl (hts _ tb_154), (List.forall_mem_cons.mpr ⟨va_Nw.of rfl (hts _ tb_230), (List.forall_mem_cons.mpr ⟨va_Nw.of rfl (hts _ tb_253), (fun _ h => absurd h List.not_mem_nil)⟩)⟩)⟩)⟩)⟩)⟩)⟩)⟩)⟩)⟩)⟩)⟩)⟩)⟩)⟩)⟩))
  · intro e f he hf hne
    rcases (show e = 0 ∨ e = 1 ∨ e = 2 by omega) with rfl | rfl | rfl <;> rcases (show f = 0 ∨ f = 1 ∨ f = 2 by omega) with rfl | rfl | rfl
    · exact absurd rfl hne
    · exact va_Nc.of (hn _ (List.mem_of_getElem? (i := 154) rfl))
    · exact va_Nc.of (hn _ (List.mem_of_getElem? (i := 155) rfl))
    · exact va_Nc.of (hn _ (List.mem_of_getElem? (i := 156) rfl))
    · exact absurd rfl hne
    · exact va_Nc.of (hn _ (List.mem_of_getElem? (i := 157) rfl))
    · exact va_Nc.of (hn _ (List.mem_of_getElem? (i := 158) rfl))
    · exact va_Nc.of (hn _ (List.mem_of_getElem? (i := 159) rfl))
    · exact absurd rfl hne
  · intro i hi
    match i, hi with
    | 0, _ => exact o0
    | 1, _ => exact o1
    | 2, _ => exact o2
    | 3, _ => exact o3
    | 4, _ => exact o4
    | 5, _ => exact o5
    | 6, _ => exact o6
    | 7, _ => exact o7
    | i + 8, hi => exact absurd hi (by unfold g_nS; omega)
  · show l.stackTraces = false
    unfold Launch.stackTraces
    rw [hflags]
    decide +kernel
/-- THE LAW, from its entry, given the pure goal -/
theorem whole_of (hG : ∀ (L : Nat) (xs : Nat → Int32), L ≤ 2561 → g_Goal L xs) {p : Program} {e : Env} {s : State} {m : MethodId} {below : List Frame} {meth : Method} {c : Code} (l : Launch) (hflags : l.flags = flags0) {b L : Nat} {xs : Nat → Int32} (hL : L ≤ 2561) (C0 : lw_At p s m meth c b L xs) : W p l e room_1 s m #[Value.ref b] below meth c s.heap [] 0 0 (lw_Z below #[Value.ref b] s) (entryFrame m ([Value.ref b] : List Value).toArray 8) := by
  obtain ⟨t, h1, h2, h3, h4, cx⟩ := law_entry (e := e) (below := below) l hflags C0
  have hl0 := lv_entry [Value.ref b] (n := 8) (Nat.le_of_ble_eq_true rfl)
  rw [lg_entry_eq]
  have hp := law_pre1 (b := b) cx rfl rfl (Nat.le_of_eq h4.symm) (by rw [h1, h2]; exact hG L xs hL)
  refine hp s.heap [] _ ⟨fun k q h => by simp at h, ⟨fun i j p q h => by simp at h, fun k q h => by simp at h⟩⟩ va_S.rf ?_
  rw [h3]
  exact hl0
