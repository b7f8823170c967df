/-- as G, over any heap with P -/
def GP (P : Heap → Prop) (t : gT) (R : Room) (X : gX) (nL k n : Nat) (lv : List (Nat × Value)) (st : List Value) (pc : Nat) : Prop :=
  ∀ (H : Heap) (locs : List Loc) (ls : Array Slot), P H → va_S (g_A t) (gXs X).heap H locs → lv_has ls nL lv → W (gXp X) (gXl X) (gXe X) R (gXs X) (gXm X) (gXa X) (gXb X) (gXt X) (gXc X) H locs k n (gXQ X) (F0 (gXm X) pc ls st)
section GPX
variable {P : Heap → Prop} {t : gT} {R : Room} {X : gX} {nL k n : Nat} {lv : List (Nat × Value)} {st : List Value} {pc : Nat} {cc : ByteArray} {own : String} {ret : Option FieldType}
theorem gl_iconst (cx : g_Cx t X cc nL own ret) {z : Int} {v : Int32} (d : decode cc pc = .ok (.iconst z, 1)) (hv : Int32.ofInt z = v) (kk : GP P t R X nL k n lv (.int v :: st) (pc + 1)) : GP P t R X nL k n lv st pc := fun H locs ls a b c => lv_iconst cx.x cx.b d hv (kk H locs ls a b c)
theorem gl_bipush (cx : g_Cx t X cc nL own ret) {z : Int} {v : Int32} (d : decode cc pc = .ok (.bipush z, 2)) (hv : (Int8.ofInt z).toInt32 = v) (kk : GP P t R X nL k n lv (.int v :: st) (pc + 2)) : GP P t R X nL k n lv st pc := fun H locs ls a b c => lv_bipush cx.x cx.b d hv (kk H locs ls a b c)
theorem gl_sipush (cx : g_Cx t X cc nL own ret) {z : Int} {v : Int32} (d : decode cc pc = .ok (.sipush z, 3)) (hv : (Int16.ofInt z).toInt32 = v) (kk : GP P t R X nL k n lv (.int v :: st) (pc + 3)) : GP P t R X nL k n lv st pc := fun H locs ls a b c => lv_sipush cx.x cx.b d hv (kk H locs ls a b c)
theorem gl_iload_n (cx : g_Cx t X cc nL own ret) (j : Nat) {q : Fin 4} {i : Nat} {x : Int32} (hj : lv[j]? = some (i, .int x)) (d : decode cc pc = .ok (.iload_n q, 1)) (hi : (q : Nat) = i) (kk : GP P t R X nL k n lv (.int x :: st) (pc + 1)) : GP P t R X nL k n lv st pc := fun H locs ls a b c => lv_iload_n cx.x cx.b d hi (lv_at c j hj) (kk H locs ls a b c)
theorem gl_aload_n (cx : g_Cx t X cc nL own ret) (j : Nat) {q : Fin 4} {i : Nat} {x : Nat} (hj : lv[j]? = some (i, .ref x)) (d : decode cc pc = .ok (.aload_n q, 1)) (hi : (q : Nat) = i) (kk : GP P t R X nL k n lv (.ref x :: st) (pc + 1)) : GP P t R X nL k n lv st pc := fun H locs ls a b c => lv_aload_n cx.x cx.b d hi (lv_at c j hj) (kk H locs ls a b c)
theorem gl_istore_n (cx : g_Cx t X cc nL own ret) {q : Fin 4} {i : Nat} {x : Int32} (lv' : List (Nat × Value)) (d : decode cc pc = .ok (.istore_n q, 1)) (hi : (q : Nat) = i) (hn : i < nL) (hl : (i, Value.int x) :: lv.filter (fun q => !(q.1 == i) && !(q.1 + 1 == i && q.2.category == 2)) = lv') (kk : GP P t R X nL k n lv' st (pc + 1)) : GP P t R X nL k n lv (.int x :: st) pc := fun H locs ls a b c => lv_istore_n cx.x cx.b d hi c hn hl (fun ls c => kk H locs ls a b c)
theorem gl_astore_n (cx : g_Cx t X cc nL own ret) {q : Fin 4} {i : Nat} {x : Nat} (lv' : List (Nat × Value)) (d : decode cc pc = .ok (.astore_n q, 1)) (hi : (q : Nat) = i) (hn : i < nL) (hl : (i, Value.ref x) :: lv.filter (fun q => !(q.1 == i) && !(q.1 + 1 == i && q.2.category == 2)) = lv') (kk : GP P t R X nL k n lv' st (pc + 1)) : GP P t R X nL k n lv (.ref x :: st) pc := fun H locs ls a b c => lv_astore_n cx.x cx.b d hi c hn hl (fun ls c => kk H locs ls a b c)
theorem gl_iinc (cx : g_Cx t X cc nL own ret) (j : Nat) {i : Nat} {z : Int} {x v : Int32} (lv' : List (Nat × Value)) (d : decode cc pc = .ok (.iinc i z, 3)) (hj : lv[j]? = some (i, .int x)) (hv : x + Int32.ofInt z = v) (hn : i < nL) (hl : (i, Value.int v) :: lv.filter (fun q => !(q.1 == i) && !(q.1 + 1 == i && q.2.category == 2)) = lv') (kk : GP P t R X nL k n lv' st (pc + 3)) : GP P t R X nL k n lv st pc := fun H locs ls a b c => lv_iinc cx.x cx.b d c hj hv hn hl (fun ls c => kk H locs ls a b c)
theorem gl_goto (cx : g_Cx t X cc nL own ret) {off : Int} {tgt : Nat} (d : decode cc pc = .ok (.goto off, 3)) (ht : (pc : Int) + off = (tgt : Int)) (kk : GP P t R X nL k n lv st tgt) : GP P t R X nL k n lv st pc := fun H locs ls a b c => lv_goto cx.x cx.b d ht (kk H locs ls a b c)
theorem gl_dup (cx : g_Cx t X cc nL own ret) {v : Value} (d : decode cc pc = .ok (.dup, 1)) (hv : v.category = 1) (kk : GP P t R X nL k n lv (v :: v :: st) (pc + 1)) : GP P t R X nL k n lv (v :: st) pc := fun H locs ls a b c => lv_dup cx.x cx.b d hv (kk H locs ls a b c)
theorem gl_icmp_ge (cx : g_Cx t X cc nL own ret) {x y : Int32} {off : Int} {tgt : Nat} (d : decode cc pc = .ok (.if_icmp .ge off, 3)) (ht : (pc : Int) + off = (tgt : Int)) (kt : y ≤ x → GP P t R X nL k n lv st tgt) (kf : ¬ y ≤ x → GP P t R X nL k n lv st (pc + 3)) : GP P t R X nL k n lv (.int y :: .int x :: st) pc := fun H locs ls a b c => lv_icmp_ge cx.x cx.b d ht (fun h => kt h H locs ls a b c) (fun h => kf h H locs ls a b c)
theorem gl_wide {k' n' : Nat} (h1 : k ≤ k') (h2 : n ≤ n') (kk : GP P t R X nL k' n' lv st pc) : GP P t R X nL k n lv st pc := fun H locs ls a b c => W.widen h1 h2 (kk H locs ls a b c)
theorem gl_lv {lv' : List (Nat × Value)} (ks : List Nat) (h : lv_pick lv ks = lv') (kk : GP P t R X nL k n lv' st pc) : GP P t R X nL k n lv st pc := fun H locs ls a b c => kk H locs ls a b (lv_sub c ks h)
end GPX
/-- the heap holds these cells -/
def gl_P (t : gT) (ws : va_W) : Heap → Prop := fun H => va_P (gD t) vwCl ws H ∧ va_D (g_A t) ws
theorem gl_D_iff {A : Nat → Prop} {ws : va_W} : va_D A ws ↔ (ws.map (fun x => x.1)).Nodup ∧ ∀ x ∈ ws, A x.1 := by
  constructor
  · intro h
    refine ⟨?_, fun x hx => ?_⟩
    · rw [List.nodup_iff_pairwise_ne, List.pairwise_iff_getElem]
      intro i j hi hj hij he
      simp only [List.length_map] at hi hj
      simp only [List.getElem_map] at he
      have := h.1 i j ws[i] ws[j] (List.getElem?_eq_getElem hi) (List.getElem?_eq_getElem hj) he
      omega
    · obtain ⟨k, hk⟩ := List.getElem?_of_mem hx
      exact h.2 k x hk
  · intro h
    refine ⟨fun i j p q hi hj he => ?_, fun k q hk => h.2 q (List.mem_of_getElem? hk)⟩
    have hn := h.1
    rw [List.nodup_iff_pairwise_ne, List.pairwise_iff_getElem] at hn
    obtain ⟨li, ei⟩ := List.getElem?_eq_some_iff.mp hi
    obtain ⟨lj, ej⟩ := List.getElem?_eq_some_iff.mp hj
    rcases Nat.lt_trichotomy i j with q1 | q1 | q1
    · have h3 := hn i j (by simpa using li) (by simpa using lj) q1
      rw [List.getElem_map, List.getElem_map, ei, ej] at h3
      exact absurd he h3
    · exact q1
    · have h3 := hn j i (by simpa using lj) (by simpa using li) q1
      rw [List.getElem_map, List.getElem_map, ei, ej] at h3
      exact absurd he.symm h3
theorem gl_P_perm {t : gT} {ws ws' : va_W} (hp : ws.Perm ws') {H : Heap} (h : gl_P t ws H) : gl_P t ws' H := by
  refine ⟨fun k q hk => ?_, ?_⟩
  · obtain ⟨j, hj⟩ := List.getElem?_of_mem (hp.mem_iff.mpr (List.mem_of_getElem? hk))
    exact h.1 j q hj
  · have hd := gl_D_iff.mp h.2
    exact gl_D_iff.mpr ⟨(hp.map _).nodup_iff.mp hd.1, fun x hx => hd.2 x (hp.mem_iff.mpr hx)⟩
section GLX
variable {t : gT} {R : Room} {X : gX} {nL k n : Nat} {ws : va_W} {lv : List (Nat × Value)} {st : List Value} {pc : Nat} {cc : ByteArray} {own : String} {ret : Option FieldType}
theorem gl_perm {ws' : va_W} (hp : ws.Perm ws') (kk : GP (gl_P t ws') t R X nL k n lv st pc) : GP (gl_P t ws) t R X nL k n lv st pc := fun H locs ls a b c => kk H locs ls (gl_P_perm hp a) b c
/-- a cell behind a list comes to the front -/
theorem gl_rot {A : va_W} {c : Nat × va_E} {r : va_W} (kk : GP (gl_P t (c :: (A ++ r))) t R X nL k n lv st pc) : GP (gl_P t (A ++ c :: r)) t R X nL k n lv st pc := gl_perm List.perm_middle kk
theorem g_Cx.hA (cx : g_Cx t X cc nL own ret) : ∀ q, (gXs X).heap.size ≤ q → g_A t q := fun q h => Nat.le_trans cx.S.1 h
theorem gl_new (cx : g_Cx t X cc nL own ret) {ci N ix : Nat} {C : String} {T : u_T} {fs : List Value} (ty : Nat → FieldType) (hin : ∀ w ∈ u_ws C T N, w ∈ WL) (hty : ∀ k, k < N → parseFieldDescriptor (T k).2.2.1 = some (ty k)) (hcl : Cond.classLink own ix C ∈ WL) (hinst : Cond.instantiable C N ∈ WL) (hini : Cond.initialized C ∈ WL) (hc : vwCl[ci]? = some (C, T, N)) (hfs : ∀ j, j < N → defaultValue (ty j) = vp_V fs j) (hcells : k + 1 ≤ R.cells) (hslots : n + N ≤ R.slots) (d : decode cc pc = .ok (.new ix, 3))
    (kk : ∀ q : Nat, GP (gl_P t ((q, .inr (ci, fs)) :: ws)) t R X nL (k + 1) (n + N) lv (.ref q :: st) (pc + 3)) : GP (gl_P t ws) t R X nL k n lv st pc := fun H locs ls a b c =>
  va_new cx.x cx.b cx.ts hin ty hty cx.ow (cx.ts _ hcl) (cx.ts _ hinst) (cx.ts _ hini) cx.T.1 a.1 a.2 b cx.hA hc hfs hcells hslots d (fun q H1 hP hD hS => kk q H1 locs ls (gl_P_perm (List.perm_append_singleton _ _) ⟨hP, hD⟩) hS c)
theorem gl_newa (cx : g_Cx t X cc nL own ret) {atype : ArrayType} {ty : FieldType} {ca : Nat} (hw : Cond.arrayClass ty ∈ WL) (hty : newarray.typeOf atype = ty) (hca : (g_tys t)[ca]? = some (gCA t ca, ty)) (hob : ∀ C, ty ≠ .object C) {a0 : vp_A} {x : Int32} {N : Nat} (ha0 : ∀ cA : ClassId, vp_cell cA a0 = arrV cA N (fun _ => defaultValue ty)) (hx : ¬ x < 0) (hN : x.toNatClampNeg = N) (hbytes : N * componentBytes ty ≤ 536870912) (hcells : k + 1 ≤ R.cells) (hslots : n + N ≤ R.slots) (d : decode cc pc = .ok (.newarray atype, 2))
    (kk : ∀ q : Nat, GP (gl_P t ((q, .inl (gCA t ca, a0)) :: ws)) t R X nL (k + 1) (n + N) lv (.ref q :: st) (pc + 2)) : GP (gl_P t ws) t R X nL k n lv (.int x :: st) pc := fun H locs ls a b c => by
  refine va_newa cx.x cx.b (atype := atype) (by rw [hty]; exact cx.ts _ hw) hty cx.T.1 a.1 a.2 b cx.hA ha0 hx hN hbytes hcells hslots d (fun q cA H1 hK hP hD hS => ?_)
  have hRA := (cx.T.1.2 ca _ hca).2
  have hNm := (hK.2 (g_tys t).length (cA, ty) (by simp)).2
  have hcA : cA = gCA t ca := by
    cases ty with
    | object C => exact absurd rfl (hob C)
    | _ => exact Option.some.inj (hNm.symm.trans hRA)
  subst hcA
  exact kk q H1 locs ls (gl_P_perm (List.perm_append_singleton _ _) ⟨hP, hD⟩) hS c
theorem gl_anew (cx : g_Cx t X cc nL own ret) {C : String} {ix ca : Nat} (hcl : Cond.classLink own ix C ∈ WL) (hover : va_AO C (gXs X)) (hca : (g_tys t)[ca]? = some (gCA t ca, .object C)) {x : Int32} {N : Nat} (hx : ¬ x < 0) (hN : x.toNatClampNeg = N) (hbytes : N * 4 ≤ 536870912) (hcells : k + 1 ≤ R.cells) (hslots : n + N ≤ R.slots) (d : decode cc pc = .ok (.anewarray ix, 3))
    (kk : ∀ q : Nat, GP (gl_P t ((q, .inl (gCA t ca, N, .inr (.inr (.inr (.inr (fun _ => none)))))) :: ws)) t R X nL (k + 1) (n + N) lv (.ref q :: st) (pc + 3)) : GP (gl_P t ws) t R X nL k n lv (.int x :: st) pc := fun H locs ls a b c => by
  refine va_newq cx.x cx.b cx.ow (cx.ts _ hcl) hover cx.T.1 a.1 a.2 b cx.hA hx hN hbytes hcells hslots d (fun q cA H1 hK hP hD hS => ?_)
  have hRA := (cx.T.1.2 ca _ hca).2
  have hNm := (hK.2 (g_tys t).length (cA, .object C) (by simp)).2
  have hcA : cA = gCA t ca := by
    obtain ⟨kB, compB, g1, g2, g3, g4⟩ := hRA
    obtain ⟨kD, compD, f1, f2, f3, f4⟩ := hNm
    exact Option.some.inj (f4.symm.trans g4)
  subst hcA
  exact kk q H1 locs ls (gl_P_perm (List.perm_append_singleton _ _) ⟨hP, hD⟩) hS c
theorem gl_objInit {P : Heap → Prop} (cx : g_Cx t X cc nL own ret) {ix q : Nat} (hl : Cond.methodLink own ix Lib.objectInit ∈ WL) (hw : Cond.instanceMethod Lib.objectInit ∈ WL ∧ Cond.code Lib.objectInit ⟨#[0xb1]⟩ 1 none ∈ WL) (hR : 1 ≤ R.frames ∧ (st.map fun v => v.category).sum + 12 ≤ R.locals) (d : decode cc pc = .ok (.invokespecial ix, 3)) (kk : GP P t R X nL k n lv st (pc + 3)) : GP P t R X nL k n lv (.ref q :: st) pc := fun H locs ls a b c =>
  W.objInit cx.x cx.b cx.ow (cx.ts _ hl) (cx.ts _ hw.1) (cx.ts _ hw.2) rfl (c.1.trans cx.ml.symm) rfl d hR.1 (by simpa [JFrame.monitorRoom] using hR.2) (kk H locs ls a b c)
theorem gl_get (cx : g_Cx t X cc nL own ret) (q0 : Nat) {ci N ix j a : Nat} {C : String} {T : u_T} {fs : List Value} {v : Value} (he : ws[q0]? = some (a, .inr (ci, fs))) (hcl : vwCl[ci]? = some (C, T, N)) (hin : ∀ w ∈ u_ws C T N, w ∈ WL) (hj : j < N) (hlink : Cond.fieldLink own ix (T j).1 (T j).2.1 (T j).2.2.1 ∈ WL) (hv : fs[j]? = some v) (d : decode cc pc = .ok (.getfield ix, 3)) (kk : GP (gl_P t ws) t R X nL k n lv (v :: st) (pc + 3)) : GP (gl_P t ws) t R X nL k n lv (.ref a :: st) pc := fun H locs ls hp b c =>
  va_get cx.x cx.b cx.ts hin cx.ow cx.T.1 hp.1 q0 he hcl j hj (cx.ts _ hlink) (fun _ h => h) hv d (kk H locs ls hp b c)
theorem gl_put (cx : g_Cx t X cc nL own ret) (q0 : Nat) {ws' : va_W} {ci N ix j a : Nat} {C : String} {T : u_T} {fs : List Value} {v : Value} {ty : FieldType} (he : ws[q0]? = some (a, .inr (ci, fs))) (hcl : vwCl[ci]? = some (C, T, N)) (hin : ∀ w ∈ u_ws C T N, w ∈ WL) (ty0 : Nat → FieldType) (hty : ∀ k, k < N → parseFieldDescriptor (T k).2.2.1 = some (ty0 k)) (hnm : ∀ a, a < N → ∀ b, b < N → a ≠ b → (T a).2.1 ≠ (T b).2.1) (hj : j < N) (hlink : Cond.fieldLink own ix (T j).1 (T j).2.1 (T j).2.2.1 ∈ WL) (hfin : (T j).2.2.2 = false) (hd : parseFieldDescriptor (T j).2.2.1 = some ty) (hn : narrow ty v = v) (hfit : fits ty v = true) (hl : j < fs.length) (hset : ws.set q0 (a, .inr (ci, fs.set j v)) = ws') (d : decode cc pc = .ok (.putfield ix, 3))
    (kk : GP (gl_P t ws') t R X nL k n lv st (pc + 3)) : GP (gl_P t ws) t R X nL k n lv (v :: .ref a :: st) pc := fun H locs ls hp b c => by
  subst hset
  exact va_put cx.x cx.b cx.ts hin ty0 hty hnm cx.ow cx.T.1 hp.1 hp.2 b q0 he hcl j hj (cx.ts _ hlink) (fun _ h => h) hfin hd hn hfit hl d (fun H1 locs1 hP hD hS => kk H1 locs1 ls ⟨hP, hD⟩ hS c)
theorem gl_putF (cx : g_Cx t X cc nL own ret) (hm : (gXt X).name = "<init>") (q0 : Nat) {ws' : va_W} {ci N ix j a : Nat} {C : String} {T : u_T} {fs : List Value} {v : Value} {ty : FieldType} (he : ws[q0]? = some (a, .inr (ci, fs))) (hcl : vwCl[ci]? = some (C, T, N)) (hin : ∀ w ∈ u_ws C T N, w ∈ WL) (ty0 : Nat → FieldType) (hty : ∀ k, k < N → parseFieldDescriptor (T k).2.2.1 = some (ty0 k)) (hnm : ∀ a, a < N → ∀ b, b < N → a ≠ b → (T a).2.1 ≠ (T b).2.1) (hj : j < N) (hlink : Cond.fieldLink own ix (T j).1 (T j).2.1 (T j).2.2.1 ∈ WL) (hfin : (T j).2.2.2 = true) (hdecl : (T j).1 = own) (hd : parseFieldDescriptor (T j).2.2.1 = some ty) (hn : narrow ty v = v) (hfit : fits ty v = true) (hl : j < fs.length) (hset : ws.set q0 (a, .inr (ci, fs.set j v)) = ws') (d : decode cc pc = .ok (.putfield ix, 3))
    (kk : GP (gl_P t ws') t R X nL k n lv st (pc + 3)) : GP (gl_P t ws) t R X nL k n lv (v :: .ref a :: st) pc := fun H locs ls hp b c => by
  subst hset
  exact va_putF cx.x cx.b cx.ts hin ty0 hty hnm cx.ow cx.T.1 hp.1 hp.2 b q0 he hcl j hj (cx.ts _ hlink) (fun _ h => h) hfin hm hdecl hd hn hfit hl d (fun H1 locs1 hP hD hS => kk H1 locs1 ls ⟨hP, hD⟩ hS c)
theorem gl_iast (cx : g_Cx t X cc nL own ret) (q0 : Nat) {ws' : va_W} {a N : Nat} {f : Nat → Int32} {i x : Int32} (he : ws[q0]? = some (a, .inl (gCA t 0, N, .inl f))) (hi : vp_in i N) (hset : ws.set q0 (a, .inl (gCA t 0, N, .inl (upd f i.toNatClampNeg x))) = ws') (d : decode cc pc = .ok (.iastore, 1))
    (kk : GP (gl_P t ws') t R X nL k n lv st (pc + 1)) : GP (gl_P t ws) t R X nL k n lv (.int x :: .int i :: .ref a :: st) pc := fun H locs ls hp b c => by
  subst hset
  exact va_iast cx.x cx.b cx.T.1 hp.1 hp.2 b q0 0 he rfl hi d (fun H1 locs1 hP hD hS => kk H1 locs1 ls ⟨hP, hD⟩ hS c)
theorem gl_cast (cx : g_Cx t X cc nL own ret) (q0 : Nat) {ws' : va_W} {a N : Nat} {f : Nat → Int32} {i x : Int32} (he : ws[q0]? = some (a, .inl (gCA t 2, N, .inl f))) (hi : vp_in i N) (hset : ws.set q0 (a, .inl (gCA t 2, N, .inl (upd f i.toNatClampNeg (vp_nar .char x)))) = ws') (d : decode cc pc = .ok (.castore, 1))
    (kk : GP (gl_P t ws') t R X nL k n lv st (pc + 1)) : GP (gl_P t ws) t R X nL k n lv (.int x :: .int i :: .ref a :: st) pc := fun H locs ls hp b c => by
  subst hset
  exact va_cast cx.x cx.b cx.T.1 hp.1 hp.2 b q0 2 he rfl hi d (fun H1 locs1 hP hD hS => kk H1 locs1 ls ⟨hP, hD⟩ hS c)
theorem gl_aast (cx : g_Cx t X cc nL own ret) (q0 qk : Nat) {ws' : va_W} {a N ca ci v : Nat} {r : vw_C} {vs : List Value} {f : Nat → Option Nat} {i : Int32} (he : ws[q0]? = some (a, .inl (gCA t ca, N, .inr (.inr (.inr (.inr f)))))) (hca : (g_tys t)[ca]? = some (gCA t ca, .object r.1)) (hv : ws[qk]? = some (v, .inr (ci, vs))) (hc : vwCl[ci]? = some r) (hi : vp_in i N) (hset : ws.set q0 (a, .inl (gCA t ca, N, .inr (.inr (.inr (.inr (va_up f i.toNatClampNeg (some v))))))) = ws') (d : decode cc pc = .ok (.aastore, 1))
    (kk : GP (gl_P t ws') t R X nL k n lv st (pc + 1)) : GP (gl_P t ws) t R X nL k n lv (.ref v :: .int i :: .ref a :: st) pc := fun H locs ls hp b c => by
  subst hset
  exact va_astq cx.x cx.b cx.T.1 hp.1 hp.2 b q0 ca qk ci he hca hv hc hi d (fun H1 locs1 hP hD hS => kk H1 locs1 ls ⟨hP, hD⟩ hS c)
theorem gl_alen (cx : g_Cx t X cc nL own ret) (q0 : Nat) {a ca : Nat} {x : vp_A} {ty : FieldType} {v : Int32} (he : ws[q0]? = some (a, .inl (gCA t ca, x))) (hty : (g_tys t)[ca]? = some (gCA t ca, ty)) (hv : Int32.ofNat x.1 = v) (d : decode cc pc = .ok (.arraylength, 1)) (kk : GP (gl_P t ws) t R X nL k n lv (.int v :: st) (pc + 1)) : GP (gl_P t ws) t R X nL k n lv (.ref a :: st) pc := fun H locs ls hp b c =>
  va_alen cx.x cx.b cx.T.1 hp.1 q0 ca he hty hv d (kk H locs ls hp b c)
/-- a constructor's start and end -/
def gl_Pre (t : gT) (ws : va_W) (U : State) : Prop := g_T t U ∧ gl_P t ws U.heap ∧ g_S t U U.heap
def gl_B (t : gT) (ws : va_W) (U : State) : Prop := gl_P t ws U.heap
theorem gl_blind {av : List Value} : FrameBlind (va_Pc av (gl_Pre t ws)) := fun a U g mk q => ⟨q.1, g_T.same (s := U) rfl q.2.1, q.2.2.1, g_S.moved (u := U) (Vm.Alike.refl U.vm) q.2.2.2⟩
theorem gl_preS (cx : g_Cx t X cc nL own ret) {H : Heap} {locs : List Loc} (a : gl_P t ws H) (b : va_S (g_A t) (gXs X).heap H locs) {av : List Value} : PreS (gXs X) H (va_Pc av (gl_Pre t ws)) av := ⟨gl_blind, fun U hU hW => ⟨rfl, cx.T.warm hW, by rw [hU]; exact a, by rw [hU]; exact (cx.SH b).moved hW.alike⟩⟩
/-- a call of an own constructor (own: not private; nest: private, of a nest mate) -/
theorem gl_ctor (cx : g_Cx t X cc nL own ret) {y : MethodName} {bytes : ByteArray} {maxL nA ix q : Nat} {rm : Room} {As st0 : List Value} {K : va_W → Prop} (hy : g_Cal y bytes maxL none nA) (hy1 : y.name = "<init>") (hin : Cond.instanceMethod y ∈ WL) (hM : Met (gXl X) y (g_y y bytes maxL none) rm (va_Pc (.ref q :: As) (gl_Pre t ws)) (va_Qv K (gl_B t) (g_A t)) rm.cells rm.slots (g_A t))
    (hl : Cond.methodLink own ix y ∈ WL) (hn : As.length = nA) (hst : st0 = As.reverse ++ .ref q :: st) (hsm : (st.map fun v => v.category).sum ≤ 8) (hR : rm.frames + 1 ≤ R.frames ∧ 8 + (maxL + 11) + rm.locals ≤ R.locals) (hf : k + rm.cells ≤ R.cells ∧ n + rm.slots ≤ R.slots) (d : decode cc pc = .ok (.invokespecial ix, 3))
    (kk : ∀ ws' : va_W, K ws' → GP (gl_P t ws') t R X nL (k + rm.cells) (n + rm.slots) lv st (pc + 3)) : GP (gl_P t ws) t R X nL k n lv st0 pc := fun H locs ls a b c => by
  subst hst
  have hrun := va_runI (H := H) (locs := locs) (cells := k) (slots := n) (e := gXe X) (below := gXb X) (meth := gXt X) (As := As) (rest := st) (b := q) (g := F0 (gXm X) pc ls (As.reverse ++ .ref q :: st)) ⟨cx.x, cx.b, cx.ml, cx.ow, cx.ts⟩ hM (cwI nA cx.ts (WL_good (fun _ q => q) (g_y_in hy)) rfl rfl rfl (cx.ts _ hy.1) (cx.ts _ hl) (cx.ts _ hin) hy1 hy.2.2 hR) (gl_preS cx a b) rfl hn c.1 rfl (lv_room hsm) d hf
  refine va_callv hrun b (fun _ _ h => h) (fun _ h => h) (fun u tt H1 locs1 ht hvm hp hB hz1 hk1 hS => ?_)
  exact kk u hp H1 locs1 ls (by rw [← ht]; exact hB) hS c
theorem gl_ctorN (cx : g_Cx t X cc nL own ret) {y : MethodName} {bytes : ByteArray} {maxL nA ix q : Nat} {host : String} {rm : Room} {As st0 : List Value} {K : va_W → Prop} (hy : g_Cal y bytes maxL none nA) (hy1 : y.name = "<init>") (hin : Cond.instanceMethod y ∈ WL) (hM : Met (gXl X) y (g_y y bytes maxL none) rm (va_Pc (.ref q :: As) (gl_Pre t ws)) (va_Qv K (gl_B t) (g_A t)) rm.cells rm.slots (g_A t))
    (hl : Cond.methodLinkNest own ix y host ∈ g_nw) (hn : As.length = nA) (hst : st0 = As.reverse ++ .ref q :: st) (hsm : (st.map fun v => v.category).sum ≤ 8) (hR : rm.frames + 1 ≤ R.frames ∧ 8 + (maxL + 11) + rm.locals ≤ R.locals) (hf : k + rm.cells ≤ R.cells ∧ n + rm.slots ≤ R.slots) (d : decode cc pc = .ok (.invokespecial ix, 3))
    (kk : ∀ ws' : va_W, K ws' → GP (gl_P t ws') t R X nL (k + rm.cells) (n + rm.slots) lv st (pc + 3)) : GP (gl_P t ws) t R X nL k n lv st0 pc := fun H locs ls a b c => by
  subst hst
  have hrun := va_runIN (H := H) (locs := locs) (cells := k) (slots := n) (e := gXe X) (below := gXb X) (meth := gXt X) (As := As) (rest := st) (b := q) (g := F0 (gXm X) pc ls (As.reverse ++ .ref q :: st)) ⟨cx.x, cx.b, cx.ml, cx.ow, cx.ts⟩ hM ⟨va_cnB nA cx.ts (WL_good (fun _ q => q) (g_y_in hy)) rfl rfl rfl (cx.T.2.2.1 _ hl) (cx.ts _ hy.1) hy.2.2 hR, hy1, cx.ts _ hin⟩ (gl_preS cx a b) rfl hn c.1 rfl (lv_room hsm) d hf
  refine va_callv hrun b (fun _ _ h => h) (fun _ h => h) (fun u tt H1 locs1 ht hvm hp hB hz1 hk1 hS => ?_)
  exact kk u hp H1 locs1 ls (by rw [← ht]; exact hB) hS c
theorem gl_vret (cx : g_Cx t X cc nL own none) {K : va_W → Prop} (hQ : gXQ X = MQ (gXb X) (va_Qv K (gl_B t) (g_A t)) (gXa X) (gXs X) k n (g_A t)) (h : K ws) (d : decode cc pc = .ok (.return_, 1)) : GP (gl_P t ws) t R X nL k n lv [] pc := fun H locs ls a b c => by
  rw [hQ]
  exact W.vret cx.x cx.b cx.r (fun u hu hW => ⟨⟨ws, rfl, h, by show gl_P t ws u.heap; rw [hu]; exact a⟩, g_F cx b hu⟩) (fun q hq => b.2.2 q hq) d cx.lk
end GLX
/-- a constructor's contract out of its walk -/
theorem gl_met {l : Launch} (hl : l.stackTraces = false) {t : gT} {y : MethodName} {bytes : ByteArray} {maxL : Nat} {rt : Option FieldType} {rm : Room} {av : List Value} {ws : va_W} {Qc : Array Value → State → Outcome → State → Prop} (hy : plainName y.cls = true) (hsz : (lg_sl av).length ≤ maxL)
    (body : ∀ X : gX, gXl X = l → g_Cx t X bytes maxL y.cls rt → (gXt X).name = y.name → gXQ X = MQ (gXb X) Qc (gXa X) (gXs X) rm.cells rm.slots (g_A t) → GP (gl_P t ws) t rm X maxL 0 0 (lv_args 0 av) [] 0) : Met l y (g_y y bytes maxL rt) rm (va_Pc av (gl_Pre t ws)) Qc rm.cells rm.slots (g_A t) := by
  refine Met.ofW (cc := bytes) (maxL := maxL) (ret := rt) hy rfl ?_
  intro p e s m args below meth c s₁ B hml hv
  obtain ⟨rfl, hT, hH, hSS⟩ := hv
  have hts := atoms_spec (ws := g_y y bytes maxL rt) B.pre
  have hl0 := lv_entry av (n := maxL) hsz
  rw [lg_entry_eq]
  exact body (p, l, e, s, m, av.toArray, below, meth, c, MQ below Qc av.toArray s rm.cells rm.slots (g_A t)) rfl ⟨B.exec, B.bytes, hml, findClass_of_methodNamed B.named, fun w hw => hts w (List.mem_cons_of_mem _ hw), hT, hSS, B.returns, B.notSynchronized, hl⟩ (name_of_methodNamed B.named B.method).1 rfl s.heap [] _ hH va_S.rf hl0
