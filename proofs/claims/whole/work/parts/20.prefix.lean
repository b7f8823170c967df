def g_c0 (L : Nat) (xs : Nat → Int32) : Int32 := if Int32.ofNat L ≤ 0 then 0 else xs 0
section GL3
variable {P : Heap → Prop} {t : gT} {R : Room} {X : gX} {nL k n : Nat} {ws : va_W} {lv : List (Nat × Value)} {st : List Value} {pc : Nat} {cc : ByteArray} {own : String} {ret : Option FieldType}
theorem gl_slen (cx : g_Cx t X cc nL own ret) (d : decode cc pc = .ok (.arraylength, 1)) (kk : GP P t R X nL k n lv (.int (Int32.ofNat (gScL t)) :: st) (pc + 1)) : GP P t R X nL k n lv (.ref (gScB t) :: st) pc := fun H locs ls a b c =>
  va_slen cx.x cx.b cx.S.2.2.2.2.2.2.1 (Nat.lt_of_lt_of_le cx.S.2.2.2.2.2.2.2 cx.S.1) (Nat.not_le.mpr cx.S.2.2.2.2.2.2.2) b d (kk H locs ls a b c)
theorem gl_sld (cx : g_Cx t X cc nL own ret) {i : Int32} (hi : vp_in i (gScL t)) (d : decode cc pc = .ok (.iaload, 1)) (kk : GP P t R X nL k n lv (.int (gScX t i.toNatClampNeg) :: st) (pc + 1)) : GP P t R X nL k n lv (.int i :: .ref (gScB t) :: st) pc := fun H locs ls a b c =>
  va_sld cx.x cx.b cx.S.2.2.2.2.2.2.1 (Nat.lt_of_lt_of_le cx.S.2.2.2.2.2.2.2 cx.S.1) (Nat.not_le.mpr cx.S.2.2.2.2.2.2.2) b hi d (kk H locs ls a b c)
theorem gl_istore (cx : g_Cx t X cc nL own ret) {i : Nat} {x : Int32} (lv' : List (Nat × Value)) (d : decode cc pc = .ok (.istore i, 2)) (hn : i < nL) (hl : (i, Value.int x) :: lv.filter (fun q => !(q.1 == i) && !(q.1 + 1 == i && q.2.category == 2)) = lv') (kk : GP P t R X nL k n lv' st (pc + 2)) : GP P t R X nL k n lv (.int x :: st) pc := fun H locs ls a b c => lv_istore cx.x cx.b d c hn hl (fun ls c => kk H locs ls a b c)
theorem gl_iret (cx : g_Cx t X cc nL own (some .int)) {K : Int32 → va_W → Prop} (hQ : gXQ X = MQ (gXb X) (va_Qi K (gl_B t) (g_A t)) (gXa X) (gXs X) k n (g_A t)) {r : Int32} (h : K r ws) (d : decode cc pc = .ok (.ireturn, 1)) : GP (gl_P t ws) t R X nL k n lv [.int r] pc := fun H locs ls a b c => by
  rw [hQ]
  exact W.iret cx.x cx.b cx.r (fun u hu hW => ⟨⟨r, ws, rfl, h, by show gl_P t ws u.heap; rw [hu]; exact a⟩, g_F cx b hu⟩) (fun q hq => b.2.2 q hq) d cx.lk
theorem gl_callSi (cx : g_Cx t X cc nL own ret) {y : MethodName} {bytes : ByteArray} {maxL nA ix : Nat} {rt : Option FieldType} {rm : Room} {As st0 : List Value} {K : Int32 → va_W → Prop} (hy : g_Cal y bytes maxL rt nA) (hv : Cond.static y ∈ WL) (hM : Met (gXl X) y (g_y y bytes maxL rt) rm (va_Pc As (gl_Pre t ws)) (va_Qi K (gl_B t) (g_A t)) rm.cells rm.slots (g_A t))
    (hl : Cond.methodLink own ix y ∈ WL) (hn : As.length = nA) (hst : st0 = As.reverse ++ st) (hsm : (st.map fun v => v.category).sum ≤ 8) (hR : rm.frames + 1 ≤ R.frames ∧ 8 + (maxL + 11) + rm.locals ≤ R.locals) (hf : k + rm.cells ≤ R.cells ∧ n + rm.slots ≤ R.slots) (d : decode cc pc = .ok (.invokestatic ix, 3))
    (kk : ∀ (r : Int32) (ws' : va_W), K r ws' → GP (gl_P t ws') t R X nL (k + rm.cells) (n + rm.slots) lv (.int r :: st) (pc + 3)) : GP (gl_P t ws) t R X nL k n lv st0 pc := fun H locs ls a b c => by
  subst hst
  have hrun := va_runS (H := H) (locs := locs) (cells := k) (slots := n) (e := gXe X) (below := gXb X) (meth := gXt X) (As := As) (rest := st) (g := F0 (gXm X) pc ls (As.reverse ++ st)) ⟨cx.x, cx.b, cx.ml, cx.ow, cx.ts⟩ hM (g_cwS cx.ts hy hv hl hR) (gl_preS cx a b) rfl hn c.1 rfl (lv_room hsm) d hf
  refine va_calli hrun b (fun _ _ h => h) (fun _ h => h) (fun r u tt H1 locs1 ht hvm hp hB hz1 hk1 hS => ?_)
  exact kk r u hp H1 locs1 ls (by rw [← ht]; exact hB) hS c
theorem gl_ctorT (cx : g_Cx t X cc nL own ret) {y : MethodName} {bytes : ByteArray} {maxL nA ix q : Nat} {rm : Room} {As st0 : List Value} {KK : gT × gM → Prop} (hy : g_Cal y bytes maxL none nA) (hy1 : y.name = "<init>") (hin : Cond.instanceMethod y ∈ WL) (hM : Met (gXl X) y (g_y y bytes maxL none) rm (va_Pc (.ref q :: As) (gl_Pre t ws)) (g_Qt t KK) rm.cells rm.slots (g_A t))
    (hl : Cond.methodLink own ix y ∈ WL) (hn : As.length = nA) (hst : st0 = As.reverse ++ .ref q :: st) (hsm : (st.map fun v => v.category).sum ≤ 8) (hR : rm.frames + 1 ≤ R.frames ∧ 8 + (maxL + 11) + rm.locals ≤ R.locals) (hf : k + rm.cells ≤ R.cells ∧ n + rm.slots ≤ R.slots) (d : decode cc pc = .ok (.invokespecial ix, 3))
    (kk : ∀ u : gT × gM, KK u → GP (gl_P u.1 (g_ws u.1 u.2)) t R X nL (k + rm.cells) (n + rm.slots) lv st (pc + 3)) : GP (gl_P t ws) t R X nL k n lv st0 pc := fun H locs ls a b c => by
  subst hst
  have hrun := va_runI (H := H) (locs := locs) (cells := k) (slots := n) (e := gXe X) (below := gXb X) (meth := gXt X) (As := As) (rest := st) (b := q) (g := F0 (gXm X) pc ls (As.reverse ++ .ref q :: st)) ⟨cx.x, cx.b, cx.ml, cx.ow, cx.ts⟩ hM (cwI nA cx.ts (WL_good (fun _ q => q) (g_y_in hy)) rfl rfl rfl (cx.ts _ hy.1) (cx.ts _ hl) (cx.ts _ hin) hy1 hy.2.2 hR) (gl_preS cx a b) rfl hn c.1 rfl (lv_room hsm) d hf
  unfold g_Qt at hrun
  refine va_callv hrun b (fun _ _ h => h) (fun _ h => h) (fun u tt H1 locs1 ht hvm hp hB hz1 hk1 hS => ?_)
  exact kk u hp H1 locs1 ls ⟨by rw [← ht]; exact hB.1, hB.2.1⟩ hS c
end GL3
set_option maxRecDepth 100000 in
set_option maxHeartbeats 8000000 in
theorem ck_cell {l : Launch} (hl : l.stackTraces = false) {t : gT} {ws : va_W} : Met l yL_cell (g_y yL_cell cL_cell 2 (some .int)) rm_L_cell (va_Pc [.ref (gScB t), .int 0] (gl_Pre t ws)) (va_Qi (fun r ws' => r = g_c0 (gScL t) (gScX t) ∧ ws' = ws) (gl_B t) (g_A t)) rm_L_cell.cells rm_L_cell.slots (g_A t) := by
  refine gl_met hl rfl (Nat.le_of_ble_eq_true rfl) (fun X hlX cx hm hQ => ?_)
  subst hlX
  refine gl_iload_n (pc := 0) cx 1 rfl dL_cell_0 rfl ?_
  refine gl_aload_n (pc := 1) cx 0 rfl dL_cell_1 rfl ?_
  refine gl_slen (pc := 2) cx dL_cell_2 ?_
  refine gl_icmp_ge (pc := 3) cx (tgt := 12) dL_cell_3 (by decide) (fun c => ?_) (fun c => ?_)
  · refine gl_iconst (pc := 12) cx (v := 0) dL_cell_12 (by decide) ?_
    exact gl_iret (pc := 13) cx hQ ⟨(if_pos c).symm, rfl⟩ dL_cell_13
  · refine gl_aload_n (pc := 6) cx 0 rfl dL_cell_6 rfl ?_
    refine gl_iload_n (pc := 7) cx 1 rfl dL_cell_7 rfl ?_
    refine gl_sld (pc := 8) cx (fun q => ?_) dL_cell_8 ?_
    · rcases q with q | q
      · exact absurd q (by decide)
      · have h0 : gScL t = 0 := Nat.le_zero.mp q
        exact c (by rw [h0]; decide)
    · refine gl_goto (pc := 9) cx (tgt := 13) dL_cell_9 (by decide) ?_
      exact gl_iret (pc := 13) cx hQ ⟨(if_neg c).symm, rfl⟩ dL_cell_13
def k_adO (ad : Nat → Nat → Nat) (q : Nat) (k o : Nat) : Nat := match k with
  | 59 => q
  | _ => ad k o
def k_plO (t : gT) (q : Nat) : gT := (t.1, t.2.1, k_adO (gAd t) q, (59, 0) :: gKs t, t.2.2.2.2)
def k_MO (M : gM) : gM := (M.1, fun k o => match k with
  | 59 => (fun _ => 0)
  | _ => M.2 k o)
set_option maxRecDepth 100000 in
set_option maxHeartbeats 8000000 in
theorem k_cellO (t : gT) (q : Nat) (M : gM) {k o : Nat} (hk : k < 59) : (gAd t k o, g_cell t k o (M.1 k o) (M.2 k o)) = (gAd (k_plO t q) k o, g_cell (k_plO t q) k o ((k_MO M).1 k o) ((k_MO M).2 k o)) := by
  rcases (show k = 0 ∨ k = 1 ∨ k = 2 ∨ k = 3 ∨ k = 4 ∨ k = 5 ∨ k = 6 ∨ k = 7 ∨ k = 8 ∨ k = 9 ∨ k = 10 ∨ k = 11 ∨ k = 12 ∨ k = 13 ∨ k = 14 ∨ k = 15 ∨ k = 16 ∨ k = 17 ∨ k = 18 ∨ k = 19 ∨ k = 20 ∨ k = 21 ∨ k = 22 ∨ k = 23 ∨ k = 24 ∨ k = 25 ∨ k = 26 ∨ k = 27 ∨ k = 28 ∨ k = 29 ∨ k = 30 ∨ k = 31 ∨ k = 32 ∨ k = 33 ∨ k = 34 ∨ k = 35 ∨ k = 36 ∨ k = 37 ∨ k = 38 ∨ k = 39 ∨ k = 40 ∨ k = 41 ∨ k = 42 ∨ k = 43 ∨ k = 44 ∨ k = 45 ∨ k = 46 ∨ k = 47 ∨ k = 48 ∨ k = 49 ∨ k = 50 ∨ k = 51 ∨ k = 52 ∨ k = 53 ∨ k = 54 ∨ k = 55 ∨ k = 56 ∨ k = 57 ∨ k = 58 by omega) with rfl | rfl | rfl | rfl | rfl | rfl | rfl | rfl | rfl | rfl | rfl | rfl | rfl | rfl | rfl | rfl | rfl | rfl | rfl | rfl | rfl | rfl | rfl | rfl | rfl | rfl | rfl | rfl | rfl | rfl | rfl | rfl | rfl | rfl | rfl | rfl | rfl | rfl | rfl | rfl | rfl | rfl | rfl | rfl | rfl | rfl | rfl | rfl | rfl | rfl | rfl | rfl | rfl | rfl | rfl | rfl | rfl | rfl | rfl <;> rfl
set_option maxRecDepth 100000 in
set_option maxHeartbeats 8000000 in
theorem tr_O (t : gT) (q : Nat) (M : gM) (hks : ∀ x ∈ gKs t, x.1 < 59) : gl_All ((q, .inl (gCA t 1, 1, .inr (.inl (fun _ => 0)))) :: g_ws t M) (g_ws (k_plO t q) (k_MO M)) := by
  have e : g_ws (k_plO t q) (k_MO M) = (gAd (k_plO t q) 59 0, g_cell (k_plO t q) 59 0 ((k_MO M).1 59 0) ((k_MO M).2 59 0)) :: (gKs t).map (fun x : Nat × Nat => (gAd (k_plO t q) x.1 x.2, g_cell (k_plO t q) x.1 x.2 ((k_MO M).1 x.1 x.2) ((k_MO M).2 x.1 x.2))) := rfl
  have e2 : (gKs t).map (fun x : Nat × Nat => (gAd (k_plO t q) x.1 x.2, g_cell (k_plO t q) x.1 x.2 ((k_MO M).1 x.1 x.2) ((k_MO M).2 x.1 x.2))) = g_ws t M := List.map_congr_left (fun x hx => (k_cellO t q M (hks x hx)).symm)
  rw [e, e2]
  exact gl_cons ⟨rfl, fun _ _ h => h⟩ (gl_refl _)
/-- what is left: pure -/
def g_Goal (L : Nat) (xs : Nat → Int32) : Prop := wp_X8_initR 0 (g_c0 L xs) k_M0 (fun M1 => wp_X9_initR 0 (g_c0 L xs) (k_MM M1) (fun M2 => ∃ f : Nat, f ≤ 600 ∧ ∀ t : gT, gScL t = L → gScX t = xs → wp_L_law_L33 t f 0 0 0 1 (k_MO M2)))
theorem k_ksC : ∀ x ∈ k_keysC, g_isC x.1 = true := by decide +kernel
theorem k_ksM : ∀ x ∈ k_keysM, x.1 < 59 := by decide
theorem k_isC_lt {k : Nat} (h : g_isC k = true) : k < 59 := by
  simp only [g_isC, Bool.or_eq_true, Bool.and_eq_true, decide_eq_true_eq] at h
  omega
set_option maxRecDepth 100000 in
set_option maxHeartbeats 8000000 in
theorem law_pre3 {t : gT} {X : gX} {b : Nat} (cx : g_Cx t X code 8 RL (some .boolean)) (hQ : gXQ X = lw_Z (gXb X) (gXa X) (gXs X)) (ha : gXa X = #[Value.ref b]) (hB : (gXs X).heap.size ≤ gBs t) (hC : g_hC t) (hM : g_hM t) (hks : ∀ x ∈ gKs t, x.1 < 59) {M2 : gM} (h : ∃ f : Nat, f ≤ 600 ∧ ∀ t3 : gT, gScL t3 = gScL t → gScX t3 = gScX t → wp_L_law_L33 t3 f 0 0 0 1 (k_MO M2)) : GP (gl_P t (g_ws t M2)) t room_1 X 8 2000 200000 [(1, .ref (gAd t 8 0)), (0, .ref (gScB t))] [.ref (gAd t 9 0)] 25 := by
  obtain ⟨f, hf, h⟩ := h
  refine gl_astore_n (pc := 25) cx [(2, .ref (gAd t 9 0)), (1, .ref (gAd t 8 0)), (0, .ref (gScB t))] dL_law_25 rfl (by decide) rfl ?_
  refine gl_iconst (pc := 26) cx (v := 1) dL_law_26 (by decide) ?_
  refine gl_newa (pc := 27) cx (atype := .long) (ty := .long) (ca := 1) (a0 := (1, .inr (.inl (fun _ => 0)))) (N := 1) tw_142 rfl rfl (fun C h => by cases h) (fun _ => rfl) (by decide) rfl (Nat.le_of_ble_eq_true rfl) (Nat.le_of_ble_eq_true rfl) (Nat.le_of_ble_eq_true rfl) dL_law_27 (fun q => ?_)
  refine gl_astore_n (pc := 29) cx [(3, .ref q), (2, .ref (gAd t 9 0)), (1, .ref (gAd t 8 0)), (0, .ref (gScB t))] dL_law_29 rfl (by decide) rfl ?_
  refine gl_iconst (pc := 30) cx (v := 1) dL_law_30 (by decide) ?_
  refine gl_istore (pc := 31) cx [(4, .int 1), (3, .ref q), (2, .ref (gAd t 9 0)), (1, .ref (gAd t 8 0)), (0, .ref (gScB t))] dL_law_31 (by decide) rfl ?_
  refine gl_lv (lv' := [(0, .ref (gScB t)), (1, .ref (gAd t 8 0)), (2, .ref (gAd t 9 0)), (3, .ref q), (4, .int 1)]) [4, 3, 2, 1, 0] rfl ?_
  refine gl_bridge (t' := k_plO t q) (M := k_MO M2) cx rfl rfl (tr_O t q M2 hks) ?_
  refine wk_L_law_L33 (t := k_plO t q) cx (fun k o hk ho => List.mem_cons_of_mem _ (hC k o hk ho)) (fun k o hk ho => List.mem_cons_of_mem _ (hM k o hk ho)) (fun k o hk ho => ?_) hQ ha hB f _ _ 0 0 0 1 (k_MO M2) (by omega) (by omega) (by decide) (by decide) (by decide) (h (k_plO t q) rfl rfl)
  have hk2 : k = 59 := of_decide_eq_true hk
  subst hk2
  have ho2 : o = 0 := Nat.lt_one_iff.mp ho
  subst ho2
  exact List.mem_cons_self
set_option maxRecDepth 100000 in
set_option maxHeartbeats 8000000 in
theorem law_pre2 {t : gT} {X : gX} {b : Nat} (cx : g_Cx t X code 8 RL (some .boolean)) (hQ : gXQ X = lw_Z (gXb X) (gXa X) (gXs X)) (ha : gXa X = #[Value.ref b]) (hB : (gXs X).heap.size ≤ gBs t) (hC : g_hC t) (hks : ∀ x ∈ gKs t, g_isC x.1 = true) {M1 : gM} (h : wp_X9_initR 0 (g_c0 (gScL t) (gScX t)) (k_MM M1) (fun M2 => ∃ f : Nat, f ≤ 600 ∧ ∀ t3 : gT, gScL t3 = gScL t → gScX t3 = gScX t → wp_L_law_L33 t3 f 0 0 0 1 (k_MO M2))) : GP (gl_P t (g_ws t M1)) t room_1 X 8 1000 50000 [(1, .ref (gAd t 8 0)), (0, .ref (gScB t))] [] 13 := by
  refine gl_new (pc := 13) cx (ci := 9) (T := TX9) (fs := [.null, .null, .null, .int 0, .int 0, .null, .null, .int 0, .null, .null, .int 0, .int 0, .null, .int 0, .null, .int 0, .null, .int 0, .null, .null]) tyX9 inW_9 tyX9_ok tw_1187 tw_1188 tw_17 rfl (fun j hj => by rcases (show j = 0 ∨ j = 1 ∨ j = 2 ∨ j = 3 ∨ j = 4 ∨ j = 5 ∨ j = 6 ∨ j = 7 ∨ j = 8 ∨ j = 9 ∨ j = 10 ∨ j = 11 ∨ j = 12 ∨ j = 13 ∨ j = 14 ∨ j = 15 ∨ j = 16 ∨ j = 17 ∨ j = 18 ∨ j = 19 by omega) with rfl | rfl | rfl | rfl | rfl | rfl | rfl | rfl | rfl | rfl | rfl | rfl | rfl | rfl | rfl | rfl | rfl | rfl | rfl | rfl <;> rfl) (Nat.le_of_ble_eq_true rfl) (Nat.le_of_ble_eq_true rfl) dL_law_13 (fun q => ?_)
  refine gl_dup (pc := 16) cx dL_law_16 rfl ?_
  refine gl_aload_n (pc := 17) cx 1 rfl dL_law_17 rfl ?_
  refine gl_iconst (pc := 18) cx (v := 0) dL_law_18 (by decide) ?_
  refine gl_callSi (pc := 19) cx cal_L_cell tw_755 (ck_cell cx.tr) tw_754 rfl (st := [.ref q, .ref q]) rfl (Nat.le_of_ble_eq_true rfl) ⟨Nat.le_of_ble_eq_true rfl, Nat.le_of_ble_eq_true rfl⟩ ⟨Nat.le_of_ble_eq_true rfl, Nat.le_of_ble_eq_true rfl⟩ dL_law_19 (fun r ws h0 => ?_)
  obtain ⟨rfl, rfl⟩ := h0
  refine gl_ctorT (pc := 22) cx (As := [.int (g_c0 (gScL t) (gScX t))]) cal_X9_init rfl tw_1190 (ck_X9_init cx.tr hks h) tw_1189 rfl (st := [.ref q]) rfl (Nat.le_of_ble_eq_true rfl) ⟨Nat.le_of_ble_eq_true rfl, Nat.le_of_ble_eq_true rfl⟩ ⟨Nat.le_of_ble_eq_true rfl, Nat.le_of_ble_eq_true rfl⟩ dL_law_22 (fun u h => ?_)
  obtain ⟨t2, M2⟩ := u
  obtain ⟨⟨q1, q2, q3, q4, q5, q6, q7, q8, q9, q10, q11, q12, e⟩, h⟩ := h
  have e : t2 = k_plM t q q1 q2 q3 q4 q5 q6 q7 q8 q9 q10 q11 q12 := e
  subst e
  refine gl_wide (k' := 2000) (n' := 200000) (Nat.le_of_ble_eq_true rfl) (Nat.le_of_ble_eq_true rfl) ?_
  exact law_pre3 (t := k_plM t q q1 q2 q3 q4 q5 q6 q7 q8 q9 q10 q11 q12) cx hQ ha hB (k_hCM t q q1 q2 q3 q4 q5 q6 q7 q8 q9 q10 q11 q12 hC) (k_hM t q q1 q2 q3 q4 q5 q6 q7 q8 q9 q10 q11 q12) (fun x hx => (List.mem_append.mp hx).elim (fun hx => k_ksM x hx) (fun hx => k_isC_lt (hks x hx))) h
set_option maxRecDepth 100000 in
set_option maxHeartbeats 8000000 in
theorem law_pre1 {t : gT} {X : gX} {b : Nat} (cx : g_Cx t X code 8 RL (some .boolean)) (hQ : gXQ X = lw_Z (gXb X) (gXa X) (gXs X)) (ha : gXa X = #[Value.ref b]) (hB : (gXs X).heap.size ≤ gBs t) (hG : g_Goal (gScL t) (gScX t)) : GP (gl_P t []) t room_1 X 8 0 0 [(0, .ref (gScB t))] [] 0 := by
  refine gl_new (pc := 0) cx (ci := 8) (T := TX8) (fs := [.null, .int 0, .null, .null, .null, .null, .null, .int 0]) tyX8 inW_8 tyX8_ok tw_24 tw_25 tw_1 rfl (fun j hj => by rcases (show j = 0 ∨ j = 1 ∨ j = 2 ∨ j = 3 ∨ j = 4 ∨ j = 5 ∨ j = 6 ∨ j = 7 by omega) with rfl | rfl | rfl | rfl | rfl | rfl | rfl | rfl <;> rfl) (Nat.le_of_ble_eq_true rfl) (Nat.le_of_ble_eq_true rfl) dL_law_0 (fun q => ?_)
  refine gl_dup (pc := 3) cx dL_law_3 rfl ?_
  refine gl_aload_n (pc := 4) cx 0 rfl dL_law_4 rfl ?_
  refine gl_iconst (pc := 5) cx (v := 0) dL_law_5 (by decide) ?_
  refine gl_callSi (pc := 6) cx cal_L_cell tw_755 (ck_cell cx.tr) tw_754 rfl (st := [.ref q, .ref q]) rfl (Nat.le_of_ble_eq_true rfl) ⟨Nat.le_of_ble_eq_true rfl, Nat.le_of_ble_eq_true rfl⟩ ⟨Nat.le_of_ble_eq_true rfl, Nat.le_of_ble_eq_true rfl⟩ dL_law_6 (fun r ws h0 => ?_)
  obtain ⟨rfl, rfl⟩ := h0
  refine gl_ctorT (pc := 9) cx (As := [.int (g_c0 (gScL t) (gScX t))]) cal_X8_init rfl tw_27 (ck_X8_init cx.tr hG) tw_26 rfl (st := [.ref q]) rfl (Nat.le_of_ble_eq_true rfl) ⟨Nat.le_of_ble_eq_true rfl, Nat.le_of_ble_eq_true rfl⟩ ⟨Nat.le_of_ble_eq_true rfl, Nat.le_of_ble_eq_true rfl⟩ dL_law_9 (fun u h => ?_)
  obtain ⟨t1, M1⟩ := u
  obtain ⟨⟨tx, er, rd, kp, ca, cv, cs, adR, wq, adW, e⟩, h⟩ := h
  have e : t1 = k_pl t q tx er rd kp ca cv cs adR wq adW := e
  subst e
  refine gl_wide (k' := 1000) (n' := 50000) (Nat.le_of_ble_eq_true rfl) (Nat.le_of_ble_eq_true rfl) ?_
  refine gl_astore_n (pc := 12) cx [(1, .ref q), (0, .ref (gScB t))] dL_law_12 rfl (by decide) rfl ?_
  exact law_pre2 (t := k_pl t q tx er rd kp ca cv cs adR wq adW) cx hQ ha hB (k_hC t q tx er rd kp ca cv cs adR wq adW) k_ksC h
