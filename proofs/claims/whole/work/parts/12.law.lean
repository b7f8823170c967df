def R_law : String := "SchedulerTreeLaw"
def lw_P (b : Addr) (xs : List Int32) (args : Array Value) (s : State) : Prop := args = #[.ref b] ∧ s.IntsAt b xs ∧ xs.length ≤ 2561 ∧ (Jvm.Cond.and given_1 narrow_1).before args s = true
def lw_Q (_ : Array Value) (s : State) (o : Outcome) (t : State) : Prop := o = .returned (some (.int 1)) ∧ Framed s o t [] 601024 7293000
def lw_Z (below : List Frame) (a : Array Value) (s : State) : State → Prop := fun t => ∃ o, t.status = .running ∧ Ended t below o ∧ lw_Q a s o t
/-- the law's own end, with 1 on the stack, nothing written that was there before, its room as the claim has it -/
theorem lw_ret {p : Program} {l : Launch} {e : Env} {s : State} {m : MethodId} {below : List Frame} {meth : Method} {c : Code} {b : Nat} (hx : p.tables.exec = Jvm.exec) (hb : c.code = code) (hr : meth.sig.returnType = ret) (hlocks : meth.locks = false) {pc : Nat} {H : Heap} {ls : Array Slot} (hdg : decode code pc = .ok (.ireturn, 1)) : W p l e room_1 s m #[Value.ref b] below meth c H [] 601024 7293000 (lw_Z below #[Value.ref b] s) (F0 m pc ls [.int 1]) := by
  intro T hT X
  obtain ⟨fs, hret, hrun, hended, hW, hframe⟩ := X.leave (v := some (.int 1)) (hlocks := hlocks) (fun h => by rw [hr] at h; cases h)
  have hmeth' : T.vm.method? m = some meth := X.method'
  refine ⟨T.setFrames fs, ?_, .returned (some (.int 1)), hrun, hended, rfl, ⟨_, rfl⟩, hW, hframe⟩
  jvm_step X.here [X.here.top, hx, hb, hdg, hmeth', hr, ret, narrow_b1]
  (try refine ⟨rfl, ?_⟩); (try refine ⟨rfl, ?_⟩)
  first | (intro acts; rw [hret _ acts rfl rfl rfl]) | rw [hret _ _ rfl rfl rfl]
  exact Steps.refl _
/-- what holds at the law's entry: the machine, the code, the tables' words (any of lw_tbl by 'hts w (by decide +kernel)'), the script of L ints xs at the cell b, what the Statement gives of the start (any of its parts by flat_of_before) -/
def lw_At (p : Program) (s : State) (m : MethodId) (meth : Method) (c : Code) (b L : Nat) (xs : Nat → Int32) : Prop :=
  p.tables.exec = Jvm.exec ∧ c.code = code ∧ meth.sig.returnType = ret ∧ c.maxLocals = 8 ∧ s.vm.findClass R_law = some m.cls ∧ (∀ w ∈ lw_tbl, w.before #[Value.ref b] s = true) ∧ va_X b L xs s s.heap ∧ b < s.heap.size ∧ meth.locks = false ∧ (Jvm.Cond.and given_1 narrow_1).before #[Value.ref b] s = true
def wp_L_cell (t : gT) (x1 : Int32) (M : gM) (K : Int32 → gM → Prop) : Prop := (if (Int32.ofNat (gScL t)) ≤ x1 then K 0 M else vp_in x1 (gScL t) ∧ K (gScX t x1.toNatClampNeg) M)
def rm_L_cell : Room := { frames := 1, cells := 0, slots := 0, locals := 60 }
def wp_L_type (t : gT) (o0 : Nat) (x1 : Int32) (o2 : Nat) (M : gM) (K : Int32 → gM → Prop) : Prop := wp_X8_type o0 x1 M (fun r4 M4 => vp_in 0 1 ∧ ∀ M8 : gM, M8 = g_uL M4 59 o2 (0 : Int32).toNatClampNeg r4.toInt64 → K 0 M8) (fun e4 M4x => (if e4 = 0 then K 1 M4x else (if e4 = 1 then K 2 M4x else False)))
def rm_L_type : Room := { frames := 7, cells := 2, slots := 12, locals := 121 }
def wp_L_loadTemplate (t : gT) (o0 : Nat) (x1 : Int32) (o2 : Nat) (M : gM) (K : Int32 → gM → Prop) : Prop := wp_X8_loadTemplate o0 x1 M (fun r4 M4 => vp_in 0 1 ∧ ∀ M8 : gM, M8 = g_uL M4 59 o2 (0 : Int32).toNatClampNeg r4.toInt64 → K 0 M8) (fun e4 M4x => (if e4 = 0 then K 1 M4x else False))
def rm_L_loadTemplate : Room := { frames := 12, cells := 1, slots := 6, locals := 341 }
def wp_L_errorPosition (t : gT) (o0 : Nat) (x1 : Int32) (o2 : Nat) (M : gM) (K : Int32 → gM → Prop) : Prop := wp_X8_errorPosition o0 x1 M (fun r4 M4 => vp_in 0 1 ∧ ∀ M8 : gM, M8 = g_uL M4 59 o2 (0 : Int32).toNatClampNeg r4.toInt64 → K 0 M8) (fun e4 M4x => (if e4 = 2 then K 1 M4x else False))
def rm_L_errorPosition : Room := { frames := 7, cells := 1, slots := 6, locals := 121 }
def wp_L_parentOf (t : gT) (o0 : Nat) (x1 : Int32) (o2 : Nat) (M : gM) (K : Int32 → gM → Prop) : Prop := wp_X8_parentOf o0 x1 M (fun r4 M4 => vp_in 0 1 ∧ ∀ M8 : gM, M8 = g_uL M4 59 o2 (0 : Int32).toNatClampNeg r4.toInt64 → K 0 M8) (fun e4 M4x => (if e4 = 2 then K 1 M4x else False))
def rm_L_parentOf : Room := { frames := 8, cells := 1, slots := 6, locals := 142 }
def wp_L_children (t : gT) (o0 : Nat) (x1 : Int32) (o2 : Nat) (M : gM) (K : Int32 → gM → Prop) : Prop := wp_X8_children o0 x1 M (fun r4 M4 => vp_in 0 1 ∧ ∀ M8 : gM, M8 = g_uL M4 59 o2 (0 : Int32).toNatClampNeg r4.toInt64 → K 0 M8) (fun e4 M4x => (if e4 = 2 then K 1 M4x else False))
def rm_L_children : Room := { frames := 8, cells := 1, slots := 6, locals := 142 }
def wp_L_tieRule (t : gT) (o0 : Nat) (x1 : Int32) (o2 : Nat) (M : gM) (K : Int32 → gM → Prop) : Prop := wp_X8_tieRule o0 x1 M (fun r4 M4 => vp_in 0 1 ∧ ∀ M8 : gM, M8 = g_uL M4 59 o2 (0 : Int32).toNatClampNeg r4.toInt64 → K 0 M8) (fun e4 M4x => (if e4 = 2 then K 1 M4x else False))
def rm_L_tieRule : Room := { frames := 8, cells := 1, slots := 6, locals := 142 }
def wp_L_setFlowWeight (t : gT) (o0 : Nat) (x1 : Int32) (x2 : Int32) (o3 : Nat) (M : gM) (K : Int32 → gM → Prop) : Prop := wp_X8_setFlowWeight o0 x1 x2 M (fun r5 M5 => vp_in 0 1 ∧ ∀ M9 : gM, M9 = g_uL M5 59 o3 (0 : Int32).toNatClampNeg r5.toInt64 → K 0 M9) (fun e5 M5x => (if e5 = 2 then K 1 M5x else (if e5 = 0 then K 2 M5x else False)))
def rm_L_setFlowWeight : Room := { frames := 8, cells := 2, slots := 12, locals := 143 }
def wp_L_setNodeWeight (t : gT) (o0 : Nat) (x1 : Int32) (x2 : Int32) (o3 : Nat) (M : gM) (K : Int32 → gM → Prop) : Prop := wp_X8_setNodeWeight o0 x1 x2 M (fun r5 M5 => vp_in 0 1 ∧ ∀ M9 : gM, M9 = g_uL M5 59 o3 (0 : Int32).toNatClampNeg r5.toInt64 → K 0 M9) (fun e5 M5x => (if e5 = 2 then K 1 M5x else (if e5 = 0 then K 2 M5x else False)))
def rm_L_setNodeWeight : Room := { frames := 8, cells := 2, slots := 12, locals := 144 }
def wp_L_assign (t : gT) (o0 : Nat) (x1 : Int32) (x2 : Int32) (o3 : Nat) (M : gM) (K : Int32 → gM → Prop) : Prop := wp_X8_assign o0 x1 x2 M (fun r5 M5 => vp_in 0 1 ∧ ∀ M9 : gM, M9 = g_uL M5 59 o3 (0 : Int32).toNatClampNeg r5.toInt64 → K 0 M9) (fun e5 M5x => (if e5 = 2 then K 1 M5x else (if e5 = 0 then K 2 M5x else False)))
def rm_L_assign : Room := { frames := 8, cells := 3, slots := 18, locals := 144 }
def wp_L_leafOf (t : gT) (o0 : Nat) (x1 : Int32) (o2 : Nat) (M : gM) (K : Int32 → gM → Prop) : Prop := wp_X8_leafOf o0 x1 M (fun r4 M4 => vp_in 0 1 ∧ ∀ M8 : gM, M8 = g_uL M4 59 o2 (0 : Int32).toNatClampNeg r4.toInt64 → K 0 M8) (fun e4 M4x => (if e4 = 2 then K 1 M4x else False))
def rm_L_leafOf : Room := { frames := 8, cells := 1, slots := 6, locals := 141 }
def wp_L_setLinkRate (t : gT) (o0 : Nat) (x1 : Int32) (o2 : Nat) (M : gM) (K : Int32 → gM → Prop) : Prop := wp_X8_setLinkRate o0 x1 M (fun r4 M4 => vp_in 0 1 ∧ ∀ M8 : gM, M8 = g_uL M4 59 o2 (0 : Int32).toNatClampNeg r4.toInt64 → K 0 M8) (fun e4 M4x => (if e4 = 0 then K 1 M4x else False))
def rm_L_setLinkRate : Room := { frames := 7, cells := 1, slots := 6, locals := 122 }
def wp_L_enqueue (t : gT) (o0 : Nat) (x1 : Int32) (x2 : Int32) (x3 : Int32) (x4 : Int32) (o5 : Nat) (M : gM) (K : Int32 → gM → Prop) : Prop := wp_X8_enqueue o0 x1 x2 x3 x4 M (fun r9 M9 => vp_in 0 1 ∧ ∀ M13 : gM, M13 = g_uL M9 59 o5 (0 : Int32).toNatClampNeg r9.toInt64 → K 0 M13) (fun e9 M9x => (if e9 = 2 then K 1 M9x else (if e9 = 0 then K 2 M9x else (if e9 = 1 then K 3 M9x else False))))
def rm_L_enqueue : Room := { frames := 8, cells := 6, slots := 36, locals := 240 }
def wp_L_advance (t : gT) (o0 : Nat) (x1 : Int32) (o2 : Nat) (M : gM) (K : Int32 → gM → Prop) : Prop := wp_X8_advance o0 x1 M (fun r4 M4 => vp_in 0 1 ∧ ∀ M8 : gM, M8 = g_uL M4 59 o2 (0 : Int32).toNatClampNeg r4.toInt64 → K 0 M8) (fun e4 M4x => (if e4 = 0 then K 1 M4x else False))
def rm_L_advance : Room := { frames := 8, cells := 1, slots := 6, locals := 240 }
def wp_L_queueLength (t : gT) (o0 : Nat) (x1 : Int32) (o2 : Nat) (M : gM) (K : Int32 → gM → Prop) : Prop := wp_X8_queueLength o0 x1 M (fun r4 M4 => vp_in 0 1 ∧ ∀ M8 : gM, M8 = g_uL M4 59 o2 (0 : Int32).toNatClampNeg r4.toInt64 → K 0 M8) (fun e4 M4x => (if e4 = 2 then K 1 M4x else False))
def rm_L_queueLength : Room := { frames := 8, cells := 1, slots := 6, locals := 142 }
def wp_L_queueItem (t : gT) (o0 : Nat) (x1 : Int32) (x2 : Int32) (o3 : Nat) (M : gM) (K : Int32 → gM → Prop) : Prop := wp_X8_queueItem o0 x1 x2 M (fun r5 M5 => vp_in 0 1 ∧ ∀ M9 : gM, M9 = g_uL M5 59 o3 (0 : Int32).toNatClampNeg r5.toInt64 → K 0 M9) (fun e5 M5x => (if e5 = 2 then K 1 M5x else False))
def rm_L_queueItem : Room := { frames := 9, cells := 2, slots := 12, locals := 165 }
def wp_L_queueRank (t : gT) (o0 : Nat) (x1 : Int32) (x2 : Int32) (o3 : Nat) (M : gM) (K : Int32 → gM → Prop) : Prop := wp_X8_queueRank o0 x1 x2 M (fun r5 M5 => vp_in 0 1 ∧ ∀ M8 : gM, M8 = g_uL M5 59 o3 (0 : Int32).toNatClampNeg r5 → K 0 M8) (fun e5 M5x => (if e5 = 2 then K 1 M5x else False))
def rm_L_queueRank : Room := { frames := 9, cells := 2, slots := 12, locals := 165 }
def wp_L_virtualTime (t : gT) (o0 : Nat) (x1 : Int32) (o2 : Nat) (M : gM) (K : Int32 → gM → Prop) : Prop := wp_X8_virtualTime o0 x1 M (fun r4 M4 => vp_in 0 1 ∧ ∀ M7 : gM, M7 = g_uL M4 59 o2 (0 : Int32).toNatClampNeg r4 → K 0 M7) (fun e4 M4x => (if e4 = 2 then K 1 M4x else False))
def rm_L_virtualTime : Room := { frames := 8, cells := 1, slots := 6, locals := 142 }
def wp_L_state (t : gT) (o0 : Nat) (x1 : Int32) (x2 : Int32) (o3 : Nat) (M : gM) (K : Int32 → gM → Prop) : Prop := wp_X8_state o0 x1 x2 M (fun r5 M5 => vp_in 0 1 ∧ ∀ M8 : gM, M8 = g_uL M5 59 o3 (0 : Int32).toNatClampNeg r5 → K 0 M8) (fun e5 M5x => (if e5 = 2 then K 1 M5x else (if e5 = 0 then K 2 M5x else False)))
def rm_L_state : Room := { frames := 8, cells := 2, slots := 12, locals := 143 }
def wp_L_rankIf (t : gT) (o0 : Nat) (x1 : Int32) (x2 : Int32) (x3 : Int32) (x4 : Int32) (o5 : Nat) (M : gM) (K : Int32 → gM → Prop) : Prop := wp_X8_rankIf o0 x1 x2 x3 x4 M (fun r9 M9 => vp_in 0 1 ∧ ∀ M12 : gM, M12 = g_uL M9 59 o5 (0 : Int32).toNatClampNeg r9 → K 0 M12) (fun e9 M9x => (if e9 = 2 then K 1 M9x else (if e9 = 0 then K 2 M9x else False)))
def rm_L_rankIf : Room := { frames := 8, cells := 4, slots := 24, locals := 178 }
def wp_L_peek (t : gT) (o0 : Nat) (x1 : Int32) (o2 : Nat) (M : gM) (K : Int32 → gM → Prop) : Prop := wp_X8_peek o0 x1 M (fun r4 M4 => vp_in 0 1 ∧ ∀ M8 : gM, M8 = g_uL M4 59 o2 (0 : Int32).toNatClampNeg r4.toInt64 → K 0 M8) (fun e4 M4x => (if e4 = 2 then K 1 M4x else False))
def rm_L_peek : Room := { frames := 7, cells := 1, slots := 6, locals := 127 }
def wp_L_departureIf (t : gT) (o0 : Nat) (x1 : Int32) (o2 : Nat) (M : gM) (K : Int32 → gM → Prop) : Prop := wp_X8_departureIf o0 x1 M (fun r4 M4 => vp_in 0 1 ∧ ∀ M7 : gM, M7 = g_uL M4 59 o2 (0 : Int32).toNatClampNeg r4 → K 0 M7) (fun e4 M4x => (if e4 = 0 then K 1 M4x else False))
def rm_L_departureIf : Room := { frames := 9, cells := 1, slots := 6, locals := 265 }
def wp_L_flowOf (t : gT) (o0 : Nat) (x1 : Int32) (o2 : Nat) (M : gM) (K : Int32 → gM → Prop) : Prop := wp_X8_flowOf o0 x1 M (fun r4 M4 => vp_in 0 1 ∧ ∀ M8 : gM, M8 = g_uL M4 59 o2 (0 : Int32).toNatClampNeg r4.toInt64 → K 0 M8) (fun e4 M4x => (if e4 = 2 then K 1 M4x else False))
def rm_L_flowOf : Room := { frames := 8, cells := 1, slots := 6, locals := 142 }
def wp_L_deadlineOf (t : gT) (o0 : Nat) (x1 : Int32) (o2 : Nat) (M : gM) (K : Int32 → gM → Prop) : Prop := wp_X8_deadlineOf o0 x1 M (fun r4 M4 => vp_in 0 1 ∧ ∀ M7 : gM, M7 = g_uL M4 59 o2 (0 : Int32).toNatClampNeg r4 → K 0 M7) (fun e4 M4x => (if e4 = 2 then K 1 M4x else False))
def rm_L_deadlineOf : Room := { frames := 8, cells := 1, slots := 6, locals := 142 }
def wp_L_departureOf (t : gT) (o0 : Nat) (x1 : Int32) (o2 : Nat) (M : gM) (K : Int32 → gM → Prop) : Prop := wp_X8_departureOf o0 x1 M (fun r4 M4 => vp_in 0 1 ∧ ∀ M7 : gM, M7 = g_uL M4 59 o2 (0 : Int32).toNatClampNeg r4 → K 0 M7) (fun e4 M4x => (if e4 = 2 then K 1 M4x else False))
def rm_L_departureOf : Room := { frames := 8, cells := 1, slots := 6, locals := 142 }
def wp_L_sent (t : gT) (o0 : Nat) (x1 : Int32) (o2 : Nat) (M : gM) (K : Int32 → gM → Prop) : Prop := wp_X8_sent o0 x1 M (fun r4 M4 => vp_in 0 1 ∧ ∀ M8 : gM, M8 = g_uL M4 59 o2 (0 : Int32).toNatClampNeg r4.toInt64 → K 0 M8) (fun e4 M4x => (if e4 = 2 then K 1 M4x else False))
def rm_L_sent : Room := { frames := 8, cells := 1, slots := 6, locals := 141 }
def wp_L_sentBytes (t : gT) (o0 : Nat) (x1 : Int32) (o2 : Nat) (M : gM) (K : Int32 → gM → Prop) : Prop := wp_X8_sentBytes o0 x1 M (fun r4 M4 => vp_in 0 1 ∧ ∀ M8 : gM, M8 = g_uL M4 59 o2 (0 : Int32).toNatClampNeg r4.toInt64 → K 0 M8) (fun e4 M4x => (if e4 = 2 then K 1 M4x else False))
def rm_L_sentBytes : Room := { frames := 8, cells := 1, slots := 6, locals := 141 }
def wp_L_totalDelay (t : gT) (o0 : Nat) (x1 : Int32) (o2 : Nat) (M : gM) (K : Int32 → gM → Prop) : Prop := wp_X8_totalDelay o0 x1 M (fun r4 M4 => vp_in 0 1 ∧ ∀ M7 : gM, M7 = g_uL M4 59 o2 (0 : Int32).toNatClampNeg r4 → K 0 M7) (fun e4 M4x => (if e4 = 2 then K 1 M4x else False))
def rm_L_totalDelay : Room := { frames := 8, cells := 1, slots := 6, locals := 141 }
def wp_L_greatestDelay (t : gT) (o0 : Nat) (x1 : Int32) (o2 : Nat) (M : gM) (K : Int32 → gM → Prop) : Prop := wp_X8_greatestDelay o0 x1 M (fun r4 M4 => vp_in 0 1 ∧ ∀ M7 : gM, M7 = g_uL M4 59 o2 (0 : Int32).toNatClampNeg r4 → K 0 M7) (fun e4 M4x => (if e4 = 2 then K 1 M4x else False))
def rm_L_greatestDelay : Room := { frames := 8, cells := 1, slots := 6, locals := 141 }
def wp_L_missed (t : gT) (o0 : Nat) (x1 : Int32) (o2 : Nat) (M : gM) (K : Int32 → gM → Prop) : Prop := wp_X8_missed o0 x1 M (fun r4 M4 => vp_in 0 1 ∧ ∀ M8 : gM, M8 = g_uL M4 59 o2 (0 : Int32).toNatClampNeg r4.toInt64 → K 0 M8) (fun e4 M4x => (if e4 = 2 then K 1 M4x else False))
def rm_L_missed : Room := { frames := 8, cells := 1, slots := 6, locals := 141 }
def wp_L_share (t : gT) (o0 : Nat) (x1 : Int32) (o2 : Nat) (M : gM) (K : Int32 → gM → Prop) : Prop := wp_X8_share o0 x1 M (fun r4 M4 => vp_in 0 1 ∧ ∀ M8 : gM, M8 = g_uL M4 59 o2 (0 : Int32).toNatClampNeg r4.toInt64 → K 0 M8) (fun e4 M4x => (if e4 = 2 then K 1 M4x else False))
def rm_L_share : Room := { frames := 8, cells := 1, slots := 6, locals := 143 }
def wp_L_checkpoint (t : gT) (o0 : Nat) (o1 : Nat) (M : gM) (K : Int32 → gM → Prop) : Prop := wp_X8_checkpoint o0 M (fun r3 M3 => vp_in 0 1 ∧ ∀ M7 : gM, M7 = g_uL M3 59 o1 (0 : Int32).toNatClampNeg r3.toInt64 → K 0 M7) (fun e3 M3x => (if e3 = 1 then K 1 M3x else False))
def rm_L_checkpoint : Room := { frames := 7, cells := 1, slots := 6, locals := 124 }
def wp_L_rollback (t : gT) (o0 : Nat) (o1 : Nat) (M : gM) (K : Int32 → gM → Prop) : Prop := wp_X8_rollback o0 M (fun r3 M3 => vp_in 0 1 ∧ ∀ M7 : gM, M7 = g_uL M3 59 o1 (0 : Int32).toNatClampNeg r3.toInt64 → K 0 M7) (fun e3 M3x => (if e3 = 1 then K 1 M3x else False))
def rm_L_rollback : Room := { frames := 8, cells := 1, slots := 6, locals := 140 }
def wp_L_commit (t : gT) (o0 : Nat) (o1 : Nat) (M : gM) (K : Int32 → gM → Prop) : Prop := wp_X8_commit o0 M (fun r3 M3 => vp_in 0 1 ∧ ∀ M7 : gM, M7 = g_uL M3 59 o1 (0 : Int32).toNatClampNeg r3.toInt64 → K 0 M7) (fun e3 M3x => (if e3 = 1 then K 1 M3x else False))
def rm_L_commit : Room := { frames := 8, cells := 1, slots := 6, locals := 140 }
theorem cal_L_cell : g_Cal yL_cell cL_cell 2 (some .int) 2 := ⟨tw_0, tw_756, by decide, by decide, by decide +kernel⟩
set_option maxRecDepth 100000 in
set_option maxHeartbeats 4000000 in
theorem ct_L_cell {l : Launch} (hl : l.stackTraces = false) {t : gT} (hC : g_hC t) (hM : g_hM t) (hO : g_hO t) {x1 : Int32}  {M : gM} {K : Int32 → gM → Prop} (h : wp_L_cell t x1 M K) : Met l yL_cell (g_y yL_cell cL_cell 2 (some .int)) rm_L_cell (va_Pc [.ref (gScB t), .int x1] (g_Pre t M)) (va_Qi K (g_B t) (g_A t)) rm_L_cell.cells rm_L_cell.slots (g_A t) := by
  refine g_met hl rfl (Nat.le_of_ble_eq_true rfl) (fun X hlX cx hQ => ?_)
  subst hlX
  refine gg_iload_n (pc := 0) cx 1 rfl dL_cell_0 rfl ?_
  refine gg_aload_n (pc := 1) cx 0 rfl dL_cell_1 rfl ?_
  refine gg_slen (pc := 2) cx dL_cell_2 ?_
  refine gg_icmp_ge (pc := 3) cx (tgt := 12) dL_cell_3 (by decide) (fun c3 => ?_) (fun c3 => ?_)
  · have h := g_it c3 h
    refine gg_iconst (pc := 12) cx (v := 0) dL_cell_12 (by decide) ?_
    exact gg_iret (pc := 13) cx hQ h dL_cell_13
  · have h := g_if c3 h
    refine gg_aload_n (pc := 6) cx 0 rfl dL_cell_6 rfl ?_
    refine gg_iload_n (pc := 7) cx 1 rfl dL_cell_7 rfl ?_
    have q8 := h.1
    have h := h.2
    refine gg_sld (pc := 8) cx q8 dL_cell_8 ?_
    refine gg_goto (pc := 9) cx (tgt := 13) dL_cell_9 (by decide) ?_
    exact gg_iret (pc := 13) cx hQ h dL_cell_13
theorem cal_L_type : g_CalW yL_type cL_type 4 (some .int) [(0, 9, 12, 13), (0, 9, 15, 15)] 3 := ⟨tw_0, tw_759, by decide, by decide, by decide +kernel⟩
set_option maxRecDepth 100000 in
set_option maxHeartbeats 4000000 in
theorem ct_L_type {l : Launch} (hl : l.stackTraces = false) {t : gT} (hC : g_hC t) (hM : g_hM t) (hO : g_hO t) {o0 : Nat} {x1 : Int32} {o2 : Nat} (v0 : o0 < 1) (v2 : o2 < 1) {M : gM} {K : Int32 → gM → Prop} (h : wp_L_type t o0 x1 o2 M K) : Met l yL_type (g_yW yL_type cL_type 4 (some .int) [(0, 9, 12, 13), (0, 9, 15, 15)]) rm_L_type (va_Pc [.ref (gAd t 8 o0), .int x1, .ref (gAd t 59 o2)] (g_Pre t M)) (va_Qi K (g_B t) (g_A t)) rm_L_type.cells rm_L_type.slots (g_A t) := by
  refine g_hmet hl rfl (Nat.le_of_ble_eq_true rfl) (fun X hlX cx hx hQ => ?_)
  subst hlX
  refine gg_aload_n (pc := 0) cx 2 rfl dL_type_0 rfl ?_
  refine gg_iconst (pc := 1) cx (v := 0) dL_type_1 (by decide) ?_
  refine gg_aload_n (pc := 2) cx 0 rfl dL_type_2 rfl ?_
  refine gg_iload_n (pc := 3) cx 1 rfl dL_type_3 rfl ?_
  refine gg_hcallVi (pc := 4) cx (hh := [(0, 9, 12, 13), (0, 9, 15, 15)]) cal_X8_type calv_X8_type (ct_X8_type cx.tr hC v0 h) tw_762 (hC 8 _ rfl v0) rfl rfl rfl (st := [.int 0, .ref (gAd t 59 o2)]) rfl (Nat.le_of_ble_eq_true rfl) ⟨Nat.le_of_ble_eq_true rfl, Nat.le_of_ble_eq_true rfl⟩ ⟨Nat.le_of_ble_eq_true rfl, Nat.le_of_ble_eq_true rfl⟩ dL_type_4 hx (fun e4 M4x q4 he h => ?_) (fun r4 M4 h => ?_)
  · have h : (if e4 = 0 then K 1 M4x else (if e4 = 1 then K 2 M4x else False)) := h
    by_cases c0 : e4 = 0
    · have h := g_it c0 h
      subst c0
      refine ⟨12, ⟨(tableOf [(0, 9, 12, 13), (0, 9, 15, 15)]).take 0, _, (tableOf [(0, 9, 12, 13), (0, 9, 15, 15)]).drop 1, rfl, (fun z hz => absurd hz List.not_mem_nil), by decide, by decide, tw_760, rfl⟩, ?_⟩
      refine gg_astore_n (pc := 12) cx [(3, .ref q4), (0, .ref (gAd t 8 o0)), (1, .int x1), (2, .ref (gAd t 59 o2))] dL_type_12 rfl (by decide) rfl ?_
      refine gg_iconst (pc := 13) cx (v := 1) dL_type_13 (by decide) ?_
      exact gg_iret (pc := 14) cx hQ h dL_type_14
    have h := g_if c0 h
    by_cases c1 : e4 = 1
    · have h := g_it c1 h
      subst c1
      refine ⟨15, ⟨(tableOf [(0, 9, 12, 13), (0, 9, 15, 15)]).take 1, _, (tableOf [(0, 9, 12, 13), (0, 9, 15, 15)]).drop 2, rfl, (List.forall_mem_cons.mpr ⟨⟨by decide, 0, by decide, by decide, tw_760⟩, (fun z hz => absurd hz List.not_mem_nil)⟩), by decide, by decide, tw_761, rfl⟩, ?_⟩
      refine gg_astore_n (pc := 15) cx [(3, .ref q4), (0, .ref (gAd t 8 o0)), (1, .int x1), (2, .ref (gAd t 59 o2))] dL_type_15 rfl (by decide) rfl ?_
      refine gg_iconst (pc := 16) cx (v := 2) dL_type_16 (by decide) ?_
      exact gg_iret (pc := 17) cx hQ h dL_type_17
    have h := g_if c1 h
    exact h.elim
  · skip
    refine gg_i2l (pc := 7) cx dL_type_7 ?_
    have q8 := h.1
    have h := h.2
    refine gg_last (pc := 8) cx (hO 59 _ rfl v2) (fun _ _ => rfl) q8 dL_type_8 ?_
    refine gg_mem (fun M8 eM8 => ?_)
    have h := h M8 eM8
    refine gg_goto (pc := 9) cx (tgt := 18) dL_type_9 (by decide) ?_
    refine gg_iconst (pc := 18) cx (v := 0) dL_type_18 (by decide) ?_
    exact gg_iret (pc := 19) cx hQ h dL_type_19
theorem cal_L_loadTemplate : g_CalW yL_loadTemplate cL_loadTemplate 4 (some .int) [(0, 9, 12, 13)] 3 := ⟨tw_0, tw_851, by decide, by decide, by decide +kernel⟩
set_option maxRecDepth 100000 in
set_option maxHeartbeats 4000000 in
theorem ct_L_loadTemplate {l : Launch} (hl : l.stackTraces = false) {t : gT} (hC : g_hC t) (hM : g_hM t) (hO : g_hO t) {o0 : Nat} {x1 : Int32} {o2 : Nat} (v0 : o0 < 1) (v2 : o2 < 1) {M : gM} {K : Int32 → gM → Prop} (h : wp_L_loadTemplate t o0 x1 o2 M K) : Met l yL_loadTemplate (g_yW yL_loadTemplate cL_loadTemplate 4 (some .int) [(0, 9, 12, 13)]) rm_L_loadTemplate (va_Pc [.ref (gAd t 8 o0), .int x1, .ref (gAd t 59 o2)] (g_Pre t M)) (va_Qi K (g_B t) (g_A t)) rm_L_loadTemplate.cells rm_L_loadTemplate.slots (g_A t) := by
  refine g_hmet hl rfl (Nat.le_of_ble_eq_true rfl) (fun X hlX cx hx hQ => ?_)
  subst hlX
  refine gg_aload_n (pc := 0) cx 2 rfl dL_loadTemplate_0 rfl ?_
  refine gg_iconst (pc := 1) cx (v := 0) dL_loadTemplate_1 (by decide) ?_
  refine gg_aload_n (pc := 2) cx 0 rfl dL_loadTemplate_2 rfl ?_
  refine gg_iload_n (pc := 3) cx 1 rfl dL_loadTemplate_3 rfl ?_
  refine gg_hcallVi (pc := 4) cx (hh := [(0, 9, 12, 13)]) cal_X8_loadTemplate calv_X8_loadTemplate (ct_X8_loadTemplate cx.tr hC v0 h) tw_852 (hC 8 _ rfl v0) rfl rfl rfl (st := [.int 0, .ref (gAd t 59 o2)]) rfl (Nat.le_of_ble_eq_true rfl) ⟨Nat.le_of_ble_eq_true rfl, Nat.le_of_ble_eq_true rfl⟩ ⟨Nat.le_of_ble_eq_true rfl, Nat.le_of_ble_eq_true rfl⟩ dL_loadTemplate_4 hx (fun e4 M4x q4 he h => ?_) (fun r4 M4 h => ?_)
  · have h : (if e4 = 0 then K 1 M4x else False) := h
    by_cases c0 : e4 = 0
    · have h := g_it c0 h
      subst c0
      refine ⟨12, ⟨(tableOf [(0, 9, 12, 13)]).take 0, _, (tableOf [(0, 9, 12, 13)]).drop 1, rfl, (fun z hz => absurd hz List.not_mem_nil), by decide, by decide, tw_760, rfl⟩, ?_⟩
      refine gg_astore_n (pc := 12) cx [(3, .ref q4), (0, .ref (gAd t 8 o0)), (1, .int x1), (2, .ref (gAd t 59 o2))] dL_loadTemplate_12 rfl (by decide) rfl ?_
      refine gg_iconst (pc := 13) cx (v := 1) dL_loadTemplate_13 (by decide) ?_
      exact gg_iret (pc := 14) cx hQ h dL_loadTemplate_14
    have h := g_if c0 h
    exact h.elim
  · skip
    refine gg_i2l (pc := 7) cx dL_loadTemplate_7 ?_
    have q8 := h.1
    have h := h.2
    refine gg_last (pc := 8) cx (hO 59 _ rfl v2) (fun _ _ => rfl) q8 dL_loadTemplate_8 ?_
    refine gg_mem (fun M8 eM8 => ?_)
    have h := h M8 eM8
    refine gg_goto (pc := 9) cx (tgt := 15) dL_loadTemplate_9 (by decide) ?_
    refine gg_iconst (pc := 15) cx (v := 0) dL_loadTemplate_15 (by decide) ?_
    exact gg_iret (pc := 16) cx hQ h dL_loadTemplate_16
theorem cal_L_errorPosition : g_CalW yL_errorPosition cL_errorPosition 4 (some .int) [(0, 9, 12, 23)] 3 := ⟨tw_0, tw_859, by decide, by decide, by decide +kernel⟩
set_option maxRecDepth 100000 in
set_option maxHeartbeats 4000000 in
theorem ct_L_errorPosition {l : Launch} (hl : l.stackTraces = false) {t : gT} (hC : g_hC t) (hM : g_hM t) (hO : g_hO t) {o0 : Nat} {x1 : Int32} {o2 : Nat} (v0 : o0 < 1) (v2 : o2 < 1) {M : gM} {K : Int32 → gM → Prop} (h : wp_L_errorPosition t o0 x1 o2 M K) : Met l yL_errorPosition (g_yW yL_errorPosition cL_errorPosition 4 (some .int) [(0, 9, 12, 23)]) rm_L_errorPosition (va_Pc [.ref (gAd t 8 o0), .int x1, .ref (gAd t 59 o2)] (g_Pre t M)) (va_Qi K (g_B t) (g_A t)) rm_L_errorPosition.cells rm_L_errorPosition.slots (g_A t) := by
  refine g_hmet hl rfl (Nat.le_of_ble_eq_true rfl) (fun X hlX cx hx hQ => ?_)
  subst hlX
  refine gg_aload_n (pc := 0) cx 2 rfl dL_errorPosition_0 rfl ?_
  refine gg_iconst (pc := 1) cx (v := 0) dL_errorPosition_1 (by decide) ?_
  refine gg_aload_n (pc := 2) cx 0 rfl dL_errorPosition_2 rfl ?_
  refine gg_iload_n (pc := 3) cx 1 rfl dL_errorPosition_3 rfl ?_
  refine gg_hcallVi (pc := 4) cx (hh := [(0, 9, 12, 23)]) cal_X8_errorPosition calv_X8_errorPosition (ct_X8_errorPosition cx.tr hC v0 h) tw_861 (hC 8 _ rfl v0) rfl rfl rfl (st := [.int 0, .ref (gAd t 59 o2)]) rfl (Nat.le_of_ble_eq_true rfl) ⟨Nat.le_of_ble_eq_true rfl, Nat.le_of_ble_eq_true rfl⟩ ⟨Nat.le_of_ble_eq_true rfl, Nat.le_of_ble_eq_true rfl⟩ dL_errorPosition_4 hx (fun e4 M4x q4 he h => ?_) (fun r4 M4 h => ?_)
  · have h : (if e4 = 2 then K 1 M4x else False) := h
    by_cases c0 : e4 = 2
    · have h := g_it c0 h
      subst c0
      refine ⟨12, ⟨(tableOf [(0, 9, 12, 23)]).take 0, _, (tableOf [(0, 9, 12, 23)]).drop 1, rfl, (fun z hz => absurd hz List.not_mem_nil), by decide, by decide, tw_860, rfl⟩, ?_⟩
      refine gg_astore_n (pc := 12) cx [(3, .ref q4), (0, .ref (gAd t 8 o0)), (1, .int x1), (2, .ref (gAd t 59 o2))] dL_errorPosition_12 rfl (by decide) rfl ?_
      refine gg_iconst (pc := 13) cx (v := 1) dL_errorPosition_13 (by decide) ?_
      exact gg_iret (pc := 14) cx hQ h dL_errorPosition_14
    have h := g_if c0 h
    exact h.elim
  · skip
    refine gg_i2l (pc := 7) cx dL_errorPosition_7 ?_
    have q8 := h.1
    have h := h.2
    refine gg_last (pc := 8) cx (hO 59 _ rfl v2) (fun _ _ => rfl) q8 dL_errorPosition_8 ?_
    refine gg_mem (fun M8 eM8 => ?_)
    have h := h M8 eM8
    refine gg_goto (pc := 9) cx (tgt := 15) dL_errorPosition_9 (by decide) ?_
    refine gg_iconst (pc := 15) cx (v := 0) dL_errorPosition_15 (by decide) ?_
    exact gg_iret (pc := 16) cx hQ h dL_errorPosition_16
theorem cal_L_parentOf : g_CalW yL_parentOf cL_parentOf 4 (some .int) [(0, 9, 12, 23)] 3 := ⟨tw_0, tw_883, by decide, by decide, by decide +kernel⟩
set_option maxRecDepth 100000 in
set_option maxHeartbeats 4000000 in
theorem ct_L_parentOf {l : Launch} (hl : l.stackTraces = false) {t : gT} (hC : g_hC t) (hM : g_hM t) (hO : g_hO t) {o0 : Nat} {x1 : Int32} {o2 : Nat} (v0 : o0 < 1) (v2 : o2 < 1) {M : gM} {K : Int32 → gM → Prop} (h : wp_L_parentOf t o0 x1 o2 M K) : Met l yL_parentOf (g_yW yL_parentOf cL_parentOf 4 (some .int) [(0, 9, 12, 23)]) rm_L_parentOf (va_Pc [.ref (gAd t 8 o0), .int x1, .ref (gAd t 59 o2)] (g_Pre t M)) (va_Qi K (g_B t) (g_A t)) rm_L_parentOf.cells rm_L_parentOf.slots (g_A t) := by
  refine g_hmet hl rfl (Nat.le_of_ble_eq_true rfl) (fun X hlX cx hx hQ => ?_)
  subst hlX
  refine gg_aload_n (pc := 0) cx 2 rfl dL_parentOf_0 rfl ?_
  refine gg_iconst (pc := 1) cx (v := 0) dL_parentOf_1 (by decide) ?_
  refine gg_aload_n (pc := 2) cx 0 rfl dL_parentOf_2 rfl ?_
  refine gg_iload_n (pc := 3) cx 1 rfl dL_parentOf_3 rfl ?_
  refine gg_hcallVi (pc := 4) cx (hh := [(0, 9, 12, 23)]) cal_X8_parentOf calv_X8_parentOf (ct_X8_parentOf cx.tr hC v0 h) tw_884 (hC 8 _ rfl v0) rfl rfl rfl (st := [.int 0, .ref (gAd t 59 o2)]) rfl (Nat.le_of_ble_eq_true rfl) ⟨Nat.le_of_ble_eq_true rfl, Nat.le_of_ble_eq_true rfl⟩ ⟨Nat.le_of_ble_eq_true rfl, Nat.le_of_ble_eq_true rfl⟩ dL_parentOf_4 hx (fun e4 M4x q4 he h => ?_) (fun r4 M4 h => ?_)
  · have h : (if e4 = 2 then K 1 M4x else False) := h
    by_cases c0 : e4 = 2
    · have h := g_it c0 h
      subst c0
      refine ⟨12, ⟨(tableOf [(0, 9, 12, 23)]).take 0, _, (tableOf [(0, 9, 12, 23)]).drop 1, rfl, (fun z hz => absurd hz List.not_mem_nil), by decide, by decide, tw_860, rfl⟩, ?_⟩
      refine gg_astore_n (pc := 12) cx [(3, .ref q4), (0, .ref (gAd t 8 o0)), (1, .int x1), (2, .ref (gAd t 59 o2))] dL_parentOf_12 rfl (by decide) rfl ?_
      refine gg_iconst (pc := 13) cx (v := 1) dL_parentOf_13 (by decide) ?_
      exact gg_iret (pc := 14) cx hQ h dL_parentOf_14
    have h := g_if c0 h
    exact h.elim
  · skip
    refine gg_i2l (pc := 7) cx dL_parentOf_7 ?_
    have q8 := h.1
    have h := h.2
    refine gg_last (pc := 8) cx (hO 59 _ rfl v2) (fun _ _ => rfl) q8 dL_parentOf_8 ?_
    refine gg_mem (fun M8 eM8 => ?_)
    have h := h M8 eM8
    refine gg_goto (pc := 9) cx (tgt := 15) dL_parentOf_9 (by decide) ?_
    refine gg_iconst (pc := 15) cx (v := 0) dL_parentOf_15 (by decide) ?_
    exact gg_iret (pc := 16) cx hQ h dL_parentOf_16
theorem cal_L_children : g_CalW yL_children cL_children 4 (some .int) [(0, 9, 12, 23)] 3 := ⟨tw_0, tw_896, by decide, by decide, by decide +kernel⟩
set_option maxRecDepth 100000 in
set_option maxHeartbeats 4000000 in
theorem ct_L_children {l : Launch} (hl : l.stackTraces = false) {t : gT} (hC : g_hC t) (hM : g_hM t) (hO : g_hO t) {o0 : Nat} {x1 : Int32} {o2 : Nat} (v0 : o0 < 1) (v2 : o2 < 1) {M : gM} {K : Int32 → gM → Prop} (h : wp_L_children t o0 x1 o2 M K) : Met l yL_children (g_yW yL_children cL_children 4 (some .int) [(0, 9, 12, 23)]) rm_L_children (va_Pc [.ref (gAd t 8 o0), .int x1, .ref (gAd t 59 o2)] (g_Pre t M)) (va_Qi K (g_B t) (g_A t)) rm_L_children.cells rm_L_children.slots (g_A t) := by
  refine g_hmet hl rfl (Nat.le_of_ble_eq_true rfl) (fun X hlX cx hx hQ => ?_)
  subst hlX
  refine gg_aload_n (pc := 0) cx 2 rfl dL_children_0 rfl ?_
  refine gg_iconst (pc := 1) cx (v := 0) dL_children_1 (by decide) ?_
  refine gg_aload_n (pc := 2) cx 0 rfl dL_children_2 rfl ?_
  refine gg_iload_n (pc := 3) cx 1 rfl dL_children_3 rfl ?_
  refine gg_hcallVi (pc := 4) cx (hh := [(0, 9, 12, 23)]) cal_X8_children calv_X8_children (ct_X8_children cx.tr hC v0 h) tw_897 (hC 8 _ rfl v0) rfl rfl rfl (st := [.int 0, .ref (gAd t 59 o2)]) rfl (Nat.le_of_ble_eq_true rfl) ⟨Nat.le_of_ble_eq_true rfl, Nat.le_of_ble_eq_true rfl⟩ ⟨Nat.le_of_ble_eq_true rfl, Nat.le_of_ble_eq_true rfl⟩ dL_children_4 hx (fun e4 M4x q4 he h => ?_) (fun r4 M4 h => ?_)
  · have h : (if e4 = 2 then K 1 M4x else False) := h
    by_cases c0 : e4 = 2
    · have h := g_it c0 h
      subst c0
      refine ⟨12, ⟨(tableOf [(0, 9, 12, 23)]).take 0, _, (tableOf [(0, 9, 12, 23)]).drop 1, rfl, (fun z hz => absurd hz List.not_mem_nil), by decide, by decide, tw_860, rfl⟩, ?_⟩
      refine gg_astore_n (pc := 12) cx [(3, .ref q4), (0, .ref (gAd t 8 o0)), (1, .int x1), (2, .ref (gAd t 59 o2))] dL_children_12 rfl (by decide) rfl ?_
      refine gg_iconst (pc := 13) cx (v := 1) dL_children_13 (by decide) ?_
      exact gg_iret (pc := 14) cx hQ h dL_children_14
    have h := g_if c0 h
    exact h.elim
  · skip
    refine gg_i2l (pc := 7) cx dL_children_7 ?_
    have q8 := h.1
    have h := h.2
    refine gg_last (pc := 8) cx (hO 59 _ rfl v2) (fun _ _ => rfl) q8 dL_children_8 ?_
    refine gg_mem (fun M8 eM8 => ?_)
    have h := h M8 eM8
    refine gg_goto (pc := 9) cx (tgt := 15) dL_children_9 (by decide) ?_
    refine gg_iconst (pc := 15) cx (v := 0) dL_children_15 (by decide) ?_
    exact gg_iret (pc := 16) cx hQ h dL_children_16
theorem cal_L_tieRule : g_CalW yL_tieRule cL_tieRule 4 (some .int) [(0, 9, 12, 23)] 3 := ⟨tw_0, tw_903, by decide, by decide, by decide +kernel⟩
set_option maxRecDepth 100000 in
set_option maxHeartbeats 4000000 in
theorem ct_L_tieRule {l : Launch} (hl : l.stackTraces = false) {t : gT} (hC : g_hC t) (hM : g_hM t) (hO : g_hO t) {o0 : Nat} {x1 : Int32} {o2 : Nat} (v0 : o0 < 1) (v2 : o2 < 1) {M : gM} {K : Int32 → gM → Prop} (h : wp_L_tieRule t o0 x1 o2 M K) : Met l yL_tieRule (g_yW yL_tieRule cL_tieRule 4 (some .int) [(0, 9, 12, 23)]) rm_L_tieRule (va_Pc [.ref (gAd t 8 o0), .int x1, .ref (gAd t 59 o2)] (g_Pre t M)) (va_Qi K (g_B t) (g_A t)) rm_L_tieRule.cells rm_L_tieRule.slots (g_A t) := by
  refine g_hmet hl rfl (Nat.le_of_ble_eq_true rfl) (fun X hlX cx hx hQ => ?_)
  subst hlX
  refine gg_aload_n (pc := 0) cx 2 rfl dL_tieRule_0 rfl ?_
  refine gg_iconst (pc := 1) cx (v := 0) dL_tieRule_1 (by decide) ?_
  refine gg_aload_n (pc := 2) cx 0 rfl dL_tieRule_2 rfl ?_
  refine gg_iload_n (pc := 3) cx 1 rfl dL_tieRule_3 rfl ?_
  refine gg_hcallVi (pc := 4) cx (hh := [(0, 9, 12, 23)]) cal_X8_tieRule calv_X8_tieRule (ct_X8_tieRule cx.tr hC v0 h) tw_904 (hC 8 _ rfl v0) rfl rfl rfl (st := [.int 0, .ref (gAd t 59 o2)]) rfl (Nat.le_of_ble_eq_true rfl) ⟨Nat.le_of_ble_eq_true rfl, Nat.le_of_ble_eq_true rfl⟩ ⟨Nat.le_of_ble_eq_true rfl, Nat.le_of_ble_eq_true rfl⟩ dL_tieRule_4 hx (fun e4 M4x q4 he h => ?_) (fun r4 M4 h => ?_)
  · have h : (if e4 = 2 then K 1 M4x else False) := h
    by_cases c0 : e4 = 2
    · have h := g_it c0 h
      subst c0
      refine ⟨12, ⟨(tableOf [(0, 9, 12, 23)]).take 0, _, (tableOf [(0, 9, 12, 23)]).drop 1, rfl, (fun z hz => absurd hz List.not_mem_nil), by decide, by decide, tw_860, rfl⟩, ?_⟩
      refine gg_astore_n (pc := 12) cx [(3, .ref q4), (0, .ref (gAd t 8 o0)), (1, .int x1), (2, .ref (gAd t 59 o2))] dL_tieRule_12 rfl (by decide) rfl ?_
      refine gg_iconst (pc := 13) cx (v := 1) dL_tieRule_13 (by decide) ?_
      exact gg_iret (pc := 14) cx hQ h dL_tieRule_14
    have h := g_if c0 h
    exact h.elim
  · skip
    refine gg_i2l (pc := 7) cx dL_tieRule_7 ?_
    have q8 := h.1
    have h := h.2
    refine gg_last (pc := 8) cx (hO 59 _ rfl v2) (fun _ _ => rfl) q8 dL_tieRule_8 ?_
    refine gg_mem (fun M8 eM8 => ?_)
    have h := h M8 eM8
    refine gg_goto (pc := 9) cx (tgt := 15) dL_tieRule_9 (by decide) ?_
    refine gg_iconst (pc := 15) cx (v := 0) dL_tieRule_15 (by decide) ?_
    exact gg_iret (pc := 16) cx hQ h dL_tieRule_16
theorem cal_L_setFlowWeight : g_CalW yL_setFlowWeight cL_setFlowWeight 5 (some .int) [(0, 10, 13, 23), (0, 10, 17, 13)] 4 := ⟨tw_0, tw_910, by decide, by decide, by decide +kernel⟩
set_option maxRecDepth 100000 in
set_option maxHeartbeats 4000000 in
theorem ct_L_setFlowWeight {l : Launch} (hl : l.stackTraces = false) {t : gT} (hC : g_hC t) (hM : g_hM t) (hO : g_hO t) {o0 : Nat} {x1 : Int32} {x2 : Int32} {o3 : Nat} (v0 : o0 < 1) (v3 : o3 < 1) {M : gM} {K : Int32 → gM → Prop} (h : wp_L_setFlowWeight t o0 x1 x2 o3 M K) : Met l yL_setFlowWeight (g_yW yL_setFlowWeight cL_setFlowWeight 5 (some .int) [(0, 10, 13, 23), (0, 10, 17, 13)]) rm_L_setFlowWeight (va_Pc [.ref (gAd t 8 o0), .int x1, .int x2, .ref (gAd t 59 o3)] (g_Pre t M)) (va_Qi K (g_B t) (g_A t)) rm_L_setFlowWeight.cells rm_L_setFlowWeight.slots (g_A t) := by
  refine g_hmet hl rfl (Nat.le_of_ble_eq_true rfl) (fun X hlX cx hx hQ => ?_)
  subst hlX
  refine gg_aload_n (pc := 0) cx 3 rfl dL_setFlowWeight_0 rfl ?_
  refine gg_iconst (pc := 1) cx (v := 0) dL_setFlowWeight_1 (by decide) ?_
  refine gg_aload_n (pc := 2) cx 0 rfl dL_setFlowWeight_2 rfl ?_
  refine gg_iload_n (pc := 3) cx 1 rfl dL_setFlowWeight_3 rfl ?_
  refine gg_iload_n (pc := 4) cx 2 rfl dL_setFlowWeight_4 rfl ?_
  refine gg_hcallVi (pc := 5) cx (hh := [(0, 10, 13, 23), (0, 10, 17, 13)]) cal_X8_setFlowWeight calv_X8_setFlowWeight (ct_X8_setFlowWeight cx.tr hC v0 h) tw_911 (hC 8 _ rfl v0) rfl rfl rfl (st := [.int 0, .ref (gAd t 59 o3)]) rfl (Nat.le_of_ble_eq_true rfl) ⟨Nat.le_of_ble_eq_true rfl, Nat.le_of_ble_eq_true rfl⟩ ⟨Nat.le_of_ble_eq_true rfl, Nat.le_of_ble_eq_true rfl⟩ dL_setFlowWeight_5 hx (fun e5 M5x q5 he h => ?_) (fun r5 M5 h => ?_)
  · have h : (if e5 = 2 then K 1 M5x else (if e5 = 0 then K 2 M5x else False)) := h
    by_cases c0 : e5 = 2
    · have h := g_it c0 h
      subst c0
      refine ⟨13, ⟨(tableOf [(0, 10, 13, 23), (0, 10, 17, 13)]).take 0, _, (tableOf [(0, 10, 13, 23), (0, 10, 17, 13)]).drop 1, rfl, (fun z hz => absurd hz List.not_mem_nil), by decide, by decide, tw_860, rfl⟩, ?_⟩
      refine gg_astore (pc := 13) cx [(4, .ref q5), (0, .ref (gAd t 8 o0)), (1, .int x1), (2, .int x2), (3, .ref (gAd t 59 o3))] dL_setFlowWeight_13 (by decide) rfl ?_
      refine gg_iconst (pc := 15) cx (v := 1) dL_setFlowWeight_15 (by decide) ?_
      exact gg_iret (pc := 16) cx hQ h dL_setFlowWeight_16
    have h := g_if c0 h
    by_cases c1 : e5 = 0
    · have h := g_it c1 h
      subst c1
      refine ⟨17, ⟨(tableOf [(0, 10, 13, 23), (0, 10, 17, 13)]).take 1, _, (tableOf [(0, 10, 13, 23), (0, 10, 17, 13)]).drop 2, rfl, (List.forall_mem_cons.mpr ⟨⟨by decide, 2, by decide, by decide, tw_860⟩, (fun z hz => absurd hz List.not_mem_nil)⟩), by decide, by decide, tw_760, rfl⟩, ?_⟩
      refine gg_astore (pc := 17) cx [(4, .ref q5), (0, .ref (gAd t 8 o0)), (1, .int x1), (2, .int x2), (3, .ref (gAd t 59 o3))] dL_setFlowWeight_17 (by decide) rfl ?_
      refine gg_iconst (pc := 19) cx (v := 2) dL_setFlowWeight_19 (by decide) ?_
      exact gg_iret (pc := 20) cx hQ h dL_setFlowWeight_20
    have h := g_if c1 h
    exact h.elim
  · skip
    refine gg_i2l (pc := 8) cx dL_setFlowWeight_8 ?_
    have q9 := h.1
    have h := h.2
    refine gg_last (pc := 9) cx (hO 59 _ rfl v3) (fun _ _ => rfl) q9 dL_setFlowWeight_9 ?_
    refine gg_mem (fun M9 eM9 => ?_)
    have h := h M9 eM9
    refine gg_goto (pc := 10) cx (tgt := 21) dL_setFlowWeight_10 (by decide) ?_
    refine gg_iconst (pc := 21) cx (v := 0) dL_setFlowWeight_21 (by decide) ?_
    exact gg_iret (pc := 22) cx hQ h dL_setFlowWeight_22
theorem cal_L_setNodeWeight : g_CalW yL_setNodeWeight cL_setNodeWeight 5 (some .int) [(0, 10, 13, 23), (0, 10, 17, 13)] 4 := ⟨tw_0, tw_925, by decide, by decide, by decide +kernel⟩
set_option maxRecDepth 100000 in
set_option maxHeartbeats 4000000 in
theorem ct_L_setNodeWeight {l : Launch} (hl : l.stackTraces = false) {t : gT} (hC : g_hC t) (hM : g_hM t) (hO : g_hO t) {o0 : Nat} {x1 : Int32} {x2 : Int32} {o3 : Nat} (v0 : o0 < 1) (v3 : o3 < 1) {M : gM} {K : Int32 → gM → Prop} (h : wp_L_setNodeWeight t o0 x1 x2 o3 M K) : Met l yL_setNodeWeight (g_yW yL_setNodeWeight cL_setNodeWeight 5 (some .int) [(0, 10, 13, 23), (0, 10, 17, 13)]) rm_L_setNodeWeight (va_Pc [.ref (gAd t 8 o0), .int x1, .int x2, .ref (gAd t 59 o3)] (g_Pre t M)) (va_Qi K (g_B t) (g_A t)) rm_L_setNodeWeight.cells rm_L_setNodeWeight.slots (g_A t) := by
  refine g_hmet hl rfl (Nat.le_of_ble_eq_true rfl) (fun X hlX cx hx hQ => ?_)
  subst hlX
  refine gg_aload_n (pc := 0) cx 3 rfl dL_setNodeWeight_0 rfl ?_
  refine gg_iconst (pc := 1) cx (v := 0) dL_setNodeWeight_1 (by decide) ?_
  refine gg_aload_n (pc := 2) cx 0 rfl dL_setNodeWeight_2 rfl ?_
  refine gg_iload_n (pc := 3) cx 1 rfl dL_setNodeWeight_3 rfl ?_
  refine gg_iload_n (pc := 4) cx 2 rfl dL_setNodeWeight_4 rfl ?_
  refine gg_hcallVi (pc := 5) cx (hh := [(0, 10, 13, 23), (0, 10, 17, 13)]) cal_X8_setNodeWeight calv_X8_setNodeWeight (ct_X8_setNodeWeight cx.tr hC v0 h) tw_926 (hC 8 _ rfl v0) rfl rfl rfl (st := [.int 0, .ref (gAd t 59 o3)]) rfl (Nat.le_of_ble_eq_true rfl) ⟨Nat.le_of_ble_eq_true rfl, Nat.le_of_ble_eq_true rfl⟩ ⟨Nat.le_of_ble_eq_true rfl, Nat.le_of_ble_eq_true rfl⟩ dL_setNodeWeight_5 hx (fun e5 M5x q5 he h => ?_) (fun r5 M5 h => ?_)
  · have h : (if e5 = 2 then K 1 M5x else (if e5 = 0 then K 2 M5x else False)) := h
    by_cases c0 : e5 = 2
    · have h := g_it c0 h
      subst c0
      refine ⟨13, ⟨(tableOf [(0, 10, 13, 23), (0, 10, 17, 13)]).take 0, _, (tableOf [(0, 10, 13, 23), (0, 10, 17, 13)]).drop 1, rfl, (fun z hz => absurd hz List.not_mem_nil), by decide, by decide, tw_860, rfl⟩, ?_⟩
      refine gg_astore (pc := 13) cx [(4, .ref q5), (0, .ref (gAd t 8 o0)), (1, .int x1), (2, .int x2), (3, .ref (gAd t 59 o3))] dL_setNodeWeight_13 (by decide) rfl ?_
      refine gg_iconst (pc := 15) cx (v := 1) dL_setNodeWeight_15 (by decide) ?_
      exact gg_iret (pc := 16) cx hQ h dL_setNodeWeight_16
    have h := g_if c0 h
    by_cases c1 : e5 = 0
    · have h := g_it c1 h
      subst c1
      refine ⟨17, ⟨(tableOf [(0, 10, 13, 23), (0, 10, 17, 13)]).take 1, _, (tableOf [(0, 10, 13, 23), (0, 10, 17, 13)]).drop 2, rfl, (List.forall_mem_cons.mpr ⟨⟨by decide, 2, by decide, by decide, tw_860⟩, (fun z hz => absurd hz List.not_mem_nil)⟩), by decide, by decide, tw_760, rfl⟩, ?_⟩
      refine gg_astore (pc := 17) cx [(4, .ref q5), (0, .ref (gAd t 8 o0)), (1, .int x1), (2, .int x2), (3, .ref (gAd t 59 o3))] dL_setNodeWeight_17 (by decide) rfl ?_
      refine gg_iconst (pc := 19) cx (v := 2) dL_setNodeWeight_19 (by decide) ?_
      exact gg_iret (pc := 20) cx hQ h dL_setNodeWeight_20
    have h := g_if c1 h
    exact h.elim
  · skip
    refine gg_i2l (pc := 8) cx dL_setNodeWeight_8 ?_
    have q9 := h.1
    have h := h.2
    refine gg_last (pc := 9) cx (hO 59 _ rfl v3) (fun _ _ => rfl) q9 dL_setNodeWeight_9 ?_
    refine gg_mem (fun M9 eM9 => ?_)
    have h := h M9 eM9
    refine gg_goto (pc := 10) cx (tgt := 21) dL_setNodeWeight_10 (by decide) ?_
    refine gg_iconst (pc := 21) cx (v := 0) dL_setNodeWeight_21 (by decide) ?_
    exact gg_iret (pc := 22) cx hQ h dL_setNodeWeight_22
theorem cal_L_assign : g_CalW yL_assign cL_assign 5 (some .int) [(0, 10, 13, 23), (0, 10, 17, 13)] 4 := ⟨tw_0, tw_932, by decide, by decide, by decide +kernel⟩
set_option maxRecDepth 100000 in
set_option maxHeartbeats 4000000 in
theorem ct_L_assign {l : Launch} (hl : l.stackTraces = false) {t : gT} (hC : g_hC t) (hM : g_hM t) (hO : g_hO t) {o0 : Nat} {x1 : Int32} {x2 : Int32} {o3 : Nat} (v0 : o0 < 1) (v3 : o3 < 1) {M : gM} {K : Int32 → gM → Prop} (h : wp_L_assign t o0 x1 x2 o3 M K) : Met l yL_assign (g_yW yL_assign cL_assign 5 (some .int) [(0, 10, 13, 23), (0, 10, 17, 13)]) rm_L_assign (va_Pc [.ref (gAd t 8 o0), .int x1, .int x2, .ref (gAd t 59 o3)] (g_Pre t M)) (va_Qi K (g_B t) (g_A t)) rm_L_assign.cells rm_L_assign.slots (g_A t) := by
  refine g_hmet hl rfl (Nat.le_of_ble_eq_true rfl) (fun X hlX cx hx hQ => ?_)
  subst hlX
  refine gg_aload_n (pc := 0) cx 3 rfl dL_assign_0 rfl ?_
  refine gg_iconst (pc := 1) cx (v := 0) dL_assign_1 (by decide) ?_
  refine gg_aload_n (pc := 2) cx 0 rfl dL_assign_2 rfl ?_
  refine gg_iload_n (pc := 3) cx 1 rfl dL_assign_3 rfl ?_
  refine gg_iload_n (pc := 4) cx 2 rfl dL_assign_4 rfl ?_
  refine gg_hcallVi (pc := 5) cx (hh := [(0, 10, 13, 23), (0, 10, 17, 13)]) cal_X8_assign calv_X8_assign (ct_X8_assign cx.tr hC v0 h) tw_933 (hC 8 _ rfl v0) rfl rfl rfl (st := [.int 0, .ref (gAd t 59 o3)]) rfl (Nat.le_of_ble_eq_true rfl) ⟨Nat.le_of_ble_eq_true rfl, Nat.le_of_ble_eq_true rfl⟩ ⟨Nat.le_of_ble_eq_true rfl, Nat.le_of_ble_eq_true rfl⟩ dL_assign_5 hx (fun e5 M5x q5 he h => ?_) (fun r5 M5 h => ?_)
  · have h : (if e5 = 2 then K 1 M5x else (if e5 = 0 then K 2 M5x else False)) := h
    by_cases c0 : e5 = 2
    · have h := g_it c0 h
      subst c0
      refine ⟨13, ⟨(tableOf [(0, 10, 13, 23), (0, 10, 17, 13)]).take 0, _, (tableOf [(0, 10, 13, 23), (0, 10, 17, 13)]).drop 1, rfl, (fun z hz => absurd hz List.not_mem_nil), by decide, by decide, tw_860, rfl⟩, ?_⟩
      refine gg_astore (pc := 13) cx [(4, .ref q5), (0, .ref (gAd t 8 o0)), (1, .int x1), (2, .int x2), (3, .ref (gAd t 59 o3))] dL_assign_13 (by decide) rfl ?_
      refine gg_iconst (pc := 15) cx (v := 1) dL_assign_15 (by decide) ?_
      exact gg_iret (pc := 16) cx hQ h dL_assign_16
    have h := g_if c0 h
    by_cases c1 : e5 = 0
    · have h := g_it c1 h
      subst c1
      refine ⟨17, ⟨(tableOf [(0, 10, 13, 23), (0, 10, 17, 13)]).take 1, _, (tableOf [(0, 10, 13, 23), (0, 10, 17, 13)]).drop 2, rfl, (List.forall_mem_cons.mpr ⟨⟨by decide, 2, by decide, by decide, tw_860⟩, (fun z hz => absurd hz List.not_mem_nil)⟩), by decide, by decide, tw_760, rfl⟩, ?_⟩
      refine gg_astore (pc := 17) cx [(4, .ref q5), (0, .ref (gAd t 8 o0)), (1, .int x1), (2, .int x2), (3, .ref (gAd t 59 o3))] dL_assign_17 (by decide) rfl ?_
      refine gg_iconst (pc := 19) cx (v := 2) dL_assign_19 (by decide) ?_
      exact gg_iret (pc := 20) cx hQ h dL_assign_20
    have h := g_if c1 h
    exact h.elim
  · skip
    refine gg_i2l (pc := 8) cx dL_assign_8 ?_
    have q9 := h.1
    have h := h.2
    refine gg_last (pc := 9) cx (hO 59 _ rfl v3) (fun _ _ => rfl) q9 dL_assign_9 ?_
    refine gg_mem (fun M9 eM9 => ?_)
    have h := h M9 eM9
    refine gg_goto (pc := 10) cx (tgt := 21) dL_assign_10 (by decide) ?_
    refine gg_iconst (pc := 21) cx (v := 0) dL_assign_21 (by decide) ?_
    exact gg_iret (pc := 22) cx hQ h dL_assign_22
theorem cal_L_leafOf : g_CalW yL_leafOf cL_leafOf 4 (some .int) [(0, 9, 12, 23)] 3 := ⟨tw_0, tw_941, by decide, by decide, by decide +kernel⟩
set_option maxRecDepth 100000 in
set_option maxHeartbeats 4000000 in
theorem ct_L_leafOf {l : Launch} (hl : l.stackTraces = false) {t : gT} (hC : g_hC t) (hM : g_hM t) (hO : g_hO t) {o0 : Nat} {x1 : Int32} {o2 : Nat} (v0 : o0 < 1) (v2 : o2 < 1) {M : gM} {K : Int32 → gM → Prop} (h : wp_L_leafOf t o0 x1 o2 M K) : Met l yL_leafOf (g_yW yL_leafOf cL_leafOf 4 (some .int) [(0, 9, 12, 23)]) rm_L_leafOf (va_Pc [.ref (gAd t 8 o0), .int x1, .ref (gAd t 59 o2)] (g_Pre t M)) (va_Qi K (g_B t) (g_A t)) rm_L_leafOf.cells rm_L_leafOf.slots (g_A t) := by
  refine g_hmet hl rfl (Nat.le_of_ble_eq_true rfl) (fun X hlX cx hx hQ => ?_)
  subst hlX
  refine gg_aload_n (pc := 0) cx 2 rfl dL_leafOf_0 rfl ?_
  refine gg_iconst (pc := 1) cx (v := 0) dL_leafOf_1 (by decide) ?_
  refine gg_aload_n (pc := 2) cx 0 rfl dL_leafOf_2 rfl ?_
  refine gg_iload_n (pc := 3) cx 1 rfl dL_leafOf_3 rfl ?_
  refine gg_hcallVi (pc := 4) cx (hh := [(0, 9, 12, 23)]) cal_X8_leafOf calv_X8_leafOf (ct_X8_leafOf cx.tr hC v0 h) tw_942 (hC 8 _ rfl v0) rfl rfl rfl (st := [.int 0, .ref (gAd t 59 o2)]) rfl (Nat.le_of_ble_eq_true rfl) ⟨Nat.le_of_ble_eq_true rfl, Nat.le_of_ble_eq_true rfl⟩ ⟨Nat.le_of_ble_eq_true rfl, Nat.le_of_ble_eq_true rfl⟩ dL_leafOf_4 hx (fun e4 M4x q4 he h => ?_) (fun r4 M4 h => ?_)
  · have h : (if e4 = 2 then K 1 M4x else False) := h
    by_cases c0 : e4 = 2
    · have h := g_it c0 h
      subst c0
      refine ⟨12, ⟨(tableOf [(0, 9, 12, 23)]).take 0, _, (tableOf [(0, 9, 12, 23)]).drop 1, rfl, (fun z hz => absurd hz List.not_mem_nil), by decide, by decide, tw_860, rfl⟩, ?_⟩
      refine gg_astore_n (pc := 12) cx [(3, .ref q4), (0, .ref (gAd t 8 o0)), (1, .int x1), (2, .ref (gAd t 59 o2))] dL_leafOf_12 rfl (by decide) rfl ?_
      refine gg_iconst (pc := 13) cx (v := 1) dL_leafOf_13 (by decide) ?_
      exact gg_iret (pc := 14) cx hQ h dL_leafOf_14
    have h := g_if c0 h
    exact h.elim
  · skip
    refine gg_i2l (pc := 7) cx dL_leafOf_7 ?_
    have q8 := h.1
    have h := h.2
    refine gg_last (pc := 8) cx (hO 59 _ rfl v2) (fun _ _ => rfl) q8 dL_leafOf_8 ?_
    refine gg_mem (fun M8 eM8 => ?_)
    have h := h M8 eM8
    refine gg_goto (pc := 9) cx (tgt := 15) dL_leafOf_9 (by decide) ?_
    refine gg_iconst (pc := 15) cx (v := 0) dL_leafOf_15 (by decide) ?_
    exact gg_iret (pc := 16) cx hQ h dL_leafOf_16
theorem cal_L_setLinkRate : g_CalW yL_setLinkRate cL_setLinkRate 4 (some .int) [(0, 9, 12, 13)] 3 := ⟨tw_0, tw_948, by decide, by decide, by decide +kernel⟩
set_option maxRecDepth 100000 in
set_option maxHeartbeats 4000000 in
theorem ct_L_setLinkRate {l : Launch} (hl : l.stackTraces = false) {t : gT} (hC : g_hC t) (hM : g_hM t) (hO : g_hO t) {o0 : Nat} {x1 : Int32} {o2 : Nat} (v0 : o0 < 1) (v2 : o2 < 1) {M : gM} {K : Int32 → gM → Prop} (h : wp_L_setLinkRate t o0 x1 o2 M K) : Met l yL_setLinkRate (g_yW yL_setLinkRate cL_setLinkRate 4 (some .int) [(0, 9, 12, 13)]) rm_L_setLinkRate (va_Pc [.ref (gAd t 8 o0), .int x1, .ref (gAd t 59 o2)] (g_Pre t M)) (va_Qi K (g_B t) (g_A t)) rm_L_setLinkRate.cells rm_L_setLinkRate.slots (g_A t) := by
  refine g_hmet hl rfl (Nat.le_of_ble_eq_true rfl) (fun X hlX cx hx hQ => ?_)
  subst hlX
  refine gg_aload_n (pc := 0) cx 2 rfl dL_setLinkRate_0 rfl ?_
  refine gg_iconst (pc := 1) cx (v := 0) dL_setLinkRate_1 (by decide) ?_
  refine gg_aload_n (pc := 2) cx 0 rfl dL_setLinkRate_2 rfl ?_
  refine gg_iload_n (pc := 3) cx 1 rfl dL_setLinkRate_3 rfl ?_
  refine gg_hcallVi (pc := 4) cx (hh := [(0, 9, 12, 13)]) cal_X8_setLinkRate calv_X8_setLinkRate (ct_X8_setLinkRate cx.tr hC v0 h) tw_949 (hC 8 _ rfl v0) rfl rfl rfl (st := [.int 0, .ref (gAd t 59 o2)]) rfl (Nat.le_of_ble_eq_true rfl) ⟨Nat.le_of_ble_eq_true rfl, Nat.le_of_ble_eq_true rfl⟩ ⟨Nat.le_of_ble_eq_true rfl, Nat.le_of_ble_eq_true rfl⟩ dL_setLinkRate_4 hx (fun e4 M4x q4 he h => ?_) (fun r4 M4 h => ?_)
  · have h : (if e4 = 0 then K 1 M4x else False) := h
    by_cases c0 : e4 = 0
    · have h := g_it c0 h
      subst c0
      refine ⟨12, ⟨(tableOf [(0, 9, 12, 13)]).take 0, _, (tableOf [(0, 9, 12, 13)]).drop 1, rfl, (fun z hz => absurd hz List.not_mem_nil), by decide, by decide, tw_760, rfl⟩, ?_⟩
      refine gg_astore_n (pc := 12) cx [(3, .ref q4), (0, .ref (gAd t 8 o0)), (1, .int x1), (2, .ref (gAd t 59 o2))] dL_setLinkRate_12 rfl (by decide) rfl ?_
      refine gg_iconst (pc := 13) cx (v := 1) dL_setLinkRate_13 (by decide) ?_
      exact gg_iret (pc := 14) cx hQ h dL_setLinkRate_14
    have h := g_if c0 h
    exact h.elim
  · skip
    refine gg_i2l (pc := 7) cx dL_setLinkRate_7 ?_
    have q8 := h.1
    have h := h.2
    refine gg_last (pc := 8) cx (hO 59 _ rfl v2) (fun _ _ => rfl) q8 dL_setLinkRate_8 ?_
    refine gg_mem (fun M8 eM8 => ?_)
    have h := h M8 eM8
    refine gg_goto (pc := 9) cx (tgt := 15) dL_setLinkRate_9 (by decide) ?_
    refine gg_iconst (pc := 15) cx (v := 0) dL_setLinkRate_15 (by decide) ?_
    exact gg_iret (pc := 16) cx hQ h dL_setLinkRate_16
theorem cal_L_enqueue : g_CalW yL_enqueue cL_enqueue 7 (some .int) [(0, 14, 17, 23), (0, 14, 21, 13), (0, 14, 25, 15)] 6 := ⟨tw_0, tw_956, by decide, by decide, by decide +kernel⟩
set_option maxRecDepth 100000 in
set_option maxHeartbeats 4000000 in
theorem ct_L_enqueue {l : Launch} (hl : l.stackTraces = false) {t : gT} (hC : g_hC t) (hM : g_hM t) (hO : g_hO t) {o0 : Nat} {x1 : Int32} {x2 : Int32} {x3 : Int32} {x4 : Int32} {o5 : Nat} (v0 : o0 < 1) (v5 : o5 < 1) {M : gM} {K : Int32 → gM → Prop} (h : wp_L_enqueue t o0 x1 x2 x3 x4 o5 M K) : Met l yL_enqueue (g_yW yL_enqueue cL_enqueue 7 (some .int) [(0, 14, 17, 23), (0, 14, 21, 13), (0, 14, 25, 15)]) rm_L_enqueue (va_Pc [.ref (gAd t 8 o0), .int x1, .int x2, .int x3, .int x4, .ref (gAd t 59 o5)] (g_Pre t M)) (va_Qi K (g_B t) (g_A t)) rm_L_enqueue.cells rm_L_enqueue.slots (g_A t) := by
  refine g_hmet hl rfl (Nat.le_of_ble_eq_true rfl) (fun X hlX cx hx hQ => ?_)
  subst hlX
  refine gg_aload (pc := 0) cx 5 rfl dL_enqueue_0 ?_
  refine gg_iconst (pc := 2) cx (v := 0) dL_enqueue_2 (by decide) ?_
  refine gg_aload_n (pc := 3) cx 0 rfl dL_enqueue_3 rfl ?_
  refine gg_iload_n (pc := 4) cx 1 rfl dL_enqueue_4 rfl ?_
  refine gg_iload_n (pc := 5) cx 2 rfl dL_enqueue_5 rfl ?_
  refine gg_iload_n (pc := 6) cx 3 rfl dL_enqueue_6 rfl ?_
  refine gg_iload (pc := 7) cx 4 rfl dL_enqueue_7 ?_
  refine gg_hcallVi (pc := 9) cx (hh := [(0, 14, 17, 23), (0, 14, 21, 13), (0, 14, 25, 15)]) cal_X8_enqueue calv_X8_enqueue (ct_X8_enqueue cx.tr hC v0 h) tw_957 (hC 8 _ rfl v0) rfl rfl rfl (st := [.int 0, .ref (gAd t 59 o5)]) rfl (Nat.le_of_ble_eq_true rfl) ⟨Nat.le_of_ble_eq_true rfl, Nat.le_of_ble_eq_true rfl⟩ ⟨Nat.le_of_ble_eq_true rfl, Nat.le_of_ble_eq_true rfl⟩ dL_enqueue_9 hx (fun e9 M9x q9 he h => ?_) (fun r9 M9 h => ?_)
  · have h : (if e9 = 2 then K 1 M9x else (if e9 = 0 then K 2 M9x else (if e9 = 1 then K 3 M9x else False))) := h
    by_cases c0 : e9 = 2
    · have h := g_it c0 h
      subst c0
      refine ⟨17, ⟨(tableOf [(0, 14, 17, 23), (0, 14, 21, 13), (0, 14, 25, 15)]).take 0, _, (tableOf [(0, 14, 17, 23), (0, 14, 21, 13), (0, 14, 25, 15)]).drop 1, rfl, (fun z hz => absurd hz List.not_mem_nil), by decide, by decide, tw_860, rfl⟩, ?_⟩
      refine gg_astore (pc := 17) cx [(6, .ref q9), (0, .ref (gAd t 8 o0)), (1, .int x1), (2, .int x2), (3, .int x3), (4, .int x4), (5, .ref (gAd t 59 o5))] dL_enqueue_17 (by decide) rfl ?_
      refine gg_iconst (pc := 19) cx (v := 1) dL_enqueue_19 (by decide) ?_
      exact gg_iret (pc := 20) cx hQ h dL_enqueue_20
    have h := g_if c0 h
    by_cases c1 : e9 = 0
    · have h := g_it c1 h
      subst c1
      refine ⟨21, ⟨(tableOf [(0, 14, 17, 23), (0, 14, 21, 13), (0, 14, 25, 15)]).take 1, _, (tableOf [(0, 14, 17, 23), (0, 14, 21, 13), (0, 14, 25, 15)]).drop 2, rfl, (List.forall_mem_cons.mpr ⟨⟨by decide, 2, by decide, by decide, tw_860⟩, (fun z hz => absurd hz List.not_mem_nil)⟩), by decide, by decide, tw_760, rfl⟩, ?_⟩
      refine gg_astore (pc := 21) cx [(6, .ref q9), (0, .ref (gAd t 8 o0)), (1, .int x1), (2, .int x2), (3, .int x3), (4, .int x4), (5, .ref (gAd t 59 o5))] dL_enqueue_21 (by decide) rfl ?_
      refine gg_iconst (pc := 23) cx (v := 2) dL_enqueue_23 (by decide) ?_
      exact gg_iret (pc := 24) cx hQ h dL_enqueue_24
    have h := g_if c1 h
    by_cases c2 : e9 = 1
    · have h := g_it c2 h
      subst c2
      refine ⟨25, ⟨(tableOf [(0, 14, 17, 23), (0, 14, 21, 13), (0, 14, 25, 15)]).take 2, _, (tableOf [(0, 14, 17, 23), (0, 14, 21, 13), (0, 14, 25, 15)]).drop 3, rfl, (List.forall_mem_cons.mpr ⟨⟨by decide, 2, by decide, by decide, tw_860⟩, (List.forall_mem_cons.mpr ⟨⟨by decide, 0, by decide, by decide, tw_760⟩, (fun z hz => absurd hz List.not_mem_nil)⟩)⟩), by decide, by decide, tw_761, rfl⟩, ?_⟩
      refine gg_astore (pc := 25) cx [(6, .ref q9), (0, .ref (gAd t 8 o0)), (1, .int x1), (2, .int x2), (3, .int x3), (4, .int x4), (5, .ref (gAd t 59 o5))] dL_enqueue_25 (by decide) rfl ?_
      refine gg_iconst (pc := 27) cx (v := 3) dL_enqueue_27 (by decide) ?_
      exact gg_iret (pc := 28) cx hQ h dL_enqueue_28
    have h := g_if c2 h
    exact h.elim
  · skip
    refine gg_i2l (pc := 12) cx dL_enqueue_12 ?_
    have q13 := h.1
    have h := h.2
    refine gg_last (pc := 13) cx (hO 59 _ rfl v5) (fun _ _ => rfl) q13 dL_enqueue_13 ?_
    refine gg_mem (fun M13 eM13 => ?_)
    have h := h M13 eM13
    refine gg_goto (pc := 14) cx (tgt := 29) dL_enqueue_14 (by decide) ?_
    refine gg_iconst (pc := 29) cx (v := 0) dL_enqueue_29 (by decide) ?_
    exact gg_iret (pc := 30) cx hQ h dL_enqueue_30
theorem cal_L_advance : g_CalW yL_advance cL_advance 4 (some .int) [(0, 9, 12, 13)] 3 := ⟨tw_0, tw_985, by decide, by decide, by decide +kernel⟩
set_option maxRecDepth 100000 in
set_option maxHeartbeats 4000000 in
theorem ct_L_advance {l : Launch} (hl : l.stackTraces = false) {t : gT} (hC : g_hC t) (hM : g_hM t) (hO : g_hO t) {o0 : Nat} {x1 : Int32} {o2 : Nat} (v0 : o0 < 1) (v2 : o2 < 1) {M : gM} {K : Int32 → gM → Prop} (h : wp_L_advance t o0 x1 o2 M K) : Met l yL_advance (g_yW yL_advance cL_advance 4 (some .int) [(0, 9, 12, 13)]) rm_L_advance (va_Pc [.ref (gAd t 8 o0), .int x1, .ref (gAd t 59 o2)] (g_Pre t M)) (va_Qi K (g_B t) (g_A t)) rm_L_advance.cells rm_L_advance.slots (g_A t) := by
  refine g_hmet hl rfl (Nat.le_of_ble_eq_true rfl) (fun X hlX cx hx hQ => ?_)
  subst hlX
  refine gg_aload_n (pc := 0) cx 2 rfl dL_advance_0 rfl ?_
  refine gg_iconst (pc := 1) cx (v := 0) dL_advance_1 (by decide) ?_
  refine gg_aload_n (pc := 2) cx 0 rfl dL_advance_2 rfl ?_
  refine gg_iload_n (pc := 3) cx 1 rfl dL_advance_3 rfl ?_
  refine gg_hcallVi (pc := 4) cx (hh := [(0, 9, 12, 13)]) cal_X8_advance calv_X8_advance (ct_X8_advance cx.tr hC v0 h) tw_986 (hC 8 _ rfl v0) rfl rfl rfl (st := [.int 0, .ref (gAd t 59 o2)]) rfl (Nat.le_of_ble_eq_true rfl) ⟨Nat.le_of_ble_eq_true rfl, Nat.le_of_ble_eq_true rfl⟩ ⟨Nat.le_of_ble_eq_true rfl, Nat.le_of_ble_eq_true rfl⟩ dL_advance_4 hx (fun e4 M4x q4 he h => ?_) (fun r4 M4 h => ?_)
  · have h : (if e4 = 0 then K 1 M4x else False) := h
    by_cases c0 : e4 = 0
    · have h := g_it c0 h
      subst c0
      refine ⟨12, ⟨(tableOf [(0, 9, 12, 13)]).take 0, _, (tableOf [(0, 9, 12, 13)]).drop 1, rfl, (fun z hz => absurd hz List.not_mem_nil), by decide, by decide, tw_760, rfl⟩, ?_⟩
      refine gg_astore_n (pc := 12) cx [(3, .ref q4), (0, .ref (gAd t 8 o0)), (1, .int x1), (2, .ref (gAd t 59 o2))] dL_advance_12 rfl (by decide) rfl ?_
      refine gg_iconst (pc := 13) cx (v := 1) dL_advance_13 (by decide) ?_
      exact gg_iret (pc := 14) cx hQ h dL_advance_14
    have h := g_if c0 h
    exact h.elim
  · skip
    refine gg_i2l (pc := 7) cx dL_advance_7 ?_
    have q8 := h.1
    have h := h.2
    refine gg_last (pc := 8) cx (hO 59 _ rfl v2) (fun _ _ => rfl) q8 dL_advance_8 ?_
    refine gg_mem (fun M8 eM8 => ?_)
    have h := h M8 eM8
    refine gg_goto (pc := 9) cx (tgt := 15) dL_advance_9 (by decide) ?_
    refine gg_iconst (pc := 15) cx (v := 0) dL_advance_15 (by decide) ?_
    exact gg_iret (pc := 16) cx hQ h dL_advance_16
theorem cal_L_queueLength : g_CalW yL_queueLength cL_queueLength 4 (some .int) [(0, 9, 12, 23)] 3 := ⟨tw_0, tw_994, by decide, by decide, by decide +kernel⟩
set_option maxRecDepth 100000 in
set_option maxHeartbeats 4000000 in
theorem ct_L_queueLength {l : Launch} (hl : l.stackTraces = false) {t : gT} (hC : g_hC t) (hM : g_hM t) (hO : g_hO t) {o0 : Nat} {x1 : Int32} {o2 : Nat} (v0 : o0 < 1) (v2 : o2 < 1) {M : gM} {K : Int32 → gM → Prop} (h : wp_L_queueLength t o0 x1 o2 M K) : Met l yL_queueLength (g_yW yL_queueLength cL_queueLength 4 (some .int) [(0, 9, 12, 23)]) rm_L_queueLength (va_Pc [.ref (gAd t 8 o0), .int x1, .ref (gAd t 59 o2)] (g_Pre t M)) (va_Qi K (g_B t) (g_A t)) rm_L_queueLength.cells rm_L_queueLength.slots (g_A t) := by
  refine g_hmet hl rfl (Nat.le_of_ble_eq_true rfl) (fun X hlX cx hx hQ => ?_)
  subst hlX
  refine gg_aload_n (pc := 0) cx 2 rfl dL_queueLength_0 rfl ?_
  refine gg_iconst (pc := 1) cx (v := 0) dL_queueLength_1 (by decide) ?_
  refine gg_aload_n (pc := 2) cx 0 rfl dL_queueLength_2 rfl ?_
  refine gg_iload_n (pc := 3) cx 1 rfl dL_queueLength_3 rfl ?_
  refine gg_hcallVi (pc := 4) cx (hh := [(0, 9, 12, 23)]) cal_X8_queueLength calv_X8_queueLength (ct_X8_queueLength cx.tr hC v0 h) tw_995 (hC 8 _ rfl v0) rfl rfl rfl (st := [.int 0, .ref (gAd t 59 o2)]) rfl (Nat.le_of_ble_eq_true rfl) ⟨Nat.le_of_ble_eq_true rfl, Nat.le_of_ble_eq_true rfl⟩ ⟨Nat.le_of_ble_eq_true rfl, Nat.le_of_ble_eq_true rfl⟩ dL_queueLength_4 hx (fun e4 M4x q4 he h => ?_) (fun r4 M4 h => ?_)
  · have h : (if e4 = 2 then K 1 M4x else False) := h
    by_cases c0 : e4 = 2
    · have h := g_it c0 h
      subst c0
      refine ⟨12, ⟨(tableOf [(0, 9, 12, 23)]).take 0, _, (tableOf [(0, 9, 12, 23)]).drop 1, rfl, (fun z hz => absurd hz List.not_mem_nil), by decide, by decide, tw_860, rfl⟩, ?_⟩
      refine gg_astore_n (pc := 12) cx [(3, .ref q4), (0, .ref (gAd t 8 o0)), (1, .int x1), (2, .ref (gAd t 59 o2))] dL_queueLength_12 rfl (by decide) rfl ?_
      refine gg_iconst (pc := 13) cx (v := 1) dL_queueLength_13 (by decide) ?_
      exact gg_iret (pc := 14) cx hQ h dL_queueLength_14
    have h := g_if c0 h
    exact h.elim
  · skip
    refine gg_i2l (pc := 7) cx dL_queueLength_7 ?_
    have q8 := h.1
    have h := h.2
    refine gg_last (pc := 8) cx (hO 59 _ rfl v2) (fun _ _ => rfl) q8 dL_queueLength_8 ?_
    refine gg_mem (fun M8 eM8 => ?_)
    have h := h M8 eM8
    refine gg_goto (pc := 9) cx (tgt := 15) dL_queueLength_9 (by decide) ?_
    refine gg_iconst (pc := 15) cx (v := 0) dL_queueLength_15 (by decide) ?_
    exact gg_iret (pc := 16) cx hQ h dL_queueLength_16
theorem cal_L_queueItem : g_CalW yL_queueItem cL_queueItem 5 (some .int) [(0, 10, 13, 23)] 4 := ⟨tw_0, tw_1001, by decide, by decide, by decide +kernel⟩
set_option maxRecDepth 100000 in
set_option maxHeartbeats 4000000 in
theorem ct_L_queueItem {l : Launch} (hl : l.stackTraces = false) {t : gT} (hC : g_hC t) (hM : g_hM t) (hO : g_hO t) {o0 : Nat} {x1 : Int32} {x2 : Int32} {o3 : Nat} (v0 : o0 < 1) (v3 : o3 < 1) {M : gM} {K : Int32 → gM → Prop} (h : wp_L_queueItem t o0 x1 x2 o3 M K) : Met l yL_queueItem (g_yW yL_queueItem cL_queueItem 5 (some .int) [(0, 10, 13, 23)]) rm_L_queueItem (va_Pc [.ref (gAd t 8 o0), .int x1, .int x2, .ref (gAd t 59 o3)] (g_Pre t M)) (va_Qi K (g_B t) (g_A t)) rm_L_queueItem.cells rm_L_queueItem.slots (g_A t) := by
  refine g_hmet hl rfl (Nat.le_of_ble_eq_true rfl) (fun X hlX cx hx hQ => ?_)
  subst hlX
  refine gg_aload_n (pc := 0) cx 3 rfl dL_queueItem_0 rfl ?_
  refine gg_iconst (pc := 1) cx (v := 0) dL_queueItem_1 (by decide) ?_
  refine gg_aload_n (pc := 2) cx 0 rfl dL_queueItem_2 rfl ?_
  refine gg_iload_n (pc := 3) cx 1 rfl dL_queueItem_3 rfl ?_
  refine gg_iload_n (pc := 4) cx 2 rfl dL_queueItem_4 rfl ?_
  refine gg_hcallVi (pc := 5) cx (hh := [(0, 10, 13, 23)]) cal_X8_queueItem calv_X8_queueItem (ct_X8_queueItem cx.tr hC v0 h) tw_1002 (hC 8 _ rfl v0) rfl rfl rfl (st := [.int 0, .ref (gAd t 59 o3)]) rfl (Nat.le_of_ble_eq_true rfl) ⟨Nat.le_of_ble_eq_true rfl, Nat.le_of_ble_eq_true rfl⟩ ⟨Nat.le_of_ble_eq_true rfl, Nat.le_of_ble_eq_true rfl⟩ dL_queueItem_5 hx (fun e5 M5x q5 he h => ?_) (fun r5 M5 h => ?_)
  · have h : (if e5 = 2 then K 1 M5x else False) := h
    by_cases c0 : e5 = 2
    · have h := g_it c0 h
      subst c0
      refine ⟨13, ⟨(tableOf [(0, 10, 13, 23)]).take 0, _, (tableOf [(0, 10, 13, 23)]).drop 1, rfl, (fun z hz => absurd hz List.not_mem_nil), by decide, by decide, tw_860, rfl⟩, ?_⟩
      refine gg_astore (pc := 13) cx [(4, .ref q5), (0, .ref (gAd t 8 o0)), (1, .int x1), (2, .int x2), (3, .ref (gAd t 59 o3))] dL_queueItem_13 (by decide) rfl ?_
      refine gg_iconst (pc := 15) cx (v := 1) dL_queueItem_15 (by decide) ?_
      exact gg_iret (pc := 16) cx hQ h dL_queueItem_16
    have h := g_if c0 h
    exact h.elim
  · skip
    refine gg_i2l (pc := 8) cx dL_queueItem_8 ?_
    have q9 := h.1
    have h := h.2
    refine gg_last (pc := 9) cx (hO 59 _ rfl v3) (fun _ _ => rfl) q9 dL_queueItem_9 ?_
    refine gg_mem (fun M9 eM9 => ?_)
    have h := h M9 eM9
    refine gg_goto (pc := 10) cx (tgt := 17) dL_queueItem_10 (by decide) ?_
    refine gg_iconst (pc := 17) cx (v := 0) dL_queueItem_17 (by decide) ?_
    exact gg_iret (pc := 18) cx hQ h dL_queueItem_18
theorem cal_L_queueRank : g_CalW yL_queueRank cL_queueRank 5 (some .int) [(0, 9, 12, 23)] 4 := ⟨tw_0, tw_1013, by decide, by decide, by decide +kernel⟩
set_option maxRecDepth 100000 in
set_option maxHeartbeats 4000000 in
theorem ct_L_queueRank {l : Launch} (hl : l.stackTraces = false) {t : gT} (hC : g_hC t) (hM : g_hM t) (hO : g_hO t) {o0 : Nat} {x1 : Int32} {x2 : Int32} {o3 : Nat} (v0 : o0 < 1) (v3 : o3 < 1) {M : gM} {K : Int32 → gM → Prop} (h : wp_L_queueRank t o0 x1 x2 o3 M K) : Met l yL_queueRank (g_yW yL_queueRank cL_queueRank 5 (some .int) [(0, 9, 12, 23)]) rm_L_queueRank (va_Pc [.ref (gAd t 8 o0), .int x1, .int x2, .ref (gAd t 59 o3)] (g_Pre t M)) (va_Qi K (g_B t) (g_A t)) rm_L_queueRank.cells rm_L_queueRank.slots (g_A t) := by
  refine g_hmet hl rfl (Nat.le_of_ble_eq_true rfl) (fun X hlX cx hx hQ => ?_)
  subst hlX
  refine gg_aload_n (pc := 0) cx 3 rfl dL_queueRank_0 rfl ?_
  refine gg_iconst (pc := 1) cx (v := 0) dL_queueRank_1 (by decide) ?_
  refine gg_aload_n (pc := 2) cx 0 rfl dL_queueRank_2 rfl ?_
  refine gg_iload_n (pc := 3) cx 1 rfl dL_queueRank_3 rfl ?_
  refine gg_iload_n (pc := 4) cx 2 rfl dL_queueRank_4 rfl ?_
  refine gg_hcallVl (pc := 5) cx (hh := [(0, 9, 12, 23)]) cal_X8_queueRank calv_X8_queueRank (ct_X8_queueRank cx.tr hC v0 h) tw_1014 (hC 8 _ rfl v0) rfl rfl rfl (st := [.int 0, .ref (gAd t 59 o3)]) rfl (Nat.le_of_ble_eq_true rfl) ⟨Nat.le_of_ble_eq_true rfl, Nat.le_of_ble_eq_true rfl⟩ ⟨Nat.le_of_ble_eq_true rfl, Nat.le_of_ble_eq_true rfl⟩ dL_queueRank_5 hx (fun e5 M5x q5 he h => ?_) (fun r5 M5 h => ?_)
  · have h : (if e5 = 2 then K 1 M5x else False) := h
    by_cases c0 : e5 = 2
    · have h := g_it c0 h
      subst c0
      refine ⟨12, ⟨(tableOf [(0, 9, 12, 23)]).take 0, _, (tableOf [(0, 9, 12, 23)]).drop 1, rfl, (fun z hz => absurd hz List.not_mem_nil), by decide, by decide, tw_860, rfl⟩, ?_⟩
      refine gg_astore (pc := 12) cx [(4, .ref q5), (0, .ref (gAd t 8 o0)), (1, .int x1), (2, .int x2), (3, .ref (gAd t 59 o3))] dL_queueRank_12 (by decide) rfl ?_
      refine gg_iconst (pc := 14) cx (v := 1) dL_queueRank_14 (by decide) ?_
      exact gg_iret (pc := 15) cx hQ h dL_queueRank_15
    have h := g_if c0 h
    exact h.elim
  · skip
    have q8 := h.1
    have h := h.2
    refine gg_last (pc := 8) cx (hO 59 _ rfl v3) (fun _ _ => rfl) q8 dL_queueRank_8 ?_
    refine gg_mem (fun M8 eM8 => ?_)
    have h := h M8 eM8
    refine gg_goto (pc := 9) cx (tgt := 16) dL_queueRank_9 (by decide) ?_
    refine gg_iconst (pc := 16) cx (v := 0) dL_queueRank_16 (by decide) ?_
    exact gg_iret (pc := 17) cx hQ h dL_queueRank_17
theorem cal_L_virtualTime : g_CalW yL_virtualTime cL_virtualTime 4 (some .int) [(0, 8, 11, 23)] 3 := ⟨tw_0, tw_1020, by decide, by decide, by decide +kernel⟩
set_option maxRecDepth 100000 in
set_option maxHeartbeats 4000000 in
theorem ct_L_virtualTime {l : Launch} (hl : l.stackTraces = false) {t : gT} (hC : g_hC t) (hM : g_hM t) (hO : g_hO t) {o0 : Nat} {x1 : Int32} {o2 : Nat} (v0 : o0 < 1) (v2 : o2 < 1) {M : gM} {K : Int32 → gM → Prop} (h : wp_L_virtualTime t o0 x1 o2 M K) : Met l yL_virtualTime (g_yW yL_virtualTime cL_virtualTime 4 (some .int) [(0, 8, 11, 23)]) rm_L_virtualTime (va_Pc [.ref (gAd t 8 o0), .int x1, .ref (gAd t 59 o2)] (g_Pre t M)) (va_Qi K (g_B t) (g_A t)) rm_L_virtualTime.cells rm_L_virtualTime.slots (g_A t) := by
  refine g_hmet hl rfl (Nat.le_of_ble_eq_true rfl) (fun X hlX cx hx hQ => ?_)
  subst hlX
  refine gg_aload_n (pc := 0) cx 2 rfl dL_virtualTime_0 rfl ?_
  refine gg_iconst (pc := 1) cx (v := 0) dL_virtualTime_1 (by decide) ?_
  refine gg_aload_n (pc := 2) cx 0 rfl dL_virtualTime_2 rfl ?_
  refine gg_iload_n (pc := 3) cx 1 rfl dL_virtualTime_3 rfl ?_
  refine gg_hcallVl (pc := 4) cx (hh := [(0, 8, 11, 23)]) cal_X8_virtualTime calv_X8_virtualTime (ct_X8_virtualTime cx.tr hC v0 h) tw_1021 (hC 8 _ rfl v0) rfl rfl rfl (st := [.int 0, .ref (gAd t 59 o2)]) rfl (Nat.le_of_ble_eq_true rfl) ⟨Nat.le_of_ble_eq_true rfl, Nat.le_of_ble_eq_true rfl⟩ ⟨Nat.le_of_ble_eq_true rfl, Nat.le_of_ble_eq_true rfl⟩ dL_virtualTime_4 hx (fun e4 M4x q4 he h => ?_) (fun r4 M4 h => ?_)
  · have h : (if e4 = 2 then K 1 M4x else False) := h
    by_cases c0 : e4 = 2
    · have h := g_it c0 h
      subst c0
      refine ⟨11, ⟨(tableOf [(0, 8, 11, 23)]).take 0, _, (tableOf [(0, 8, 11, 23)]).drop 1, rfl, (fun z hz => absurd hz List.not_mem_nil), by decide, by decide, tw_860, rfl⟩, ?_⟩
      refine gg_astore_n (pc := 11) cx [(3, .ref q4), (0, .ref (gAd t 8 o0)), (1, .int x1), (2, .ref (gAd t 59 o2))] dL_virtualTime_11 rfl (by decide) rfl ?_
      refine gg_iconst (pc := 12) cx (v := 1) dL_virtualTime_12 (by decide) ?_
      exact gg_iret (pc := 13) cx hQ h dL_virtualTime_13
    have h := g_if c0 h
    exact h.elim
  · skip
    have q7 := h.1
    have h := h.2
    refine gg_last (pc := 7) cx (hO 59 _ rfl v2) (fun _ _ => rfl) q7 dL_virtualTime_7 ?_
    refine gg_mem (fun M7 eM7 => ?_)
    have h := h M7 eM7
    refine gg_goto (pc := 8) cx (tgt := 14) dL_virtualTime_8 (by decide) ?_
    refine gg_iconst (pc := 14) cx (v := 0) dL_virtualTime_14 (by decide) ?_
    exact gg_iret (pc := 15) cx hQ h dL_virtualTime_15
theorem cal_L_state : g_CalW yL_state cL_state 5 (some .int) [(0, 9, 12, 23), (0, 9, 16, 13)] 4 := ⟨tw_0, tw_1027, by decide, by decide, by decide +kernel⟩
set_option maxRecDepth 100000 in
set_option maxHeartbeats 4000000 in
theorem ct_L_state {l : Launch} (hl : l.stackTraces = false) {t : gT} (hC : g_hC t) (hM : g_hM t) (hO : g_hO t) {o0 : Nat} {x1 : Int32} {x2 : Int32} {o3 : Nat} (v0 : o0 < 1) (v3 : o3 < 1) {M : gM} {K : Int32 → gM → Prop} (h : wp_L_state t o0 x1 x2 o3 M K) : Met l yL_state (g_yW yL_state cL_state 5 (some .int) [(0, 9, 12, 23), (0, 9, 16, 13)]) rm_L_state (va_Pc [.ref (gAd t 8 o0), .int x1, .int x2, .ref (gAd t 59 o3)] (g_Pre t M)) (va_Qi K (g_B t) (g_A t)) rm_L_state.cells rm_L_state.slots (g_A t) := by
  refine g_hmet hl rfl (Nat.le_of_ble_eq_true rfl) (fun X hlX cx hx hQ => ?_)
  subst hlX
  refine gg_aload_n (pc := 0) cx 3 rfl dL_state_0 rfl ?_
  refine gg_iconst (pc := 1) cx (v := 0) dL_state_1 (by decide) ?_
  refine gg_aload_n (pc := 2) cx 0 rfl dL_state_2 rfl ?_
  refine gg_iload_n (pc := 3) cx 1 rfl dL_state_3 rfl ?_
  refine gg_iload_n (pc := 4) cx 2 rfl dL_state_4 rfl ?_
  refine gg_hcallVl (pc := 5) cx (hh := [(0, 9, 12, 23), (0, 9, 16, 13)]) cal_X8_state calv_X8_state (ct_X8_state cx.tr hC v0 h) tw_1028 (hC 8 _ rfl v0) rfl rfl rfl (st := [.int 0, .ref (gAd t 59 o3)]) rfl (Nat.le_of_ble_eq_true rfl) ⟨Nat.le_of_ble_eq_true rfl, Nat.le_of_ble_eq_true rfl⟩ ⟨Nat.le_of_ble_eq_true rfl, Nat.le_of_ble_eq_true rfl⟩ dL_state_5 hx (fun e5 M5x q5 he h => ?_) (fun r5 M5 h => ?_)
  · have h : (if e5 = 2 then K 1 M5x else (if e5 = 0 then K 2 M5x else False)) := h
    by_cases c0 : e5 = 2
    · have h := g_it c0 h
      subst c0
      refine ⟨12, ⟨(tableOf [(0, 9, 12, 23), (0, 9, 16, 13)]).take 0, _, (tableOf [(0, 9, 12, 23), (0, 9, 16, 13)]).drop 1, rfl, (fun z hz => absurd hz List.not_mem_nil), by decide, by decide, tw_860, rfl⟩, ?_⟩
      refine gg_astore (pc := 12) cx [(4, .ref q5), (0, .ref (gAd t 8 o0)), (1, .int x1), (2, .int x2), (3, .ref (gAd t 59 o3))] dL_state_12 (by decide) rfl ?_
      refine gg_iconst (pc := 14) cx (v := 1) dL_state_14 (by decide) ?_
      exact gg_iret (pc := 15) cx hQ h dL_state_15
    have h := g_if c0 h
    by_cases c1 : e5 = 0
    · have h := g_it c1 h
      subst c1
      refine ⟨16, ⟨(tableOf [(0, 9, 12, 23), (0, 9, 16, 13)]).take 1, _, (tableOf [(0, 9, 12, 23), (0, 9, 16, 13)]).drop 2, rfl, (List.forall_mem_cons.mpr ⟨⟨by decide, 2, by decide, by decide, tw_860⟩, (fun z hz => absurd hz List.not_mem_nil)⟩), by decide, by decide, tw_760, rfl⟩, ?_⟩
      refine gg_astore (pc := 16) cx [(4, .ref q5), (0, .ref (gAd t 8 o0)), (1, .int x1), (2, .int x2), (3, .ref (gAd t 59 o3))] dL_state_16 (by decide) rfl ?_
      refine gg_iconst (pc := 18) cx (v := 2) dL_state_18 (by decide) ?_
      exact gg_iret (pc := 19) cx hQ h dL_state_19
    have h := g_if c1 h
    exact h.elim
  · skip
    have q8 := h.1
    have h := h.2
    refine gg_last (pc := 8) cx (hO 59 _ rfl v3) (fun _ _ => rfl) q8 dL_state_8 ?_
    refine gg_mem (fun M8 eM8 => ?_)
    have h := h M8 eM8
    refine gg_goto (pc := 9) cx (tgt := 20) dL_state_9 (by decide) ?_
    refine gg_iconst (pc := 20) cx (v := 0) dL_state_20 (by decide) ?_
    exact gg_iret (pc := 21) cx hQ h dL_state_21
theorem cal_L_rankIf : g_CalW yL_rankIf cL_rankIf 7 (some .int) [(0, 13, 16, 23), (0, 13, 20, 13)] 6 := ⟨tw_0, tw_1036, by decide, by decide, by decide +kernel⟩
set_option maxRecDepth 100000 in
set_option maxHeartbeats 4000000 in
theorem ct_L_rankIf {l : Launch} (hl : l.stackTraces = false) {t : gT} (hC : g_hC t) (hM : g_hM t) (hO : g_hO t) {o0 : Nat} {x1 : Int32} {x2 : Int32} {x3 : Int32} {x4 : Int32} {o5 : Nat} (v0 : o0 < 1) (v5 : o5 < 1) {M : gM} {K : Int32 → gM → Prop} (h : wp_L_rankIf t o0 x1 x2 x3 x4 o5 M K) : Met l yL_rankIf (g_yW yL_rankIf cL_rankIf 7 (some .int) [(0, 13, 16, 23), (0, 13, 20, 13)]) rm_L_rankIf (va_Pc [.ref (gAd t 8 o0), .int x1, .int x2, .int x3, .int x4, .ref (gAd t 59 o5)] (g_Pre t M)) (va_Qi K (g_B t) (g_A t)) rm_L_rankIf.cells rm_L_rankIf.slots (g_A t) := by
  refine g_hmet hl rfl (Nat.le_of_ble_eq_true rfl) (fun X hlX cx hx hQ => ?_)
  subst hlX
  refine gg_aload (pc := 0) cx 5 rfl dL_rankIf_0 ?_
  refine gg_iconst (pc := 2) cx (v := 0) dL_rankIf_2 (by decide) ?_
  refine gg_aload_n (pc := 3) cx 0 rfl dL_rankIf_3 rfl ?_
  refine gg_iload_n (pc := 4) cx 1 rfl dL_rankIf_4 rfl ?_
  refine gg_iload_n (pc := 5) cx 2 rfl dL_rankIf_5 rfl ?_
  refine gg_iload_n (pc := 6) cx 3 rfl dL_rankIf_6 rfl ?_
  refine gg_iload (pc := 7) cx 4 rfl dL_rankIf_7 ?_
  refine gg_hcallVl (pc := 9) cx (hh := [(0, 13, 16, 23), (0, 13, 20, 13)]) cal_X8_rankIf calv_X8_rankIf (ct_X8_rankIf cx.tr hC v0 h) tw_1037 (hC 8 _ rfl v0) rfl rfl rfl (st := [.int 0, .ref (gAd t 59 o5)]) rfl (Nat.le_of_ble_eq_true rfl) ⟨Nat.le_of_ble_eq_true rfl, Nat.le_of_ble_eq_true rfl⟩ ⟨Nat.le_of_ble_eq_true rfl, Nat.le_of_ble_eq_true rfl⟩ dL_rankIf_9 hx (fun e9 M9x q9 he h => ?_) (fun r9 M9 h => ?_)
  · have h : (if e9 = 2 then K 1 M9x else (if e9 = 0 then K 2 M9x else False)) := h
    by_cases c0 : e9 = 2
    · have h := g_it c0 h
      subst c0
      refine ⟨16, ⟨(tableOf [(0, 13, 16, 23), (0, 13, 20, 13)]).take 0, _, (tableOf [(0, 13, 16, 23), (0, 13, 20, 13)]).drop 1, rfl, (fun z hz => absurd hz List.not_mem_nil), by decide, by decide, tw_860, rfl⟩, ?_⟩
      refine gg_astore (pc := 16) cx [(6, .ref q9), (0, .ref (gAd t 8 o0)), (1, .int x1), (2, .int x2), (3, .int x3), (4, .int x4), (5, .ref (gAd t 59 o5))] dL_rankIf_16 (by decide) rfl ?_
      refine gg_iconst (pc := 18) cx (v := 1) dL_rankIf_18 (by decide) ?_
      exact gg_iret (pc := 19) cx hQ h dL_rankIf_19
    have h := g_if c0 h
    by_cases c1 : e9 = 0
    · have h := g_it c1 h
      subst c1
      refine ⟨20, ⟨(tableOf [(0, 13, 16, 23), (0, 13, 20, 13)]).take 1, _, (tableOf [(0, 13, 16, 23), (0, 13, 20, 13)]).drop 2, rfl, (List.forall_mem_cons.mpr ⟨⟨by decide, 2, by decide, by decide, tw_860⟩, (fun z hz => absurd hz List.not_mem_nil)⟩), by decide, by decide, tw_760, rfl⟩, ?_⟩
      refine gg_astore (pc := 20) cx [(6, .ref q9), (0, .ref (gAd t 8 o0)), (1, .int x1), (2, .int x2), (3, .int x3), (4, .int x4), (5, .ref (gAd t 59 o5))] dL_rankIf_20 (by decide) rfl ?_
      refine gg_iconst (pc := 22) cx (v := 2) dL_rankIf_22 (by decide) ?_
      exact gg_iret (pc := 23) cx hQ h dL_rankIf_23
    have h := g_if c1 h
    exact h.elim
  · skip
    have q12 := h.1
    have h := h.2
    refine gg_last (pc := 12) cx (hO 59 _ rfl v5) (fun _ _ => rfl) q12 dL_rankIf_12 ?_
    refine gg_mem (fun M12 eM12 => ?_)
    have h := h M12 eM12
    refine gg_goto (pc := 13) cx (tgt := 24) dL_rankIf_13 (by decide) ?_
    refine gg_iconst (pc := 24) cx (v := 0) dL_rankIf_24 (by decide) ?_
    exact gg_iret (pc := 25) cx hQ h dL_rankIf_25
theorem cal_L_peek : g_CalW yL_peek cL_peek 4 (some .int) [(0, 9, 12, 23)] 3 := ⟨tw_0, tw_1047, by decide, by decide, by decide +kernel⟩
set_option maxRecDepth 100000 in
set_option maxHeartbeats 4000000 in
theorem ct_L_peek {l : Launch} (hl : l.stackTraces = false) {t : gT} (hC : g_hC t) (hM : g_hM t) (hO : g_hO t) {o0 : Nat} {x1 : Int32} {o2 : Nat} (v0 : o0 < 1) (v2 : o2 < 1) {M : gM} {K : Int32 → gM → Prop} (h : wp_L_peek t o0 x1 o2 M K) : Met l yL_peek (g_yW yL_peek cL_peek 4 (some .int) [(0, 9, 12, 23)]) rm_L_peek (va_Pc [.ref (gAd t 8 o0), .int x1, .ref (gAd t 59 o2)] (g_Pre t M)) (va_Qi K (g_B t) (g_A t)) rm_L_peek.cells rm_L_peek.slots (g_A t) := by
  refine g_hmet hl rfl (Nat.le_of_ble_eq_true rfl) (fun X hlX cx hx hQ => ?_)
  subst hlX
  refine gg_aload_n (pc := 0) cx 2 rfl dL_peek_0 rfl ?_
  refine gg_iconst (pc := 1) cx (v := 0) dL_peek_1 (by decide) ?_
  refine gg_aload_n (pc := 2) cx 0 rfl dL_peek_2 rfl ?_
  refine gg_iload_n (pc := 3) cx 1 rfl dL_peek_3 rfl ?_
  refine gg_hcallVi (pc := 4) cx (hh := [(0, 9, 12, 23)]) cal_X8_peek calv_X8_peek (ct_X8_peek cx.tr hC v0 h) tw_1048 (hC 8 _ rfl v0) rfl rfl rfl (st := [.int 0, .ref (gAd t 59 o2)]) rfl (Nat.le_of_ble_eq_true rfl) ⟨Nat.le_of_ble_eq_true rfl, Nat.le_of_ble_eq_true rfl⟩ ⟨Nat.le_of_ble_eq_true rfl, Nat.le_of_ble_eq_true rfl⟩ dL_peek_4 hx (fun e4 M4x q4 he h => ?_) (fun r4 M4 h => ?_)
  · have h : (if e4 = 2 then K 1 M4x else False) := h
    by_cases c0 : e4 = 2
    · have h := g_it c0 h
      subst c0
      refine ⟨12, ⟨(tableOf [(0, 9, 12, 23)]).take 0, _, (tableOf [(0, 9, 12, 23)]).drop 1, rfl, (fun z hz => absurd hz List.not_mem_nil), by decide, by decide, tw_860, rfl⟩, ?_⟩
      refine gg_astore_n (pc := 12) cx [(3, .ref q4), (0, .ref (gAd t 8 o0)), (1, .int x1), (2, .ref (gAd t 59 o2))] dL_peek_12 rfl (by decide) rfl ?_
      refine gg_iconst (pc := 13) cx (v := 1) dL_peek_13 (by decide) ?_
      exact gg_iret (pc := 14) cx hQ h dL_peek_14
    have h := g_if c0 h
    exact h.elim
  · skip
    refine gg_i2l (pc := 7) cx dL_peek_7 ?_
    have q8 := h.1
    have h := h.2
    refine gg_last (pc := 8) cx (hO 59 _ rfl v2) (fun _ _ => rfl) q8 dL_peek_8 ?_
    refine gg_mem (fun M8 eM8 => ?_)
    have h := h M8 eM8
    refine gg_goto (pc := 9) cx (tgt := 15) dL_peek_9 (by decide) ?_
    refine gg_iconst (pc := 15) cx (v := 0) dL_peek_15 (by decide) ?_
    exact gg_iret (pc := 16) cx hQ h dL_peek_16
theorem cal_L_departureIf : g_CalW yL_departureIf cL_departureIf 4 (some .int) [(0, 8, 11, 13)] 3 := ⟨tw_0, tw_1079, by decide, by decide, by decide +kernel⟩
set_option maxRecDepth 100000 in
set_option maxHeartbeats 4000000 in
theorem ct_L_departureIf {l : Launch} (hl : l.stackTraces = false) {t : gT} (hC : g_hC t) (hM : g_hM t) (hO : g_hO t) {o0 : Nat} {x1 : Int32} {o2 : Nat} (v0 : o0 < 1) (v2 : o2 < 1) {M : gM} {K : Int32 → gM → Prop} (h : wp_L_departureIf t o0 x1 o2 M K) : Met l yL_departureIf (g_yW yL_departureIf cL_departureIf 4 (some .int) [(0, 8, 11, 13)]) rm_L_departureIf (va_Pc [.ref (gAd t 8 o0), .int x1, .ref (gAd t 59 o2)] (g_Pre t M)) (va_Qi K (g_B t) (g_A t)) rm_L_departureIf.cells rm_L_departureIf.slots (g_A t) := by
  refine g_hmet hl rfl (Nat.le_of_ble_eq_true rfl) (fun X hlX cx hx hQ => ?_)
  subst hlX
  refine gg_aload_n (pc := 0) cx 2 rfl dL_departureIf_0 rfl ?_
  refine gg_iconst (pc := 1) cx (v := 0) dL_departureIf_1 (by decide) ?_
  refine gg_aload_n (pc := 2) cx 0 rfl dL_departureIf_2 rfl ?_
  refine gg_iload_n (pc := 3) cx 1 rfl dL_departureIf_3 rfl ?_
  refine gg_hcallVl (pc := 4) cx (hh := [(0, 8, 11, 13)]) cal_X8_departureIf calv_X8_departureIf (ct_X8_departureIf cx.tr hC v0 h) tw_1080 (hC 8 _ rfl v0) rfl rfl rfl (st := [.int 0, .ref (gAd t 59 o2)]) rfl (Nat.le_of_ble_eq_true rfl) ⟨Nat.le_of_ble_eq_true rfl, Nat.le_of_ble_eq_true rfl⟩ ⟨Nat.le_of_ble_eq_true rfl, Nat.le_of_ble_eq_true rfl⟩ dL_departureIf_4 hx (fun e4 M4x q4 he h => ?_) (fun r4 M4 h => ?_)
  · have h : (if e4 = 0 then K 1 M4x else False) := h
    by_cases c0 : e4 = 0
    · have h := g_it c0 h
      subst c0
      refine ⟨11, ⟨(tableOf [(0, 8, 11, 13)]).take 0, _, (tableOf [(0, 8, 11, 13)]).drop 1, rfl, (fun z hz => absurd hz List.not_mem_nil), by decide, by decide, tw_760, rfl⟩, ?_⟩
      refine gg_astore_n (pc := 11) cx [(3, .ref q4), (0, .ref (gAd t 8 o0)), (1, .int x1), (2, .ref (gAd t 59 o2))] dL_departureIf_11 rfl (by decide) rfl ?_
      refine gg_iconst (pc := 12) cx (v := 1) dL_departureIf_12 (by decide) ?_
      exact gg_iret (pc := 13) cx hQ h dL_departureIf_13
    have h := g_if c0 h
    exact h.elim
  · skip
    have q7 := h.1
    have h := h.2
    refine gg_last (pc := 7) cx (hO 59 _ rfl v2) (fun _ _ => rfl) q7 dL_departureIf_7 ?_
    refine gg_mem (fun M7 eM7 => ?_)
    have h := h M7 eM7
    refine gg_goto (pc := 8) cx (tgt := 14) dL_departureIf_8 (by decide) ?_
    refine gg_iconst (pc := 14) cx (v := 0) dL_departureIf_14 (by decide) ?_
    exact gg_iret (pc := 15) cx hQ h dL_departureIf_15
theorem cal_L_flowOf : g_CalW yL_flowOf cL_flowOf 4 (some .int) [(0, 9, 12, 23)] 3 := ⟨tw_0, tw_1089, by decide, by decide, by decide +kernel⟩
set_option maxRecDepth 100000 in
set_option maxHeartbeats 4000000 in
theorem ct_L_flowOf {l : Launch} (hl : l.stackTraces = false) {t : gT} (hC : g_hC t) (hM : g_hM t) (hO : g_hO t) {o0 : Nat} {x1 : Int32} {o2 : Nat} (v0 : o0 < 1) (v2 : o2 < 1) {M : gM} {K : Int32 → gM → Prop} (h : wp_L_flowOf t o0 x1 o2 M K) : Met l yL_flowOf (g_yW yL_flowOf cL_flowOf 4 (some .int) [(0, 9, 12, 23)]) rm_L_flowOf (va_Pc [.ref (gAd t 8 o0), .int x1, .ref (gAd t 59 o2)] (g_Pre t M)) (va_Qi K (g_B t) (g_A t)) rm_L_flowOf.cells rm_L_flowOf.slots (g_A t) := by
  refine g_hmet hl rfl (Nat.le_of_ble_eq_true rfl) (fun X hlX cx hx hQ => ?_)
  subst hlX
  refine gg_aload_n (pc := 0) cx 2 rfl dL_flowOf_0 rfl ?_
  refine gg_iconst (pc := 1) cx (v := 0) dL_flowOf_1 (by decide) ?_
  refine gg_aload_n (pc := 2) cx 0 rfl dL_flowOf_2 rfl ?_
  refine gg_iload_n (pc := 3) cx 1 rfl dL_flowOf_3 rfl ?_
  refine gg_hcallVi (pc := 4) cx (hh := [(0, 9, 12, 23)]) cal_X8_flowOf calv_X8_flowOf (ct_X8_flowOf cx.tr hC v0 h) tw_1090 (hC 8 _ rfl v0) rfl rfl rfl (st := [.int 0, .ref (gAd t 59 o2)]) rfl (Nat.le_of_ble_eq_true rfl) ⟨Nat.le_of_ble_eq_true rfl, Nat.le_of_ble_eq_true rfl⟩ ⟨Nat.le_of_ble_eq_true rfl, Nat.le_of_ble_eq_true rfl⟩ dL_flowOf_4 hx (fun e4 M4x q4 he h => ?_) (fun r4 M4 h => ?_)
  · have h : (if e4 = 2 then K 1 M4x else False) := h
    by_cases c0 : e4 = 2
    · have h := g_it c0 h
      subst c0
      refine ⟨12, ⟨(tableOf [(0, 9, 12, 23)]).take 0, _, (tableOf [(0, 9, 12, 23)]).drop 1, rfl, (fun z hz => absurd hz List.not_mem_nil), by decide, by decide, tw_860, rfl⟩, ?_⟩
      refine gg_astore_n (pc := 12) cx [(3, .ref q4), (0, .ref (gAd t 8 o0)), (1, .int x1), (2, .ref (gAd t 59 o2))] dL_flowOf_12 rfl (by decide) rfl ?_
      refine gg_iconst (pc := 13) cx (v := 1) dL_flowOf_13 (by decide) ?_
      exact gg_iret (pc := 14) cx hQ h dL_flowOf_14
    have h := g_if c0 h
    exact h.elim
  · skip
    refine gg_i2l (pc := 7) cx dL_flowOf_7 ?_
    have q8 := h.1
    have h := h.2
    refine gg_last (pc := 8) cx (hO 59 _ rfl v2) (fun _ _ => rfl) q8 dL_flowOf_8 ?_
    refine gg_mem (fun M8 eM8 => ?_)
    have h := h M8 eM8
    refine gg_goto (pc := 9) cx (tgt := 15) dL_flowOf_9 (by decide) ?_
    refine gg_iconst (pc := 15) cx (v := 0) dL_flowOf_15 (by decide) ?_
    exact gg_iret (pc := 16) cx hQ h dL_flowOf_16
theorem cal_L_deadlineOf : g_CalW yL_deadlineOf cL_deadlineOf 4 (some .int) [(0, 8, 11, 23)] 3 := ⟨tw_0, tw_1101, by decide, by decide, by decide +kernel⟩
set_option maxRecDepth 100000 in
set_option maxHeartbeats 4000000 in
theorem ct_L_deadlineOf {l : Launch} (hl : l.stackTraces = false) {t : gT} (hC : g_hC t) (hM : g_hM t) (hO : g_hO t) {o0 : Nat} {x1 : Int32} {o2 : Nat} (v0 : o0 < 1) (v2 : o2 < 1) {M : gM} {K : Int32 → gM → Prop} (h : wp_L_deadlineOf t o0 x1 o2 M K) : Met l yL_deadlineOf (g_yW yL_deadlineOf cL_deadlineOf 4 (some .int) [(0, 8, 11, 23)]) rm_L_deadlineOf (va_Pc [.ref (gAd t 8 o0), .int x1, .ref (gAd t 59 o2)] (g_Pre t M)) (va_Qi K (g_B t) (g_A t)) rm_L_deadlineOf.cells rm_L_deadlineOf.slots (g_A t) := by
  refine g_hmet hl rfl (Nat.le_of_ble_eq_true rfl) (fun X hlX cx hx hQ => ?_)
  subst hlX
  refine gg_aload_n (pc := 0) cx 2 rfl dL_deadlineOf_0 rfl ?_
  refine gg_iconst (pc := 1) cx (v := 0) dL_deadlineOf_1 (by decide) ?_
  refine gg_aload_n (pc := 2) cx 0 rfl dL_deadlineOf_2 rfl ?_
  refine gg_iload_n (pc := 3) cx 1 rfl dL_deadlineOf_3 rfl ?_
  refine gg_hcallVl (pc := 4) cx (hh := [(0, 8, 11, 23)]) cal_X8_deadlineOf calv_X8_deadlineOf (ct_X8_deadlineOf cx.tr hC v0 h) tw_1102 (hC 8 _ rfl v0) rfl rfl rfl (st := [.int 0, .ref (gAd t 59 o2)]) rfl (Nat.le_of_ble_eq_true rfl) ⟨Nat.le_of_ble_eq_true rfl, Nat.le_of_ble_eq_true rfl⟩ ⟨Nat.le_of_ble_eq_true rfl, Nat.le_of_ble_eq_true rfl⟩ dL_deadlineOf_4 hx (fun e4 M4x q4 he h => ?_) (fun r4 M4 h => ?_)
  · have h : (if e4 = 2 then K 1 M4x else False) := h
    by_cases c0 : e4 = 2
    · have h := g_it c0 h
      subst c0
      refine ⟨11, ⟨(tableOf [(0, 8, 11, 23)]).take 0, _, (tableOf [(0, 8, 11, 23)]).drop 1, rfl, (fun z hz => absurd hz List.not_mem_nil), by decide, by decide, tw_860, rfl⟩, ?_⟩
      refine gg_astore_n (pc := 11) cx [(3, .ref q4), (0, .ref (gAd t 8 o0)), (1, .int x1), (2, .ref (gAd t 59 o2))] dL_deadlineOf_11 rfl (by decide) rfl ?_
      refine gg_iconst (pc := 12) cx (v := 1) dL_deadlineOf_12 (by decide) ?_
      exact gg_iret (pc := 13) cx hQ h dL_deadlineOf_13
    have h := g_if c0 h
    exact h.elim
  · skip
    have q7 := h.1
    have h := h.2
    refine gg_last (pc := 7) cx (hO 59 _ rfl v2) (fun _ _ => rfl) q7 dL_deadlineOf_7 ?_
    refine gg_mem (fun M7 eM7 => ?_)
    have h := h M7 eM7
    refine gg_goto (pc := 8) cx (tgt := 14) dL_deadlineOf_8 (by decide) ?_
    refine gg_iconst (pc := 14) cx (v := 0) dL_deadlineOf_14 (by decide) ?_
    exact gg_iret (pc := 15) cx hQ h dL_deadlineOf_15
theorem cal_L_departureOf : g_CalW yL_departureOf cL_departureOf 4 (some .int) [(0, 8, 11, 23)] 3 := ⟨tw_0, tw_1108, by decide, by decide, by decide +kernel⟩
set_option maxRecDepth 100000 in
set_option maxHeartbeats 4000000 in
theorem ct_L_departureOf {l : Launch} (hl : l.stackTraces = false) {t : gT} (hC : g_hC t) (hM : g_hM t) (hO : g_hO t) {o0 : Nat} {x1 : Int32} {o2 : Nat} (v0 : o0 < 1) (v2 : o2 < 1) {M : gM} {K : Int32 → gM → Prop} (h : wp_L_departureOf t o0 x1 o2 M K) : Met l yL_departureOf (g_yW yL_departureOf cL_departureOf 4 (some .int) [(0, 8, 11, 23)]) rm_L_departureOf (va_Pc [.ref (gAd t 8 o0), .int x1, .ref (gAd t 59 o2)] (g_Pre t M)) (va_Qi K (g_B t) (g_A t)) rm_L_departureOf.cells rm_L_departureOf.slots (g_A t) := by
  refine g_hmet hl rfl (Nat.le_of_ble_eq_true rfl) (fun X hlX cx hx hQ => ?_)
  subst hlX
  refine gg_aload_n (pc := 0) cx 2 rfl dL_departureOf_0 rfl ?_
  refine gg_iconst (pc := 1) cx (v := 0) dL_departureOf_1 (by decide) ?_
  refine gg_aload_n (pc := 2) cx 0 rfl dL_departureOf_2 rfl ?_
  refine gg_iload_n (pc := 3) cx 1 rfl dL_departureOf_3 rfl ?_
  refine gg_hcallVl (pc := 4) cx (hh := [(0, 8, 11, 23)]) cal_X8_departureOf calv_X8_departureOf (ct_X8_departureOf cx.tr hC v0 h) tw_1109 (hC 8 _ rfl v0) rfl rfl rfl (st := [.int 0, .ref (gAd t 59 o2)]) rfl (Nat.le_of_ble_eq_true rfl) ⟨Nat.le_of_ble_eq_true rfl, Nat.le_of_ble_eq_true rfl⟩ ⟨Nat.le_of_ble_eq_true rfl, Nat.le_of_ble_eq_true rfl⟩ dL_departureOf_4 hx (fun e4 M4x q4 he h => ?_) (fun r4 M4 h => ?_)
  · have h : (if e4 = 2 then K 1 M4x else False) := h
    by_cases c0 : e4 = 2
    · have h := g_it c0 h
      subst c0
      refine ⟨11, ⟨(tableOf [(0, 8, 11, 23)]).take 0, _, (tableOf [(0, 8, 11, 23)]).drop 1, rfl, (fun z hz => absurd hz List.not_mem_nil), by decide, by decide, tw_860, rfl⟩, ?_⟩
      refine gg_astore_n (pc := 11) cx [(3, .ref q4), (0, .ref (gAd t 8 o0)), (1, .int x1), (2, .ref (gAd t 59 o2))] dL_departureOf_11 rfl (by decide) rfl ?_
      refine gg_iconst (pc := 12) cx (v := 1) dL_departureOf_12 (by decide) ?_
      exact gg_iret (pc := 13) cx hQ h dL_departureOf_13
    have h := g_if c0 h
    exact h.elim
  · skip
    have q7 := h.1
    have h := h.2
    refine gg_last (pc := 7) cx (hO 59 _ rfl v2) (fun _ _ => rfl) q7 dL_departureOf_7 ?_
    refine gg_mem (fun M7 eM7 => ?_)
    have h := h M7 eM7
    refine gg_goto (pc := 8) cx (tgt := 14) dL_departureOf_8 (by decide) ?_
    refine gg_iconst (pc := 14) cx (v := 0) dL_departureOf_14 (by decide) ?_
    exact gg_iret (pc := 15) cx hQ h dL_departureOf_15
theorem cal_L_sent : g_CalW yL_sent cL_sent 4 (some .int) [(0, 9, 12, 23)] 3 := ⟨tw_0, tw_1115, by decide, by decide, by decide +kernel⟩
set_option maxRecDepth 100000 in
set_option maxHeartbeats 4000000 in
theorem ct_L_sent {l : Launch} (hl : l.stackTraces = false) {t : gT} (hC : g_hC t) (hM : g_hM t) (hO : g_hO t) {o0 : Nat} {x1 : Int32} {o2 : Nat} (v0 : o0 < 1) (v2 : o2 < 1) {M : gM} {K : Int32 → gM → Prop} (h : wp_L_sent t o0 x1 o2 M K) : Met l yL_sent (g_yW yL_sent cL_sent 4 (some .int) [(0, 9, 12, 23)]) rm_L_sent (va_Pc [.ref (gAd t 8 o0), .int x1, .ref (gAd t 59 o2)] (g_Pre t M)) (va_Qi K (g_B t) (g_A t)) rm_L_sent.cells rm_L_sent.slots (g_A t) := by
  refine g_hmet hl rfl (Nat.le_of_ble_eq_true rfl) (fun X hlX cx hx hQ => ?_)
  subst hlX
  refine gg_aload_n (pc := 0) cx 2 rfl dL_sent_0 rfl ?_
  refine gg_iconst (pc := 1) cx (v := 0) dL_sent_1 (by decide) ?_
  refine gg_aload_n (pc := 2) cx 0 rfl dL_sent_2 rfl ?_
  refine gg_iload_n (pc := 3) cx 1 rfl dL_sent_3 rfl ?_
  refine gg_hcallVi (pc := 4) cx (hh := [(0, 9, 12, 23)]) cal_X8_sent calv_X8_sent (ct_X8_sent cx.tr hC v0 h) tw_1116 (hC 8 _ rfl v0) rfl rfl rfl (st := [.int 0, .ref (gAd t 59 o2)]) rfl (Nat.le_of_ble_eq_true rfl) ⟨Nat.le_of_ble_eq_true rfl, Nat.le_of_ble_eq_true rfl⟩ ⟨Nat.le_of_ble_eq_true rfl, Nat.le_of_ble_eq_true rfl⟩ dL_sent_4 hx (fun e4 M4x q4 he h => ?_) (fun r4 M4 h => ?_)
  · have h : (if e4 = 2 then K 1 M4x else False) := h
    by_cases c0 : e4 = 2
    · have h := g_it c0 h
      subst c0
      refine ⟨12, ⟨(tableOf [(0, 9, 12, 23)]).take 0, _, (tableOf [(0, 9, 12, 23)]).drop 1, rfl, (fun z hz => absurd hz List.not_mem_nil), by decide, by decide, tw_860, rfl⟩, ?_⟩
      refine gg_astore_n (pc := 12) cx [(3, .ref q4), (0, .ref (gAd t 8 o0)), (1, .int x1), (2, .ref (gAd t 59 o2))] dL_sent_12 rfl (by decide) rfl ?_
      refine gg_iconst (pc := 13) cx (v := 1) dL_sent_13 (by decide) ?_
      exact gg_iret (pc := 14) cx hQ h dL_sent_14
    have h := g_if c0 h
    exact h.elim
  · skip
    refine gg_i2l (pc := 7) cx dL_sent_7 ?_
    have q8 := h.1
    have h := h.2
    refine gg_last (pc := 8) cx (hO 59 _ rfl v2) (fun _ _ => rfl) q8 dL_sent_8 ?_
    refine gg_mem (fun M8 eM8 => ?_)
    have h := h M8 eM8
    refine gg_goto (pc := 9) cx (tgt := 15) dL_sent_9 (by decide) ?_
    refine gg_iconst (pc := 15) cx (v := 0) dL_sent_15 (by decide) ?_
    exact gg_iret (pc := 16) cx hQ h dL_sent_16
theorem cal_L_sentBytes : g_CalW yL_sentBytes cL_sentBytes 4 (some .int) [(0, 9, 12, 23)] 3 := ⟨tw_0, tw_1122, by decide, by decide, by decide +kernel⟩
set_option maxRecDepth 100000 in
set_option maxHeartbeats 4000000 in
theorem ct_L_sentBytes {l : Launch} (hl : l.stackTraces = false) {t : gT} (hC : g_hC t) (hM : g_hM t) (hO : g_hO t) {o0 : Nat} {x1 : Int32} {o2 : Nat} (v0 : o0 < 1) (v2 : o2 < 1) {M : gM} {K : Int32 → gM → Prop} (h : wp_L_sentBytes t o0 x1 o2 M K) : Met l yL_sentBytes (g_yW yL_sentBytes cL_sentBytes 4 (some .int) [(0, 9, 12, 23)]) rm_L_sentBytes (va_Pc [.ref (gAd t 8 o0), .int x1, .ref (gAd t 59 o2)] (g_Pre t M)) (va_Qi K (g_B t) (g_A t)) rm_L_sentBytes.cells rm_L_sentBytes.slots (g_A t) := by
  refine g_hmet hl rfl (Nat.le_of_ble_eq_true rfl) (fun X hlX cx hx hQ => ?_)
  subst hlX
  refine gg_aload_n (pc := 0) cx 2 rfl dL_sentBytes_0 rfl ?_
  refine gg_iconst (pc := 1) cx (v := 0) dL_sentBytes_1 (by decide) ?_
  refine gg_aload_n (pc := 2) cx 0 rfl dL_sentBytes_2 rfl ?_
  refine gg_iload_n (pc := 3) cx 1 rfl dL_sentBytes_3 rfl ?_
  refine gg_hcallVi (pc := 4) cx (hh := [(0, 9, 12, 23)]) cal_X8_sentBytes calv_X8_sentBytes (ct_X8_sentBytes cx.tr hC v0 h) tw_1123 (hC 8 _ rfl v0) rfl rfl rfl (st := [.int 0, .ref (gAd t 59 o2)]) rfl (Nat.le_of_ble_eq_true rfl) ⟨Nat.le_of_ble_eq_true rfl, Nat.le_of_ble_eq_true rfl⟩ ⟨Nat.le_of_ble_eq_true rfl, Nat.le_of_ble_eq_true rfl⟩ dL_sentBytes_4 hx (fun e4 M4x q4 he h => ?_) (fun r4 M4 h => ?_)
  · have h : (if e4 = 2 then K 1 M4x else False) := h
    by_cases c0 : e4 = 2
    · have h := g_it c0 h
      subst c0
      refine ⟨12, ⟨(tableOf [(0, 9, 12, 23)]).take 0, _, (tableOf [(0, 9, 12, 23)]).drop 1, rfl, (fun z hz => absurd hz List.not_mem_nil), by decide, by decide, tw_860, rfl⟩, ?_⟩
      refine gg_astore_n (pc := 12) cx [(3, .ref q4), (0, .ref (gAd t 8 o0)), (1, .int x1), (2, .ref (gAd t 59 o2))] dL_sentBytes_12 rfl (by decide) rfl ?_
      refine gg_iconst (pc := 13) cx (v := 1) dL_sentBytes_13 (by decide) ?_
      exact gg_iret (pc := 14) cx hQ h dL_sentBytes_14
    have h := g_if c0 h
    exact h.elim
  · skip
    refine gg_i2l (pc := 7) cx dL_sentBytes_7 ?_
    have q8 := h.1
    have h := h.2
    refine gg_last (pc := 8) cx (hO 59 _ rfl v2) (fun _ _ => rfl) q8 dL_sentBytes_8 ?_
    refine gg_mem (fun M8 eM8 => ?_)
    have h := h M8 eM8
    refine gg_goto (pc := 9) cx (tgt := 15) dL_sentBytes_9 (by decide) ?_
    refine gg_iconst (pc := 15) cx (v := 0) dL_sentBytes_15 (by decide) ?_
    exact gg_iret (pc := 16) cx hQ h dL_sentBytes_16
theorem cal_L_totalDelay : g_CalW yL_totalDelay cL_totalDelay 4 (some .int) [(0, 8, 11, 23)] 3 := ⟨tw_0, tw_1129, by decide, by decide, by decide +kernel⟩
set_option maxRecDepth 100000 in
set_option maxHeartbeats 4000000 in
theorem ct_L_totalDelay {l : Launch} (hl : l.stackTraces = false) {t : gT} (hC : g_hC t) (hM : g_hM t) (hO : g_hO t) {o0 : Nat} {x1 : Int32} {o2 : Nat} (v0 : o0 < 1) (v2 : o2 < 1) {M : gM} {K : Int32 → gM → Prop} (h : wp_L_totalDelay t o0 x1 o2 M K) : Met l yL_totalDelay (g_yW yL_totalDelay cL_totalDelay 4 (some .int) [(0, 8, 11, 23)]) rm_L_totalDelay (va_Pc [.ref (gAd t 8 o0), .int x1, .ref (gAd t 59 o2)] (g_Pre t M)) (va_Qi K (g_B t) (g_A t)) rm_L_totalDelay.cells rm_L_totalDelay.slots (g_A t) := by
  refine g_hmet hl rfl (Nat.le_of_ble_eq_true rfl) (fun X hlX cx hx hQ => ?_)
  subst hlX
  refine gg_aload_n (pc := 0) cx 2 rfl dL_totalDelay_0 rfl ?_
  refine gg_iconst (pc := 1) cx (v := 0) dL_totalDelay_1 (by decide) ?_
  refine gg_aload_n (pc := 2) cx 0 rfl dL_totalDelay_2 rfl ?_
  refine gg_iload_n (pc := 3) cx 1 rfl dL_totalDelay_3 rfl ?_
  refine gg_hcallVl (pc := 4) cx (hh := [(0, 8, 11, 23)]) cal_X8_totalDelay calv_X8_totalDelay (ct_X8_totalDelay cx.tr hC v0 h) tw_1130 (hC 8 _ rfl v0) rfl rfl rfl (st := [.int 0, .ref (gAd t 59 o2)]) rfl (Nat.le_of_ble_eq_true rfl) ⟨Nat.le_of_ble_eq_true rfl, Nat.le_of_ble_eq_true rfl⟩ ⟨Nat.le_of_ble_eq_true rfl, Nat.le_of_ble_eq_true rfl⟩ dL_totalDelay_4 hx (fun e4 M4x q4 he h => ?_) (fun r4 M4 h => ?_)
  · have h : (if e4 = 2 then K 1 M4x else False) := h
    by_cases c0 : e4 = 2
    · have h := g_it c0 h
      subst c0
      refine ⟨11, ⟨(tableOf [(0, 8, 11, 23)]).take 0, _, (tableOf [(0, 8, 11, 23)]).drop 1, rfl, (fun z hz => absurd hz List.not_mem_nil), by decide, by decide, tw_860, rfl⟩, ?_⟩
      refine gg_astore_n (pc := 11) cx [(3, .ref q4), (0, .ref (gAd t 8 o0)), (1, .int x1), (2, .ref (gAd t 59 o2))] dL_totalDelay_11 rfl (by decide) rfl ?_
      refine gg_iconst (pc := 12) cx (v := 1) dL_totalDelay_12 (by decide) ?_
      exact gg_iret (pc := 13) cx hQ h dL_totalDelay_13
    have h := g_if c0 h
    exact h.elim
  · skip
    have q7 := h.1
    have h := h.2
    refine gg_last (pc := 7) cx (hO 59 _ rfl v2) (fun _ _ => rfl) q7 dL_totalDelay_7 ?_
    refine gg_mem (fun M7 eM7 => ?_)
    have h := h M7 eM7
    refine gg_goto (pc := 8) cx (tgt := 14) dL_totalDelay_8 (by decide) ?_
    refine gg_iconst (pc := 14) cx (v := 0) dL_totalDelay_14 (by decide) ?_
    exact gg_iret (pc := 15) cx hQ h dL_totalDelay_15
theorem cal_L_greatestDelay : g_CalW yL_greatestDelay cL_greatestDelay 4 (some .int) [(0, 8, 11, 23)] 3 := ⟨tw_0, tw_1136, by decide, by decide, by decide +kernel⟩
set_option maxRecDepth 100000 in
set_option maxHeartbeats 4000000 in
theorem ct_L_greatestDelay {l : Launch} (hl : l.stackTraces = false) {t : gT} (hC : g_hC t) (hM : g_hM t) (hO : g_hO t) {o0 : Nat} {x1 : Int32} {o2 : Nat} (v0 : o0 < 1) (v2 : o2 < 1) {M : gM} {K : Int32 → gM → Prop} (h : wp_L_greatestDelay t o0 x1 o2 M K) : Met l yL_greatestDelay (g_yW yL_greatestDelay cL_greatestDelay 4 (some .int) [(0, 8, 11, 23)]) rm_L_greatestDelay (va_Pc [.ref (gAd t 8 o0), .int x1, .ref (gAd t 59 o2)] (g_Pre t M)) (va_Qi K (g_B t) (g_A t)) rm_L_greatestDelay.cells rm_L_greatestDelay.slots (g_A t) := by
  refine g_hmet hl rfl (Nat.le_of_ble_eq_true rfl) (fun X hlX cx hx hQ => ?_)
  subst hlX
  refine gg_aload_n (pc := 0) cx 2 rfl dL_greatestDelay_0 rfl ?_
  refine gg_iconst (pc := 1) cx (v := 0) dL_greatestDelay_1 (by decide) ?_
  refine gg_aload_n (pc := 2) cx 0 rfl dL_greatestDelay_2 rfl ?_
  refine gg_iload_n (pc := 3) cx 1 rfl dL_greatestDelay_3 rfl ?_
  refine gg_hcallVl (pc := 4) cx (hh := [(0, 8, 11, 23)]) cal_X8_greatestDelay calv_X8_greatestDelay (ct_X8_greatestDelay cx.tr hC v0 h) tw_1137 (hC 8 _ rfl v0) rfl rfl rfl (st := [.int 0, .ref (gAd t 59 o2)]) rfl (Nat.le_of_ble_eq_true rfl) ⟨Nat.le_of_ble_eq_true rfl, Nat.le_of_ble_eq_true rfl⟩ ⟨Nat.le_of_ble_eq_true rfl, Nat.le_of_ble_eq_true rfl⟩ dL_greatestDelay_4 hx (fun e4 M4x q4 he h => ?_) (fun r4 M4 h => ?_)
  · have h : (if e4 = 2 then K 1 M4x else False) := h
    by_cases c0 : e4 = 2
    · have h := g_it c0 h
      subst c0
      refine ⟨11, ⟨(tableOf [(0, 8, 11, 23)]).take 0, _, (tableOf [(0, 8, 11, 23)]).drop 1, rfl, (fun z hz => absurd hz List.not_mem_nil), by decide, by decide, tw_860, rfl⟩, ?_⟩
      refine gg_astore_n (pc := 11) cx [(3, .ref q4), (0, .ref (gAd t 8 o0)), (1, .int x1), (2, .ref (gAd t 59 o2))] dL_greatestDelay_11 rfl (by decide) rfl ?_
      refine gg_iconst (pc := 12) cx (v := 1) dL_greatestDelay_12 (by decide) ?_
      exact gg_iret (pc := 13) cx hQ h dL_greatestDelay_13
    have h := g_if c0 h
    exact h.elim
  · skip
    have q7 := h.1
    have h := h.2
    refine gg_last (pc := 7) cx (hO 59 _ rfl v2) (fun _ _ => rfl) q7 dL_greatestDelay_7 ?_
    refine gg_mem (fun M7 eM7 => ?_)
    have h := h M7 eM7
    refine gg_goto (pc := 8) cx (tgt := 14) dL_greatestDelay_8 (by decide) ?_
    refine gg_iconst (pc := 14) cx (v := 0) dL_greatestDelay_14 (by decide) ?_
    exact gg_iret (pc := 15) cx hQ h dL_greatestDelay_15
theorem cal_L_missed : g_CalW yL_missed cL_missed 4 (some .int) [(0, 9, 12, 23)] 3 := ⟨tw_0, tw_1143, by decide, by decide, by decide +kernel⟩
set_option maxRecDepth 100000 in
set_option maxHeartbeats 4000000 in
theorem ct_L_missed {l : Launch} (hl : l.stackTraces = false) {t : gT} (hC : g_hC t) (hM : g_hM t) (hO : g_hO t) {o0 : Nat} {x1 : Int32} {o2 : Nat} (v0 : o0 < 1) (v2 : o2 < 1) {M : gM} {K : Int32 → gM → Prop} (h : wp_L_missed t o0 x1 o2 M K) : Met l yL_missed (g_yW yL_missed cL_missed 4 (some .int) [(0, 9, 12, 23)]) rm_L_missed (va_Pc [.ref (gAd t 8 o0), .int x1, .ref (gAd t 59 o2)] (g_Pre t M)) (va_Qi K (g_B t) (g_A t)) rm_L_missed.cells rm_L_missed.slots (g_A t) := by
  refine g_hmet hl rfl (Nat.le_of_ble_eq_true rfl) (fun X hlX cx hx hQ => ?_)
  subst hlX
  refine gg_aload_n (pc := 0) cx 2 rfl dL_missed_0 rfl ?_
  refine gg_iconst (pc := 1) cx (v := 0) dL_missed_1 (by decide) ?_
  refine gg_aload_n (pc := 2) cx 0 rfl dL_missed_2 rfl ?_
  refine gg_iload_n (pc := 3) cx 1 rfl dL_missed_3 rfl ?_
  refine gg_hcallVi (pc := 4) cx (hh := [(0, 9, 12, 23)]) cal_X8_missed calv_X8_missed (ct_X8_missed cx.tr hC v0 h) tw_1144 (hC 8 _ rfl v0) rfl rfl rfl (st := [.int 0, .ref (gAd t 59 o2)]) rfl (Nat.le_of_ble_eq_true rfl) ⟨Nat.le_of_ble_eq_true rfl, Nat.le_of_ble_eq_true rfl⟩ ⟨Nat.le_of_ble_eq_true rfl, Nat.le_of_ble_eq_true rfl⟩ dL_missed_4 hx (fun e4 M4x q4 he h => ?_) (fun r4 M4 h => ?_)
  · have h : (if e4 = 2 then K 1 M4x else False) := h
    by_cases c0 : e4 = 2
    · have h := g_it c0 h
      subst c0
      refine ⟨12, ⟨(tableOf [(0, 9, 12, 23)]).take 0, _, (tableOf [(0, 9, 12, 23)]).drop 1, rfl, (fun z hz => absurd hz List.not_mem_nil), by decide, by decide, tw_860, rfl⟩, ?_⟩
      refine gg_astore_n (pc := 12) cx [(3, .ref q4), (0, .ref (gAd t 8 o0)), (1, .int x1), (2, .ref (gAd t 59 o2))] dL_missed_12 rfl (by decide) rfl ?_
      refine gg_iconst (pc := 13) cx (v := 1) dL_missed_13 (by decide) ?_
      exact gg_iret (pc := 14) cx hQ h dL_missed_14
    have h := g_if c0 h
    exact h.elim
  · skip
    refine gg_i2l (pc := 7) cx dL_missed_7 ?_
    have q8 := h.1
    have h := h.2
    refine gg_last (pc := 8) cx (hO 59 _ rfl v2) (fun _ _ => rfl) q8 dL_missed_8 ?_
    refine gg_mem (fun M8 eM8 => ?_)
    have h := h M8 eM8
    refine gg_goto (pc := 9) cx (tgt := 15) dL_missed_9 (by decide) ?_
    refine gg_iconst (pc := 15) cx (v := 0) dL_missed_15 (by decide) ?_
    exact gg_iret (pc := 16) cx hQ h dL_missed_16
theorem cal_L_share : g_CalW yL_share cL_share 4 (some .int) [(0, 9, 12, 23)] 3 := ⟨tw_0, tw_1150, by decide, by decide, by decide +kernel⟩
set_option maxRecDepth 100000 in
set_option maxHeartbeats 4000000 in
theorem ct_L_share {l : Launch} (hl : l.stackTraces = false) {t : gT} (hC : g_hC t) (hM : g_hM t) (hO : g_hO t) {o0 : Nat} {x1 : Int32} {o2 : Nat} (v0 : o0 < 1) (v2 : o2 < 1) {M : gM} {K : Int32 → gM → Prop} (h : wp_L_share t o0 x1 o2 M K) : Met l yL_share (g_yW yL_share cL_share 4 (some .int) [(0, 9, 12, 23)]) rm_L_share (va_Pc [.ref (gAd t 8 o0), .int x1, .ref (gAd t 59 o2)] (g_Pre t M)) (va_Qi K (g_B t) (g_A t)) rm_L_share.cells rm_L_share.slots (g_A t) := by
  refine g_hmet hl rfl (Nat.le_of_ble_eq_true rfl) (fun X hlX cx hx hQ => ?_)
  subst hlX
  refine gg_aload_n (pc := 0) cx 2 rfl dL_share_0 rfl ?_
  refine gg_iconst (pc := 1) cx (v := 0) dL_share_1 (by decide) ?_
  refine gg_aload_n (pc := 2) cx 0 rfl dL_share_2 rfl ?_
  refine gg_iload_n (pc := 3) cx 1 rfl dL_share_3 rfl ?_
  refine gg_hcallVi (pc := 4) cx (hh := [(0, 9, 12, 23)]) cal_X8_share calv_X8_share (ct_X8_share cx.tr hC v0 h) tw_1151 (hC 8 _ rfl v0) rfl rfl rfl (st := [.int 0, .ref (gAd t 59 o2)]) rfl (Nat.le_of_ble_eq_true rfl) ⟨Nat.le_of_ble_eq_true rfl, Nat.le_of_ble_eq_true rfl⟩ ⟨Nat.le_of_ble_eq_true rfl, Nat.le_of_ble_eq_true rfl⟩ dL_share_4 hx (fun e4 M4x q4 he h => ?_) (fun r4 M4 h => ?_)
  · have h : (if e4 = 2 then K 1 M4x else False) := h
    by_cases c0 : e4 = 2
    · have h := g_it c0 h
      subst c0
      refine ⟨12, ⟨(tableOf [(0, 9, 12, 23)]).take 0, _, (tableOf [(0, 9, 12, 23)]).drop 1, rfl, (fun z hz => absurd hz List.not_mem_nil), by decide, by decide, tw_860, rfl⟩, ?_⟩
      refine gg_astore_n (pc := 12) cx [(3, .ref q4), (0, .ref (gAd t 8 o0)), (1, .int x1), (2, .ref (gAd t 59 o2))] dL_share_12 rfl (by decide) rfl ?_
      refine gg_iconst (pc := 13) cx (v := 1) dL_share_13 (by decide) ?_
      exact gg_iret (pc := 14) cx hQ h dL_share_14
    have h := g_if c0 h
    exact h.elim
  · skip
    refine gg_i2l (pc := 7) cx dL_share_7 ?_
    have q8 := h.1
    have h := h.2
    refine gg_last (pc := 8) cx (hO 59 _ rfl v2) (fun _ _ => rfl) q8 dL_share_8 ?_
    refine gg_mem (fun M8 eM8 => ?_)
    have h := h M8 eM8
    refine gg_goto (pc := 9) cx (tgt := 15) dL_share_9 (by decide) ?_
    refine gg_iconst (pc := 15) cx (v := 0) dL_share_15 (by decide) ?_
    exact gg_iret (pc := 16) cx hQ h dL_share_16
theorem cal_L_checkpoint : g_CalW yL_checkpoint cL_checkpoint 3 (some .int) [(0, 8, 11, 15)] 2 := ⟨tw_0, tw_1162, by decide, by decide, by decide +kernel⟩
set_option maxRecDepth 100000 in
set_option maxHeartbeats 4000000 in
theorem ct_L_checkpoint {l : Launch} (hl : l.stackTraces = false) {t : gT} (hC : g_hC t) (hM : g_hM t) (hO : g_hO t) {o0 : Nat} {o1 : Nat} (v0 : o0 < 1) (v1 : o1 < 1) {M : gM} {K : Int32 → gM → Prop} (h : wp_L_checkpoint t o0 o1 M K) : Met l yL_checkpoint (g_yW yL_checkpoint cL_checkpoint 3 (some .int) [(0, 8, 11, 15)]) rm_L_checkpoint (va_Pc [.ref (gAd t 8 o0), .ref (gAd t 59 o1)] (g_Pre t M)) (va_Qi K (g_B t) (g_A t)) rm_L_checkpoint.cells rm_L_checkpoint.slots (g_A t) := by
  refine g_hmet hl rfl (Nat.le_of_ble_eq_true rfl) (fun X hlX cx hx hQ => ?_)
  subst hlX
  refine gg_aload_n (pc := 0) cx 1 rfl dL_checkpoint_0 rfl ?_
  refine gg_iconst (pc := 1) cx (v := 0) dL_checkpoint_1 (by decide) ?_
  refine gg_aload_n (pc := 2) cx 0 rfl dL_checkpoint_2 rfl ?_
  refine gg_hcallVi (pc := 3) cx (hh := [(0, 8, 11, 15)]) cal_X8_checkpoint calv_X8_checkpoint (ct_X8_checkpoint cx.tr hC v0 h) tw_1163 (hC 8 _ rfl v0) rfl rfl rfl (st := [.int 0, .ref (gAd t 59 o1)]) rfl (Nat.le_of_ble_eq_true rfl) ⟨Nat.le_of_ble_eq_true rfl, Nat.le_of_ble_eq_true rfl⟩ ⟨Nat.le_of_ble_eq_true rfl, Nat.le_of_ble_eq_true rfl⟩ dL_checkpoint_3 hx (fun e3 M3x q3 he h => ?_) (fun r3 M3 h => ?_)
  · have h : (if e3 = 1 then K 1 M3x else False) := h
    by_cases c0 : e3 = 1
    · have h := g_it c0 h
      subst c0
      refine ⟨11, ⟨(tableOf [(0, 8, 11, 15)]).take 0, _, (tableOf [(0, 8, 11, 15)]).drop 1, rfl, (fun z hz => absurd hz List.not_mem_nil), by decide, by decide, tw_761, rfl⟩, ?_⟩
      refine gg_astore_n (pc := 11) cx [(2, .ref q3), (0, .ref (gAd t 8 o0)), (1, .ref (gAd t 59 o1))] dL_checkpoint_11 rfl (by decide) rfl ?_
      refine gg_iconst (pc := 12) cx (v := 1) dL_checkpoint_12 (by decide) ?_
      exact gg_iret (pc := 13) cx hQ h dL_checkpoint_13
    have h := g_if c0 h
    exact h.elim
  · skip
    refine gg_i2l (pc := 6) cx dL_checkpoint_6 ?_
    have q7 := h.1
    have h := h.2
    refine gg_last (pc := 7) cx (hO 59 _ rfl v1) (fun _ _ => rfl) q7 dL_checkpoint_7 ?_
    refine gg_mem (fun M7 eM7 => ?_)
    have h := h M7 eM7
    refine gg_goto (pc := 8) cx (tgt := 14) dL_checkpoint_8 (by decide) ?_
    refine gg_iconst (pc := 14) cx (v := 0) dL_checkpoint_14 (by decide) ?_
    exact gg_iret (pc := 15) cx hQ h dL_checkpoint_15
theorem cal_L_rollback : g_CalW yL_rollback cL_rollback 3 (some .int) [(0, 8, 11, 15)] 2 := ⟨tw_0, tw_1170, by decide, by decide, by decide +kernel⟩
set_option maxRecDepth 100000 in
set_option maxHeartbeats 4000000 in
theorem ct_L_rollback {l : Launch} (hl : l.stackTraces = false) {t : gT} (hC : g_hC t) (hM : g_hM t) (hO : g_hO t) {o0 : Nat} {o1 : Nat} (v0 : o0 < 1) (v1 : o1 < 1) {M : gM} {K : Int32 → gM → Prop} (h : wp_L_rollback t o0 o1 M K) : Met l yL_rollback (g_yW yL_rollback cL_rollback 3 (some .int) [(0, 8, 11, 15)]) rm_L_rollback (va_Pc [.ref (gAd t 8 o0), .ref (gAd t 59 o1)] (g_Pre t M)) (va_Qi K (g_B t) (g_A t)) rm_L_rollback.cells rm_L_rollback.slots (g_A t) := by
  refine g_hmet hl rfl (Nat.le_of_ble_eq_true rfl) (fun X hlX cx hx hQ => ?_)
  subst hlX
  refine gg_aload_n (pc := 0) cx 1 rfl dL_rollback_0 rfl ?_
  refine gg_iconst (pc := 1) cx (v := 0) dL_rollback_1 (by decide) ?_
  refine gg_aload_n (pc := 2) cx 0 rfl dL_rollback_2 rfl ?_
  refine gg_hcallVi (pc := 3) cx (hh := [(0, 8, 11, 15)]) cal_X8_rollback calv_X8_rollback (ct_X8_rollback cx.tr hC v0 h) tw_1171 (hC 8 _ rfl v0) rfl rfl rfl (st := [.int 0, .ref (gAd t 59 o1)]) rfl (Nat.le_of_ble_eq_true rfl) ⟨Nat.le_of_ble_eq_true rfl, Nat.le_of_ble_eq_true rfl⟩ ⟨Nat.le_of_ble_eq_true rfl, Nat.le_of_ble_eq_true rfl⟩ dL_rollback_3 hx (fun e3 M3x q3 he h => ?_) (fun r3 M3 h => ?_)
  · have h : (if e3 = 1 then K 1 M3x else False) := h
    by_cases c0 : e3 = 1
    · have h := g_it c0 h
      subst c0
      refine ⟨11, ⟨(tableOf [(0, 8, 11, 15)]).take 0, _, (tableOf [(0, 8, 11, 15)]).drop 1, rfl, (fun z hz => absurd hz List.not_mem_nil), by decide, by decide, tw_761, rfl⟩, ?_⟩
      refine gg_astore_n (pc := 11) cx [(2, .ref q3), (0, .ref (gAd t 8 o0)), (1, .ref (gAd t 59 o1))] dL_rollback_11 rfl (by decide) rfl ?_
      refine gg_iconst (pc := 12) cx (v := 1) dL_rollback_12 (by decide) ?_
      exact gg_iret (pc := 13) cx hQ h dL_rollback_13
    have h := g_if c0 h
    exact h.elim
  · skip
    refine gg_i2l (pc := 6) cx dL_rollback_6 ?_
    have q7 := h.1
    have h := h.2
    refine gg_last (pc := 7) cx (hO 59 _ rfl v1) (fun _ _ => rfl) q7 dL_rollback_7 ?_
    refine gg_mem (fun M7 eM7 => ?_)
    have h := h M7 eM7
    refine gg_goto (pc := 8) cx (tgt := 14) dL_rollback_8 (by decide) ?_
    refine gg_iconst (pc := 14) cx (v := 0) dL_rollback_14 (by decide) ?_
    exact gg_iret (pc := 15) cx hQ h dL_rollback_15
theorem cal_L_commit : g_CalW yL_commit cL_commit 3 (some .int) [(0, 8, 11, 15)] 2 := ⟨tw_0, tw_1182, by decide, by decide, by decide +kernel⟩
set_option maxRecDepth 100000 in
set_option maxHeartbeats 4000000 in
theorem ct_L_commit {l : Launch} (hl : l.stackTraces = false) {t : gT} (hC : g_hC t) (hM : g_hM t) (hO : g_hO t) {o0 : Nat} {o1 : Nat} (v0 : o0 < 1) (v1 : o1 < 1) {M : gM} {K : Int32 → gM → Prop} (h : wp_L_commit t o0 o1 M K) : Met l yL_commit (g_yW yL_commit cL_commit 3 (some .int) [(0, 8, 11, 15)]) rm_L_commit (va_Pc [.ref (gAd t 8 o0), .ref (gAd t 59 o1)] (g_Pre t M)) (va_Qi K (g_B t) (g_A t)) rm_L_commit.cells rm_L_commit.slots (g_A t) := by
  refine g_hmet hl rfl (Nat.le_of_ble_eq_true rfl) (fun X hlX cx hx hQ => ?_)
  subst hlX
  refine gg_aload_n (pc := 0) cx 1 rfl dL_commit_0 rfl ?_
  refine gg_iconst (pc := 1) cx (v := 0) dL_commit_1 (by decide) ?_
  refine gg_aload_n (pc := 2) cx 0 rfl dL_commit_2 rfl ?_
  refine gg_hcallVi (pc := 3) cx (hh := [(0, 8, 11, 15)]) cal_X8_commit calv_X8_commit (ct_X8_commit cx.tr hC v0 h) tw_1183 (hC 8 _ rfl v0) rfl rfl rfl (st := [.int 0, .ref (gAd t 59 o1)]) rfl (Nat.le_of_ble_eq_true rfl) ⟨Nat.le_of_ble_eq_true rfl, Nat.le_of_ble_eq_true rfl⟩ ⟨Nat.le_of_ble_eq_true rfl, Nat.le_of_ble_eq_true rfl⟩ dL_commit_3 hx (fun e3 M3x q3 he h => ?_) (fun r3 M3 h => ?_)
  · have h : (if e3 = 1 then K 1 M3x else False) := h
    by_cases c0 : e3 = 1
    · have h := g_it c0 h
      subst c0
      refine ⟨11, ⟨(tableOf [(0, 8, 11, 15)]).take 0, _, (tableOf [(0, 8, 11, 15)]).drop 1, rfl, (fun z hz => absurd hz List.not_mem_nil), by decide, by decide, tw_761, rfl⟩, ?_⟩
      refine gg_astore_n (pc := 11) cx [(2, .ref q3), (0, .ref (gAd t 8 o0)), (1, .ref (gAd t 59 o1))] dL_commit_11 rfl (by decide) rfl ?_
      refine gg_iconst (pc := 12) cx (v := 1) dL_commit_12 (by decide) ?_
      exact gg_iret (pc := 13) cx hQ h dL_commit_13
    have h := g_if c0 h
    exact h.elim
  · skip
    refine gg_i2l (pc := 6) cx dL_commit_6 ?_
    have q7 := h.1
    have h := h.2
    refine gg_last (pc := 7) cx (hO 59 _ rfl v1) (fun _ _ => rfl) q7 dL_commit_7 ?_
    refine gg_mem (fun M7 eM7 => ?_)
    have h := h M7 eM7
    refine gg_goto (pc := 8) cx (tgt := 14) dL_commit_8 (by decide) ?_
    refine gg_iconst (pc := 14) cx (v := 0) dL_commit_14 (by decide) ?_
    exact gg_iret (pc := 15) cx hQ h dL_commit_15
def wp_L_law_L33 (t : gT) : Nat → Nat → Nat → Nat → Int32 → gM → Prop
  | 0, _, _, _, _, _ => False
  | f + 1, o1, o2, o3, x4, M => (if ((Int32.ofNat (gScL t)) - 5) < x4 then (1 : Int32) = 1 else vp_in x4 (gScL t) ∧ (if ((gScX t x4.toNatClampNeg) &&& 63) = 0 then vp_in (x4 + 1) (gScL t) ∧ wp_L_type t o1 (gScX t (x4 + 1).toNatClampNeg) o3 M (fun r244 M244 => vp_in (x4 + 1) (gScL t) ∧ wp_X9_type o2 (gScX t (x4 + 1).toNatClampNeg) M244 (fun r256 M256 => wp_X9_thrown o2 M256 (fun r262 M262 => (if r262 = r244 then (if r244 = 0 then vp_in 0 1 ∧ (if (M262.2 59 o3 (0 : Int32).toNatClampNeg) = r256.toInt64 then ∀ n2316 : Int32, n2316 = x4 + Int32.ofInt (5) → wp_L_law_L33 t f o1 o2 o3 n2316 M262 else (0 : Int32) = 1) else ∀ n2316 : Int32, n2316 = x4 + Int32.ofInt (5) → wp_L_law_L33 t f o1 o2 o3 n2316 M262) else (0 : Int32) = 1)))) else (if ((gScX t x4.toNatClampNeg) &&& 63) = 1 then wp_X8_clearText o1 M (fun r293 M293 => wp_X9_clearText o2 M293 (fun r297 M297 => (if r293 = r297 then ∀ n2316 : Int32, n2316 = x4 + Int32.ofInt (5) → wp_L_law_L33 t f o1 o2 o3 n2316 M297 else (0 : Int32) = 1))) else (if ((gScX t x4.toNatClampNeg) &&& 63) = 2 then wp_X8_loadTree o1 M (fun r306 M306 => wp_X9_loadTree o2 M306 (fun r310 M310 => (if r306 = r310 then ∀ n2316 : Int32, n2316 = x4 + Int32.ofInt (5) → wp_L_law_L33 t f o1 o2 o3 n2316 M310 else (0 : Int32) = 1))) else (if ((gScX t x4.toNatClampNeg) &&& 63) = 3 then vp_in (x4 + 1) (gScL t) ∧ wp_L_loadTemplate t o1 (gScX t (x4 + 1).toNatClampNeg) o3 M (fun r326 M326 => vp_in (x4 + 1) (gScL t) ∧ wp_X9_loadTemplate o2 (gScX t (x4 + 1).toNatClampNeg) M326 (fun r338 M338 => wp_X9_thrown o2 M338 (fun r344 M344 => (if r344 = r326 then (if r326 = 0 then vp_in 0 1 ∧ (if (M344.2 59 o3 (0 : Int32).toNatClampNeg) = r338.toInt64 then ∀ n2316 : Int32, n2316 = x4 + Int32.ofInt (5) → wp_L_law_L33 t f o1 o2 o3 n2316 M344 else (0 : Int32) = 1) else ∀ n2316 : Int32, n2316 = x4 + Int32.ofInt (5) → wp_L_law_L33 t f o1 o2 o3 n2316 M344) else (0 : Int32) = 1)))) else (if ((gScX t x4.toNatClampNeg) &&& 63) = 4 then vp_in (x4 + 1) (gScL t) ∧ wp_L_errorPosition t o1 (gScX t (x4 + 1).toNatClampNeg) o3 M (fun r382 M382 => vp_in (x4 + 1) (gScL t) ∧ wp_X9_errorPosition o2 (gScX t (x4 + 1).toNatClampNeg) M382 (fun r394 M394 => wp_X9_thrown o2 M394 (fun r400 M400 => (if r400 = r382 then (if r382 = 0 then vp_in 0 1 ∧ (if (M400.2 59 o3 (0 : Int32).toNatClampNeg) = r394.toInt64 then ∀ n2316 : Int32, n2316 = x4 + Int32.ofInt (5) → wp_L_law_L33 t f o1 o2 o3 n2316 M400 else (0 : Int32) = 1) else ∀ n2316 : Int32, n2316 = x4 + Int32.ofInt (5) → wp_L_law_L33 t f o1 o2 o3 n2316 M400) else (0 : Int32) = 1)))) else (if ((gScX t x4.toNatClampNeg) &&& 63) = 5 then wp_X8_nodes o1 M (fun r431 M431 => wp_X9_nodes o2 M431 (fun r435 M435 => (if r431 = r435 then ∀ n2316 : Int32, n2316 = x4 + Int32.ofInt (5) → wp_L_law_L33 t f o1 o2 o3 n2316 M435 else (0 : Int32) = 1))) else (if ((gScX t x4.toNatClampNeg) &&& 63) = 6 then vp_in (x4 + 1) (gScL t) ∧ wp_L_parentOf t o1 (gScX t (x4 + 1).toNatClampNeg) o3 M (fun r451 M451 => vp_in (x4 + 1) (gScL t) ∧ wp_X9_parentOf o2 (gScX t (x4 + 1).toNatClampNeg) M451 (fun r463 M463 => wp_X9_thrown o2 M463 (fun r469 M469 => (if r469 = r451 then (if r451 = 0 then vp_in 0 1 ∧ (if (M469.2 59 o3 (0 : Int32).toNatClampNeg) = r463.toInt64 then ∀ n2316 : Int32, n2316 = x4 + Int32.ofInt (5) → wp_L_law_L33 t f o1 o2 o3 n2316 M469 else (0 : Int32) = 1) else ∀ n2316 : Int32, n2316 = x4 + Int32.ofInt (5) → wp_L_law_L33 t f o1 o2 o3 n2316 M469) else (0 : Int32) = 1)))) else (if ((gScX t x4.toNatClampNeg) &&& 63) = 7 then vp_in (x4 + 1) (gScL t) ∧ wp_L_children t o1 (gScX t (x4 + 1).toNatClampNeg) o3 M (fun r507 M507 => vp_in (x4 + 1) (gScL t) ∧ wp_X9_children o2 (gScX t (x4 + 1).toNatClampNeg) M507 (fun r519 M519 => wp_X9_thrown o2 M519 (fun r525 M525 => (if r525 = r507 then (if r507 = 0 then vp_in 0 1 ∧ (if (M525.2 59 o3 (0 : Int32).toNatClampNeg) = r519.toInt64 then ∀ n2316 : Int32, n2316 = x4 + Int32.ofInt (5) → wp_L_law_L33 t f o1 o2 o3 n2316 M525 else (0 : Int32) = 1) else ∀ n2316 : Int32, n2316 = x4 + Int32.ofInt (5) → wp_L_law_L33 t f o1 o2 o3 n2316 M525) else (0 : Int32) = 1)))) else (if ((gScX t x4.toNatClampNeg) &&& 63) = 8 then vp_in (x4 + 1) (gScL t) ∧ wp_L_tieRule t o1 (gScX t (x4 + 1).toNatClampNeg) o3 M (fun r563 M563 => vp_in (x4 + 1) (gScL t) ∧ wp_X9_tieRule o2 (gScX t (x4 + 1).toNatClampNeg) M563 (fun r575 M575 => wp_X9_thrown o2 M575 (fun r581 M581 => (if r581 = r563 then (if r563 = 0 then vp_in 0 1 ∧ (if (M581.2 59 o3 (0 : Int32).toNatClampNeg) = r575.toInt64 then ∀ n2316 : Int32, n2316 = x4 + Int32.ofInt (5) → wp_L_law_L33 t f o1 o2 o3 n2316 M581 else (0 : Int32) = 1) else ∀ n2316 : Int32, n2316 = x4 + Int32.ofInt (5) → wp_L_law_L33 t f o1 o2 o3 n2316 M581) else (0 : Int32) = 1)))) else (if ((gScX t x4.toNatClampNeg) &&& 63) = 9 then vp_in (x4 + 1) (gScL t) ∧ vp_in (x4 + 2) (gScL t) ∧ wp_L_setFlowWeight t o1 (gScX t (x4 + 1).toNatClampNeg) (gScX t (x4 + 2).toNatClampNeg) o3 M (fun r625 M625 => vp_in (x4 + 1) (gScL t) ∧ vp_in (x4 + 2) (gScL t) ∧ wp_X9_setFlowWeight o2 (gScX t (x4 + 1).toNatClampNeg) (gScX t (x4 + 2).toNatClampNeg) M625 (fun r643 M643 => wp_X9_thrown o2 M643 (fun r649 M649 => (if r649 = r625 then (if r625 = 0 then vp_in 0 1 ∧ (if (M649.2 59 o3 (0 : Int32).toNatClampNeg) = r643.toInt64 then ∀ n2316 : Int32, n2316 = x4 + Int32.ofInt (5) → wp_L_law_L33 t f o1 o2 o3 n2316 M649 else (0 : Int32) = 1) else ∀ n2316 : Int32, n2316 = x4 + Int32.ofInt (5) → wp_L_law_L33 t f o1 o2 o3 n2316 M649) else (0 : Int32) = 1)))) else (if ((gScX t x4.toNatClampNeg) &&& 63) = 10 then vp_in (x4 + 1) (gScL t) ∧ vp_in (x4 + 2) (gScL t) ∧ wp_L_setNodeWeight t o1 (gScX t (x4 + 1).toNatClampNeg) (gScX t (x4 + 2).toNatClampNeg) o3 M (fun r693 M693 => vp_in (x4 + 1) (gScL t) ∧ vp_in (x4 + 2) (gScL t) ∧ wp_X9_setNodeWeight o2 (gScX t (x4 + 1).toNatClampNeg) (gScX t (x4 + 2).toNatClampNeg) M693 (fun r711 M711 => wp_X9_thrown o2 M711 (fun r717 M717 => (if r717 = r693 then (if r693 = 0 then vp_in 0 1 ∧ (if (M717.2 59 o3 (0 : Int32).toNatClampNeg) = r711.toInt64 then ∀ n2316 : Int32, n2316 = x4 + Int32.ofInt (5) → wp_L_law_L33 t f o1 o2 o3 n2316 M717 else (0 : Int32) = 1) else ∀ n2316 : Int32, n2316 = x4 + Int32.ofInt (5) → wp_L_law_L33 t f o1 o2 o3 n2316 M717) else (0 : Int32) = 1)))) else (if ((gScX t x4.toNatClampNeg) &&& 63) = 11 then vp_in (x4 + 1) (gScL t) ∧ vp_in (x4 + 2) (gScL t) ∧ wp_L_assign t o1 (gScX t (x4 + 1).toNatClampNeg) (gScX t (x4 + 2).toNatClampNeg) o3 M (fun r761 M761 => vp_in (x4 + 1) (gScL t) ∧ vp_in (x4 + 2) (gScL t) ∧ wp_X9_assign o2 (gScX t (x4 + 1).toNatClampNeg) (gScX t (x4 + 2).toNatClampNeg) M761 (fun r779 M779 => wp_X9_thrown o2 M779 (fun r785 M785 => (if r785 = r761 then (if r761 = 0 then vp_in 0 1 ∧ (if (M785.2 59 o3 (0 : Int32).toNatClampNeg) = r779.toInt64 then ∀ n2316 : Int32, n2316 = x4 + Int32.ofInt (5) → wp_L_law_L33 t f o1 o2 o3 n2316 M785 else (0 : Int32) = 1) else ∀ n2316 : Int32, n2316 = x4 + Int32.ofInt (5) → wp_L_law_L33 t f o1 o2 o3 n2316 M785) else (0 : Int32) = 1)))) else (if ((gScX t x4.toNatClampNeg) &&& 63) = 12 then vp_in (x4 + 1) (gScL t) ∧ wp_L_leafOf t o1 (gScX t (x4 + 1).toNatClampNeg) o3 M (fun r823 M823 => vp_in (x4 + 1) (gScL t) ∧ wp_X9_leafOf o2 (gScX t (x4 + 1).toNatClampNeg) M823 (fun r835 M835 => wp_X9_thrown o2 M835 (fun r841 M841 => (if r841 = r823 then (if r823 = 0 then vp_in 0 1 ∧ (if (M841.2 59 o3 (0 : Int32).toNatClampNeg) = r835.toInt64 then ∀ n2316 : Int32, n2316 = x4 + Int32.ofInt (5) → wp_L_law_L33 t f o1 o2 o3 n2316 M841 else (0 : Int32) = 1) else ∀ n2316 : Int32, n2316 = x4 + Int32.ofInt (5) → wp_L_law_L33 t f o1 o2 o3 n2316 M841) else (0 : Int32) = 1)))) else (if ((gScX t x4.toNatClampNeg) &&& 63) = 13 then vp_in (x4 + 1) (gScL t) ∧ wp_L_setLinkRate t o1 (gScX t (x4 + 1).toNatClampNeg) o3 M (fun r879 M879 => vp_in (x4 + 1) (gScL t) ∧ wp_X9_setLinkRate o2 (gScX t (x4 + 1).toNatClampNeg) M879 (fun r891 M891 => wp_X9_thrown o2 M891 (fun r897 M897 => (if r897 = r879 then (if r879 = 0 then vp_in 0 1 ∧ (if (M897.2 59 o3 (0 : Int32).toNatClampNeg) = r891.toInt64 then ∀ n2316 : Int32, n2316 = x4 + Int32.ofInt (5) → wp_L_law_L33 t f o1 o2 o3 n2316 M897 else (0 : Int32) = 1) else ∀ n2316 : Int32, n2316 = x4 + Int32.ofInt (5) → wp_L_law_L33 t f o1 o2 o3 n2316 M897) else (0 : Int32) = 1)))) else (if ((gScX t x4.toNatClampNeg) &&& 63) = 14 then vp_in (x4 + 1) (gScL t) ∧ vp_in (x4 + 2) (gScL t) ∧ vp_in (x4 + 3) (gScL t) ∧ vp_in (x4 + 4) (gScL t) ∧ wp_L_enqueue t o1 (gScX t (x4 + 1).toNatClampNeg) (gScX t (x4 + 2).toNatClampNeg) (gScX t (x4 + 3).toNatClampNeg) (gScX t (x4 + 4).toNatClampNeg) o3 M (fun r953 M953 => vp_in (x4 + 1) (gScL t) ∧ vp_in (x4 + 2) (gScL t) ∧ vp_in (x4 + 3) (gScL t) ∧ vp_in (x4 + 4) (gScL t) ∧ wp_X9_enqueue o2 (gScX t (x4 + 1).toNatClampNeg) (gScX t (x4 + 2).toNatClampNeg) (gScX t (x4 + 3).toNatClampNeg) (gScX t (x4 + 4).toNatClampNeg) M953 (fun r983 M983 => wp_X9_thrown o2 M983 (fun r989 M989 => (if r989 = r953 then (if r953 = 0 then vp_in 0 1 ∧ (if (M989.2 59 o3 (0 : Int32).toNatClampNeg) = r983.toInt64 then ∀ n2316 : Int32, n2316 = x4 + Int32.ofInt (5) → wp_L_law_L33 t f o1 o2 o3 n2316 M989 else (0 : Int32) = 1) else ∀ n2316 : Int32, n2316 = x4 + Int32.ofInt (5) → wp_L_law_L33 t f o1 o2 o3 n2316 M989) else (0 : Int32) = 1)))) else (if ((gScX t x4.toNatClampNeg) &&& 63) = 15 then wp_X8_dequeue o1 M (fun r1020 M1020 => wp_X9_dequeue o2 M1020 (fun r1024 M1024 => (if r1020 = r1024 then ∀ n2316 : Int32, n2316 = x4 + Int32.ofInt (5) → wp_L_law_L33 t f o1 o2 o3 n2316 M1024 else (0 : Int32) = 1))) else (if ((gScX t x4.toNatClampNeg) &&& 63) = 16 then wp_X8_transmit o1 M (fun r1033 M1033 => wp_X9_transmit o2 M1033 (fun r1037 M1037 => (if r1033 = r1037 then ∀ n2316 : Int32, n2316 = x4 + Int32.ofInt (5) → wp_L_law_L33 t f o1 o2 o3 n2316 M1037 else (0 : Int32) = 1))) else (if ((gScX t x4.toNatClampNeg) &&& 63) = 17 then vp_in (x4 + 1) (gScL t) ∧ wp_L_advance t o1 (gScX t (x4 + 1).toNatClampNeg) o3 M (fun r1053 M1053 => vp_in (x4 + 1) (gScL t) ∧ wp_X9_advance o2 (gScX t (x4 + 1).toNatClampNeg) M1053 (fun r1065 M1065 => wp_X9_thrown o2 M1065 (fun r1071 M1071 => (if r1071 = r1053 then (if r1053 = 0 then vp_in 0 1 ∧ (if (M1071.2 59 o3 (0 : Int32).toNatClampNeg) = r1065.toInt64 then ∀ n2316 : Int32, n2316 = x4 + Int32.ofInt (5) → wp_L_law_L33 t f o1 o2 o3 n2316 M1071 else (0 : Int32) = 1) else ∀ n2316 : Int32, n2316 = x4 + Int32.ofInt (5) → wp_L_law_L33 t f o1 o2 o3 n2316 M1071) else (0 : Int32) = 1)))) else (if ((gScX t x4.toNatClampNeg) &&& 63) = 18 then wp_X8_time o1 M (fun r1102 M1102 => wp_X9_time o2 M1102 (fun r1106 M1106 => (if r1102 = r1106 then ∀ n2316 : Int32, n2316 = x4 + Int32.ofInt (5) → wp_L_law_L33 t f o1 o2 o3 n2316 M1106 else (0 : Int32) = 1))) else (if ((gScX t x4.toNatClampNeg) &&& 63) = 19 then wp_X8_nextRelease o1 M (fun r1116 M1116 => wp_X9_nextRelease o2 M1116 (fun r1120 M1120 => (if r1116 = r1120 then ∀ n2316 : Int32, n2316 = x4 + Int32.ofInt (5) → wp_L_law_L33 t f o1 o2 o3 n2316 M1120 else (0 : Int32) = 1))) else (if ((gScX t x4.toNatClampNeg) &&& 63) = 20 then wp_X8_shaped o1 M (fun r1130 M1130 => wp_X9_shaped o2 M1130 (fun r1134 M1134 => (if r1130 = r1134 then ∀ n2316 : Int32, n2316 = x4 + Int32.ofInt (5) → wp_L_law_L33 t f o1 o2 o3 n2316 M1134 else (0 : Int32) = 1))) else (if ((gScX t x4.toNatClampNeg) &&& 63) = 21 then wp_X8_waiting o1 M (fun r1143 M1143 => wp_X9_waiting o2 M1143 (fun r1147 M1147 => (if r1143 = r1147 then ∀ n2316 : Int32, n2316 = x4 + Int32.ofInt (5) → wp_L_law_L33 t f o1 o2 o3 n2316 M1147 else (0 : Int32) = 1))) else (if ((gScX t x4.toNatClampNeg) &&& 63) = 22 then vp_in (x4 + 1) (gScL t) ∧ wp_L_queueLength t o1 (gScX t (x4 + 1).toNatClampNeg) o3 M (fun r1163 M1163 => vp_in (x4 + 1) (gScL t) ∧ wp_X9_queueLength o2 (gScX t (x4 + 1).toNatClampNeg) M1163 (fun r1175 M1175 => wp_X9_thrown o2 M1175 (fun r1181 M1181 => (if r1181 = r1163 then (if r1163 = 0 then vp_in 0 1 ∧ (if (M1181.2 59 o3 (0 : Int32).toNatClampNeg) = r1175.toInt64 then ∀ n2316 : Int32, n2316 = x4 + Int32.ofInt (5) → wp_L_law_L33 t f o1 o2 o3 n2316 M1181 else (0 : Int32) = 1) else ∀ n2316 : Int32, n2316 = x4 + Int32.ofInt (5) → wp_L_law_L33 t f o1 o2 o3 n2316 M1181) else (0 : Int32) = 1)))) else (if ((gScX t x4.toNatClampNeg) &&& 63) = 23 then vp_in (x4 + 1) (gScL t) ∧ vp_in (x4 + 2) (gScL t) ∧ wp_L_queueItem t o1 (gScX t (x4 + 1).toNatClampNeg) (gScX t (x4 + 2).toNatClampNeg) o3 M (fun r1225 M1225 => vp_in (x4 + 1) (gScL t) ∧ vp_in (x4 + 2) (gScL t) ∧ wp_X9_queueItem o2 (gScX t (x4 + 1).toNatClampNeg) (gScX t (x4 + 2).toNatClampNeg) M1225 (fun r1243 M1243 => wp_X9_thrown o2 M1243 (fun r1249 M1249 => (if r1249 = r1225 then (if r1225 = 0 then vp_in 0 1 ∧ (if (M1249.2 59 o3 (0 : Int32).toNatClampNeg) = r1243.toInt64 then ∀ n2316 : Int32, n2316 = x4 + Int32.ofInt (5) → wp_L_law_L33 t f o1 o2 o3 n2316 M1249 else (0 : Int32) = 1) else ∀ n2316 : Int32, n2316 = x4 + Int32.ofInt (5) → wp_L_law_L33 t f o1 o2 o3 n2316 M1249) else (0 : Int32) = 1)))) else (if ((gScX t x4.toNatClampNeg) &&& 63) = 24 then vp_in (x4 + 1) (gScL t) ∧ vp_in (x4 + 2) (gScL t) ∧ wp_L_queueRank t o1 (gScX t (x4 + 1).toNatClampNeg) (gScX t (x4 + 2).toNatClampNeg) o3 M (fun r1293 M1293 => vp_in (x4 + 1) (gScL t) ∧ vp_in (x4 + 2) (gScL t) ∧ wp_X9_queueRank o2 (gScX t (x4 + 1).toNatClampNeg) (gScX t (x4 + 2).toNatClampNeg) M1293 (fun r1311 M1311 => wp_X9_thrown o2 M1311 (fun r1317 M1317 => (if r1317 = r1293 then (if r1293 = 0 then vp_in 0 1 ∧ (if (M1317.2 59 o3 (0 : Int32).toNatClampNeg) = r1311 then ∀ n2316 : Int32, n2316 = x4 + Int32.ofInt (5) → wp_L_law_L33 t f o1 o2 o3 n2316 M1317 else (0 : Int32) = 1) else ∀ n2316 : Int32, n2316 = x4 + Int32.ofInt (5) → wp_L_law_L33 t f o1 o2 o3 n2316 M1317) else (0 : Int32) = 1)))) else (if ((gScX t x4.toNatClampNeg) &&& 63) = 25 then vp_in (x4 + 1) (gScL t) ∧ wp_L_virtualTime t o1 (gScX t (x4 + 1).toNatClampNeg) o3 M (fun r1354 M1354 => vp_in (x4 + 1) (gScL t) ∧ wp_X9_virtualTime o2 (gScX t (x4 + 1).toNatClampNeg) M1354 (fun r1366 M1366 => wp_X9_thrown o2 M1366 (fun r1372 M1372 => (if r1372 = r1354 then (if r1354 = 0 then vp_in 0 1 ∧ (if (M1372.2 59 o3 (0 : Int32).toNatClampNeg) = r1366 then ∀ n2316 : Int32, n2316 = x4 + Int32.ofInt (5) → wp_L_law_L33 t f o1 o2 o3 n2316 M1372 else (0 : Int32) = 1) else ∀ n2316 : Int32, n2316 = x4 + Int32.ofInt (5) → wp_L_law_L33 t f o1 o2 o3 n2316 M1372) else (0 : Int32) = 1)))) else (if ((gScX t x4.toNatClampNeg) &&& 63) = 26 then vp_in (x4 + 1) (gScL t) ∧ vp_in (x4 + 2) (gScL t) ∧ wp_L_state t o1 (gScX t (x4 + 1).toNatClampNeg) (gScX t (x4 + 2).toNatClampNeg) o3 M (fun r1415 M1415 => vp_in (x4 + 1) (gScL t) ∧ vp_in (x4 + 2) (gScL t) ∧ wp_X9_state o2 (gScX t (x4 + 1).toNatClampNeg) (gScX t (x4 + 2).toNatClampNeg) M1415 (fun r1433 M1433 => wp_X9_thrown o2 M1433 (fun r1439 M1439 => (if r1439 = r1415 then (if r1415 = 0 then vp_in 0 1 ∧ (if (M1439.2 59 o3 (0 : Int32).toNatClampNeg) = r1433 then ∀ n2316 : Int32, n2316 = x4 + Int32.ofInt (5) → wp_L_law_L33 t f o1 o2 o3 n2316 M1439 else (0 : Int32) = 1) else ∀ n2316 : Int32, n2316 = x4 + Int32.ofInt (5) → wp_L_law_L33 t f o1 o2 o3 n2316 M1439) else (0 : Int32) = 1)))) else (if ((gScX t x4.toNatClampNeg) &&& 63) = 27 then vp_in (x4 + 1) (gScL t) ∧ vp_in (x4 + 2) (gScL t) ∧ vp_in (x4 + 3) (gScL t) ∧ vp_in (x4 + 4) (gScL t) ∧ wp_L_rankIf t o1 (gScX t (x4 + 1).toNatClampNeg) (gScX t (x4 + 2).toNatClampNeg) (gScX t (x4 + 3).toNatClampNeg) (gScX t (x4 + 4).toNatClampNeg) o3 M (fun r1494 M1494 => vp_in (x4 + 1) (gScL t) ∧ vp_in (x4 + 2) (gScL t) ∧ vp_in (x4 + 3) (gScL t) ∧ vp_in (x4 + 4) (gScL t) ∧ wp_X9_rankIf o2 (gScX t (x4 + 1).toNatClampNeg) (gScX t (x4 + 2).toNatClampNeg) (gScX t (x4 + 3).toNatClampNeg) (gScX t (x4 + 4).toNatClampNeg) M1494 (fun r1524 M1524 => wp_X9_thrown o2 M1524 (fun r1530 M1530 => (if r1530 = r1494 then (if r1494 = 0 then vp_in 0 1 ∧ (if (M1530.2 59 o3 (0 : Int32).toNatClampNeg) = r1524 then ∀ n2316 : Int32, n2316 = x4 + Int32.ofInt (5) → wp_L_law_L33 t f o1 o2 o3 n2316 M1530 else (0 : Int32) = 1) else ∀ n2316 : Int32, n2316 = x4 + Int32.ofInt (5) → wp_L_law_L33 t f o1 o2 o3 n2316 M1530) else (0 : Int32) = 1)))) else (if ((gScX t x4.toNatClampNeg) &&& 63) = 28 then vp_in (x4 + 1) (gScL t) ∧ wp_L_peek t o1 (gScX t (x4 + 1).toNatClampNeg) o3 M (fun r1567 M1567 => vp_in (x4 + 1) (gScL t) ∧ wp_X9_peek o2 (gScX t (x4 + 1).toNatClampNeg) M1567 (fun r1579 M1579 => wp_X9_thrown o2 M1579 (fun r1585 M1585 => (if r1585 = r1567 then (if r1567 = 0 then vp_in 0 1 ∧ (if (M1585.2 59 o3 (0 : Int32).toNatClampNeg) = r1579.toInt64 then ∀ n2316 : Int32, n2316 = x4 + Int32.ofInt (5) → wp_L_law_L33 t f o1 o2 o3 n2316 M1585 else (0 : Int32) = 1) else ∀ n2316 : Int32, n2316 = x4 + Int32.ofInt (5) → wp_L_law_L33 t f o1 o2 o3 n2316 M1585) else (0 : Int32) = 1)))) else (if ((gScX t x4.toNatClampNeg) &&& 63) = 29 then vp_in (x4 + 1) (gScL t) ∧ wp_L_departureIf t o1 (gScX t (x4 + 1).toNatClampNeg) o3 M (fun r1623 M1623 => vp_in (x4 + 1) (gScL t) ∧ wp_X9_departureIf o2 (gScX t (x4 + 1).toNatClampNeg) M1623 (fun r1635 M1635 => wp_X9_thrown o2 M1635 (fun r1641 M1641 => (if r1641 = r1623 then (if r1623 = 0 then vp_in 0 1 ∧ (if (M1641.2 59 o3 (0 : Int32).toNatClampNeg) = r1635 then ∀ n2316 : Int32, n2316 = x4 + Int32.ofInt (5) → wp_L_law_L33 t f o1 o2 o3 n2316 M1641 else (0 : Int32) = 1) else ∀ n2316 : Int32, n2316 = x4 + Int32.ofInt (5) → wp_L_law_L33 t f o1 o2 o3 n2316 M1641) else (0 : Int32) = 1)))) else (if ((gScX t x4.toNatClampNeg) &&& 63) = 30 then vp_in (x4 + 1) (gScL t) ∧ wp_L_flowOf t o1 (gScX t (x4 + 1).toNatClampNeg) o3 M (fun r1678 M1678 => vp_in (x4 + 1) (gScL t) ∧ wp_X9_flowOf o2 (gScX t (x4 + 1).toNatClampNeg) M1678 (fun r1690 M1690 => wp_X9_thrown o2 M1690 (fun r1696 M1696 => (if r1696 = r1678 then (if r1678 = 0 then vp_in 0 1 ∧ (if (M1696.2 59 o3 (0 : Int32).toNatClampNeg) = r1690.toInt64 then ∀ n2316 : Int32, n2316 = x4 + Int32.ofInt (5) → wp_L_law_L33 t f o1 o2 o3 n2316 M1696 else (0 : Int32) = 1) else ∀ n2316 : Int32, n2316 = x4 + Int32.ofInt (5) → wp_L_law_L33 t f o1 o2 o3 n2316 M1696) else (0 : Int32) = 1)))) else (if ((gScX t x4.toNatClampNeg) &&& 63) = 31 then vp_in (x4 + 1) (gScL t) ∧ wp_L_deadlineOf t o1 (gScX t (x4 + 1).toNatClampNeg) o3 M (fun r1734 M1734 => vp_in (x4 + 1) (gScL t) ∧ wp_X9_deadlineOf o2 (gScX t (x4 + 1).toNatClampNeg) M1734 (fun r1746 M1746 => wp_X9_thrown o2 M1746 (fun r1752 M1752 => (if r1752 = r1734 then (if r1734 = 0 then vp_in 0 1 ∧ (if (M1752.2 59 o3 (0 : Int32).toNatClampNeg) = r1746 then ∀ n2316 : Int32, n2316 = x4 + Int32.ofInt (5) → wp_L_law_L33 t f o1 o2 o3 n2316 M1752 else (0 : Int32) = 1) else ∀ n2316 : Int32, n2316 = x4 + Int32.ofInt (5) → wp_L_law_L33 t f o1 o2 o3 n2316 M1752) else (0 : Int32) = 1)))) else (if ((gScX t x4.toNatClampNeg) &&& 63) = 32 then vp_in (x4 + 1) (gScL t) ∧ wp_L_departureOf t o1 (gScX t (x4 + 1).toNatClampNeg) o3 M (fun r1789 M1789 => vp_in (x4 + 1) (gScL t) ∧ wp_X9_departureOf o2 (gScX t (x4 + 1).toNatClampNeg) M1789 (fun r1801 M1801 => wp_X9_thrown o2 M1801 (fun r1807 M1807 => (if r1807 = r1789 then (if r1789 = 0 then vp_in 0 1 ∧ (if (M1807.2 59 o3 (0 : Int32).toNatClampNeg) = r1801 then ∀ n2316 : Int32, n2316 = x4 + Int32.ofInt (5) → wp_L_law_L33 t f o1 o2 o3 n2316 M1807 else (0 : Int32) = 1) else ∀ n2316 : Int32, n2316 = x4 + Int32.ofInt (5) → wp_L_law_L33 t f o1 o2 o3 n2316 M1807) else (0 : Int32) = 1)))) else (if ((gScX t x4.toNatClampNeg) &&& 63) = 33 then vp_in (x4 + 1) (gScL t) ∧ wp_L_sent t o1 (gScX t (x4 + 1).toNatClampNeg) o3 M (fun r1844 M1844 => vp_in (x4 + 1) (gScL t) ∧ wp_X9_sent o2 (gScX t (x4 + 1).toNatClampNeg) M1844 (fun r1856 M1856 => wp_X9_thrown o2 M1856 (fun r1862 M1862 => (if r1862 = r1844 then (if r1844 = 0 then vp_in 0 1 ∧ (if (M1862.2 59 o3 (0 : Int32).toNatClampNeg) = r1856.toInt64 then ∀ n2316 : Int32, n2316 = x4 + Int32.ofInt (5) → wp_L_law_L33 t f o1 o2 o3 n2316 M1862 else (0 : Int32) = 1) else ∀ n2316 : Int32, n2316 = x4 + Int32.ofInt (5) → wp_L_law_L33 t f o1 o2 o3 n2316 M1862) else (0 : Int32) = 1)))) else (if ((gScX t x4.toNatClampNeg) &&& 63) = 34 then vp_in (x4 + 1) (gScL t) ∧ wp_L_sentBytes t o1 (gScX t (x4 + 1).toNatClampNeg) o3 M (fun r1900 M1900 => vp_in (x4 + 1) (gScL t) ∧ wp_X9_sentBytes o2 (gScX t (x4 + 1).toNatClampNeg) M1900 (fun r1912 M1912 => wp_X9_thrown o2 M1912 (fun r1918 M1918 => (if r1918 = r1900 then (if r1900 = 0 then vp_in 0 1 ∧ (if (M1918.2 59 o3 (0 : Int32).toNatClampNeg) = r1912.toInt64 then ∀ n2316 : Int32, n2316 = x4 + Int32.ofInt (5) → wp_L_law_L33 t f o1 o2 o3 n2316 M1918 else (0 : Int32) = 1) else ∀ n2316 : Int32, n2316 = x4 + Int32.ofInt (5) → wp_L_law_L33 t f o1 o2 o3 n2316 M1918) else (0 : Int32) = 1)))) else (if ((gScX t x4.toNatClampNeg) &&& 63) = 35 then vp_in (x4 + 1) (gScL t) ∧ wp_L_totalDelay t o1 (gScX t (x4 + 1).toNatClampNeg) o3 M (fun r1956 M1956 => vp_in (x4 + 1) (gScL t) ∧ wp_X9_totalDelay o2 (gScX t (x4 + 1).toNatClampNeg) M1956 (fun r1968 M1968 => wp_X9_thrown o2 M1968 (fun r1974 M1974 => (if r1974 = r1956 then (if r1956 = 0 then vp_in 0 1 ∧ (if (M1974.2 59 o3 (0 : Int32).toNatClampNeg) = r1968 then ∀ n2316 : Int32, n2316 = x4 + Int32.ofInt (5) → wp_L_law_L33 t f o1 o2 o3 n2316 M1974 else (0 : Int32) = 1) else ∀ n2316 : Int32, n2316 = x4 + Int32.ofInt (5) → wp_L_law_L33 t f o1 o2 o3 n2316 M1974) else (0 : Int32) = 1)))) else (if ((gScX t x4.toNatClampNeg) &&& 63) = 36 then vp_in (x4 + 1) (gScL t) ∧ wp_L_greatestDelay t o1 (gScX t (x4 + 1).toNatClampNeg) o3 M (fun r2011 M2011 => vp_in (x4 + 1) (gScL t) ∧ wp_X9_greatestDelay o2 (gScX t (x4 + 1).toNatClampNeg) M2011 (fun r2023 M2023 => wp_X9_thrown o2 M2023 (fun r2029 M2029 => (if r2029 = r2011 then (if r2011 = 0 then vp_in 0 1 ∧ (if (M2029.2 59 o3 (0 : Int32).toNatClampNeg) = r2023 then ∀ n2316 : Int32, n2316 = x4 + Int32.ofInt (5) → wp_L_law_L33 t f o1 o2 o3 n2316 M2029 else (0 : Int32) = 1) else ∀ n2316 : Int32, n2316 = x4 + Int32.ofInt (5) → wp_L_law_L33 t f o1 o2 o3 n2316 M2029) else (0 : Int32) = 1)))) else (if ((gScX t x4.toNatClampNeg) &&& 63) = 37 then vp_in (x4 + 1) (gScL t) ∧ wp_L_missed t o1 (gScX t (x4 + 1).toNatClampNeg) o3 M (fun r2066 M2066 => vp_in (x4 + 1) (gScL t) ∧ wp_X9_missed o2 (gScX t (x4 + 1).toNatClampNeg) M2066 (fun r2078 M2078 => wp_X9_thrown o2 M2078 (fun r2084 M2084 => (if r2084 = r2066 then (if r2066 = 0 then vp_in 0 1 ∧ (if (M2084.2 59 o3 (0 : Int32).toNatClampNeg) = r2078.toInt64 then ∀ n2316 : Int32, n2316 = x4 + Int32.ofInt (5) → wp_L_law_L33 t f o1 o2 o3 n2316 M2084 else (0 : Int32) = 1) else ∀ n2316 : Int32, n2316 = x4 + Int32.ofInt (5) → wp_L_law_L33 t f o1 o2 o3 n2316 M2084) else (0 : Int32) = 1)))) else (if ((gScX t x4.toNatClampNeg) &&& 63) = 38 then vp_in (x4 + 1) (gScL t) ∧ wp_L_share t o1 (gScX t (x4 + 1).toNatClampNeg) o3 M (fun r2122 M2122 => vp_in (x4 + 1) (gScL t) ∧ wp_X9_share o2 (gScX t (x4 + 1).toNatClampNeg) M2122 (fun r2134 M2134 => wp_X9_thrown o2 M2134 (fun r2140 M2140 => (if r2140 = r2122 then (if r2122 = 0 then vp_in 0 1 ∧ (if (M2140.2 59 o3 (0 : Int32).toNatClampNeg) = r2134.toInt64 then ∀ n2316 : Int32, n2316 = x4 + Int32.ofInt (5) → wp_L_law_L33 t f o1 o2 o3 n2316 M2140 else (0 : Int32) = 1) else ∀ n2316 : Int32, n2316 = x4 + Int32.ofInt (5) → wp_L_law_L33 t f o1 o2 o3 n2316 M2140) else (0 : Int32) = 1)))) else (if ((gScX t x4.toNatClampNeg) &&& 63) = 39 then wp_L_checkpoint t o1 o3 M (fun r2172 M2172 => wp_X9_checkpoint o2 M2172 (fun r2178 M2178 => wp_X9_thrown o2 M2178 (fun r2184 M2184 => (if r2184 = r2172 then (if r2172 = 0 then vp_in 0 1 ∧ (if (M2184.2 59 o3 (0 : Int32).toNatClampNeg) = r2178.toInt64 then ∀ n2316 : Int32, n2316 = x4 + Int32.ofInt (5) → wp_L_law_L33 t f o1 o2 o3 n2316 M2184 else (0 : Int32) = 1) else ∀ n2316 : Int32, n2316 = x4 + Int32.ofInt (5) → wp_L_law_L33 t f o1 o2 o3 n2316 M2184) else (0 : Int32) = 1)))) else (if ((gScX t x4.toNatClampNeg) &&& 63) = 40 then wp_L_rollback t o1 o3 M (fun r2216 M2216 => wp_X9_rollback o2 M2216 (fun r2222 M2222 => wp_X9_thrown o2 M2222 (fun r2228 M2228 => (if r2228 = r2216 then (if r2216 = 0 then vp_in 0 1 ∧ (if (M2228.2 59 o3 (0 : Int32).toNatClampNeg) = r2222.toInt64 then ∀ n2316 : Int32, n2316 = x4 + Int32.ofInt (5) → wp_L_law_L33 t f o1 o2 o3 n2316 M2228 else (0 : Int32) = 1) else ∀ n2316 : Int32, n2316 = x4 + Int32.ofInt (5) → wp_L_law_L33 t f o1 o2 o3 n2316 M2228) else (0 : Int32) = 1)))) else (if ((gScX t x4.toNatClampNeg) &&& 63) = 41 then wp_L_commit t o1 o3 M (fun r2260 M2260 => wp_X9_commit o2 M2260 (fun r2266 M2266 => wp_X9_thrown o2 M2266 (fun r2272 M2272 => (if r2272 = r2260 then (if r2260 = 0 then vp_in 0 1 ∧ (if (M2272.2 59 o3 (0 : Int32).toNatClampNeg) = r2266.toInt64 then ∀ n2316 : Int32, n2316 = x4 + Int32.ofInt (5) → wp_L_law_L33 t f o1 o2 o3 n2316 M2272 else (0 : Int32) = 1) else ∀ n2316 : Int32, n2316 = x4 + Int32.ofInt (5) → wp_L_law_L33 t f o1 o2 o3 n2316 M2272) else (0 : Int32) = 1)))) else (if ((gScX t x4.toNatClampNeg) &&& 63) = 42 then wp_X8_fingerprint o1 M (fun r2303 M2303 => wp_X9_fingerprint o2 M2303 (fun r2307 M2307 => (if r2303 = r2307 then ∀ n2316 : Int32, n2316 = x4 + Int32.ofInt (5) → wp_L_law_L33 t f o1 o2 o3 n2316 M2307 else (0 : Int32) = 1))) else ∀ n2316 : Int32, n2316 = x4 + Int32.ofInt (5) → wp_L_law_L33 t f o1 o2 o3 n2316 M))))))))))))))))))))))))))))))))))))))))))))
