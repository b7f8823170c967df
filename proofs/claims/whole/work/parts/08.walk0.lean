theorem cal_X5_empty : g_Cal yX5_empty cX5_empty 1 (none) 0 := ⟨tw_3, tw_397, by decide, by decide, by decide +kernel⟩
theorem calv_X5_empty : g_CalV yX5_empty := ⟨tw_395, tw_396⟩
set_option maxRecDepth 100000 in
set_option maxHeartbeats 4000000 in
theorem ct_X5_empty {l : Launch} (hl : l.stackTraces = false) {t : gT} (hC : g_hC t) {o0 : Nat} (v0 : o0 < 6) {M : gM} {K : gM → Prop} (h : wp_X5_empty o0 M K) : Met l yX5_empty (g_y yX5_empty cX5_empty 1 (none)) rm_X5_empty (va_Pc [.ref (gAd t 5 o0)] (g_Pre t M)) (va_Qv K (g_B t) (g_A t)) rm_X5_empty.cells rm_X5_empty.slots (g_A t) := by
  refine g_met hl rfl (Nat.le_of_ble_eq_true rfl) (fun X hlX cx hQ => ?_)
  subst hlX
  refine gg_aload_n (pc := 0) cx 0 rfl dX5_empty_0 rfl ?_
  refine gg_iconst (pc := 1) cx (v := 0) dX5_empty_1 (by decide) ?_
  refine gp_Plan_nodeCount (pc := 2) cx (hC 5 _ rfl v0) tw_44 dX5_empty_2 ?_
  refine gg_mem (fun M2 eM2 => ?_)
  have h := h M2 eM2
  refine gg_aload_n (pc := 5) cx 0 rfl dX5_empty_5 rfl ?_
  refine gg_iconst (pc := 6) cx (v := 0) dX5_empty_6 (by decide) ?_
  refine gp_Plan_codeLength (pc := 7) cx (hC 5 _ rfl v0) tw_71 dX5_empty_7 ?_
  refine gg_mem (fun M7 eM7 => ?_)
  have h := h M7 eM7
  exact gg_vret (pc := 10) cx hQ h dX5_empty_10
theorem cal_X5_hasNode : g_Cal yX5_hasNode cX5_hasNode 2 (some .boolean) 1 := ⟨tw_3, tw_409, by decide, by decide, by decide +kernel⟩
theorem calv_X5_hasNode : g_CalV yX5_hasNode := ⟨tw_407, tw_408⟩
set_option maxRecDepth 100000 in
set_option maxHeartbeats 4000000 in
theorem ct_X5_hasNode {l : Launch} (hl : l.stackTraces = false) {t : gT} (hC : g_hC t) {o0 : Nat} {x1 : Int32} (v0 : o0 < 6) {M : gM} {K : Int32 → gM → Prop} (h : wp_X5_hasNode o0 x1 M K) : Met l yX5_hasNode (g_y yX5_hasNode cX5_hasNode 2 (some .boolean)) rm_X5_hasNode (va_Pc [.ref (gAd t 5 o0), .int x1] (g_Pre t M)) (va_Qi K (g_B t) (g_A t)) rm_X5_hasNode.cells rm_X5_hasNode.slots (g_A t) := by
  refine g_met hl rfl (Nat.le_of_ble_eq_true rfl) (fun X hlX cx hQ => ?_)
  subst hlX
  refine gg_iload_n (pc := 0) cx 1 rfl dX5_hasNode_0 rfl ?_
  refine gg_if_lt (pc := 1) cx (tgt := 22) dX5_hasNode_1 (by decide) (fun c1 => ?_) (fun c1 => ?_)
  · have h := g_it c1 h
    refine gg_iconst (pc := 22) cx (v := 0) dX5_hasNode_22 (by decide) ?_
    exact gg_zret (pc := 23) cx hQ rfl h dX5_hasNode_23
  · have h := g_if c1 h
    refine gg_iload_n (pc := 4) cx 1 rfl dX5_hasNode_4 rfl ?_
    refine gg_aload_n (pc := 5) cx 0 rfl dX5_hasNode_5 rfl ?_
    refine gf_Plan_nodeCount (pc := 6) cx (hC 5 _ rfl v0) tw_44 dX5_hasNode_6 ?_
    refine gg_icmp_ge (pc := 9) cx (tgt := 22) dX5_hasNode_9 (by decide) (fun c9 => ?_) (fun c9 => ?_)
    · have h := g_it c9 h
      refine gg_iconst (pc := 22) cx (v := 0) dX5_hasNode_22 (by decide) ?_
      exact gg_zret (pc := 23) cx hQ rfl h dX5_hasNode_23
    · have h := g_if c9 h
      refine gg_iload_n (pc := 12) cx 1 rfl dX5_hasNode_12 rfl ?_
      refine gg_bipush (pc := 13) cx (v := 12) dX5_hasNode_13 (by decide) ?_
      refine gg_icmp_ge (pc := 15) cx (tgt := 22) dX5_hasNode_15 (by decide) (fun c15 => ?_) (fun c15 => ?_)
      · have h := g_it c15 h
        refine gg_iconst (pc := 22) cx (v := 0) dX5_hasNode_22 (by decide) ?_
        exact gg_zret (pc := 23) cx hQ rfl h dX5_hasNode_23
      · have h := g_if c15 h
        refine gg_iconst (pc := 18) cx (v := 1) dX5_hasNode_18 (by decide) ?_
        refine gg_goto (pc := 19) cx (tgt := 23) dX5_hasNode_19 (by decide) ?_
        exact gg_zret (pc := 23) cx hQ rfl h dX5_hasNode_23
set_option maxRecDepth 100000 in
set_option maxHeartbeats 4000000 in
theorem wk_X5_addNode_b65 {t : gT} {X : gX} (cx : g_Cx t X cX5_addNode 3 RX5 (none)) (hC : g_hC t) {K : gM → Prop} (hQ : gXQ X = MQ (gXb X) (va_Qv K (g_B t) (g_A t)) (gXa X) (gXs X) rm_X5_addNode.cells rm_X5_addNode.slots (g_A t)) {o0 : Nat} {M : gM} (v0 : o0 < 6) (h : wp_X5_addNode_b65 K o0 M) : G t rm_X5_addNode X 3 0 0 M [(0, .ref (gAd t 5 o0))] [] 65 := by
  refine gg_aload_n (pc := 65) cx 0 rfl dX5_addNode_65 rfl ?_
  refine gg_dup (pc := 66) cx dX5_addNode_66 rfl ?_
  refine gf_Plan_nodeCount (pc := 67) cx (hC 5 _ rfl v0) tw_44 dX5_addNode_67 ?_
  refine gg_iconst (pc := 70) cx (v := 1) dX5_addNode_70 (by decide) ?_
  refine gg_iadd (pc := 71) cx dX5_addNode_71 ?_
  refine gp_Plan_nodeCount (pc := 72) cx (hC 5 _ rfl v0) tw_44 dX5_addNode_72 ?_
  refine gg_mem (fun M72 eM72 => ?_)
  have h := h M72 eM72
  exact gg_vret (pc := 75) cx hQ h dX5_addNode_75
theorem cal_X5_addNode : g_Cal yX5_addNode cX5_addNode 3 (none) 1 := ⟨tw_3, tw_405, by decide, by decide, by decide +kernel⟩
theorem calv_X5_addNode : g_CalV yX5_addNode := ⟨tw_403, tw_404⟩
set_option maxRecDepth 100000 in
set_option maxHeartbeats 4000000 in
theorem ct_X5_addNode {l : Launch} (hl : l.stackTraces = false) {t : gT} (hC : g_hC t) {o0 : Nat} {x1 : Int32} (v0 : o0 < 6) {M : gM} {K : gM → Prop} (h : wp_X5_addNode o0 x1 M K) : Met l yX5_addNode (g_y yX5_addNode cX5_addNode 3 (none)) rm_X5_addNode (va_Pc [.ref (gAd t 5 o0), .int x1] (g_Pre t M)) (va_Qv K (g_B t) (g_A t)) rm_X5_addNode.cells rm_X5_addNode.slots (g_A t) := by
  refine g_met hl rfl (Nat.le_of_ble_eq_true rfl) (fun X hlX cx hQ => ?_)
  subst hlX
  refine gg_aload_n (pc := 0) cx 0 rfl dX5_addNode_0 rfl ?_
  refine gf_Plan_nodeCount (pc := 1) cx (hC 5 _ rfl v0) tw_44 dX5_addNode_1 ?_
  refine gg_topi (fun n4 en4 => ?_)
  have h := h n4 en4
  refine gg_istore_n (pc := 4) cx [(2, .int n4), (0, .ref (gAd t 5 o0)), (1, .int x1)] dX5_addNode_4 rfl (by decide) rfl ?_
  refine gg_iload_n (pc := 5) cx 0 rfl dX5_addNode_5 rfl ?_
  refine gg_if_lt (pc := 6) cx (tgt := 15) dX5_addNode_6 (by decide) (fun c6 => ?_) (fun c6 => ?_)
  · have h := g_it c6 h
    exact gg_vret (pc := 15) cx hQ h dX5_addNode_15
  · have h := g_if c6 h
    refine gg_iload_n (pc := 9) cx 0 rfl dX5_addNode_9 rfl ?_
    refine gg_bipush (pc := 10) cx (v := 12) dX5_addNode_10 (by decide) ?_
    refine gg_icmp_lt (pc := 12) cx (tgt := 16) dX5_addNode_12 (by decide) (fun c12 => ?_) (fun c12 => ?_)
    · have h := g_it c12 h
      refine gg_aload_n (pc := 16) cx 1 rfl dX5_addNode_16 rfl ?_
      refine gf_Plan_parent (pc := 17) cx (hC 5 _ rfl v0) tw_46 dX5_addNode_17 ?_
      refine gg_iload_n (pc := 20) cx 0 rfl dX5_addNode_20 rfl ?_
      refine gg_iload_n (pc := 21) cx 2 rfl dX5_addNode_21 rfl ?_
      have q22 := h.1
      have h := h.2
      refine gg_iast (pc := 22) cx (hC 32 _ rfl v0) (fun _ _ => rfl) q22 dX5_addNode_22 ?_
      refine gg_mem (fun M22 eM22 => ?_)
      have h := h M22 eM22
      refine gg_aload_n (pc := 23) cx 1 rfl dX5_addNode_23 rfl ?_
      refine gf_Plan_childCount (pc := 24) cx (hC 5 _ rfl v0) tw_49 dX5_addNode_24 ?_
      refine gg_iload_n (pc := 27) cx 0 rfl dX5_addNode_27 rfl ?_
      refine gg_iconst (pc := 28) cx (v := 0) dX5_addNode_28 (by decide) ?_
      have q29 := h.1
      have h := h.2
      refine gg_iast (pc := 29) cx (hC 33 _ rfl v0) (fun _ _ => rfl) q29 dX5_addNode_29 ?_
      refine gg_mem (fun M29 eM29 => ?_)
      have h := h M29 eM29
      refine gg_aload_n (pc := 30) cx 1 rfl dX5_addNode_30 rfl ?_
      refine gf_Plan_rate (pc := 31) cx (hC 5 _ rfl v0) tw_55 dX5_addNode_31 ?_
      refine gg_iload_n (pc := 34) cx 0 rfl dX5_addNode_34 rfl ?_
      refine gg_iconst (pc := 35) cx (v := 0) dX5_addNode_35 (by decide) ?_
      have q36 := h.1
      have h := h.2
      refine gg_iast (pc := 36) cx (hC 35 _ rfl v0) (fun _ _ => rfl) q36 dX5_addNode_36 ?_
      refine gg_mem (fun M36 eM36 => ?_)
      have h := h M36 eM36
      refine gg_aload_n (pc := 37) cx 1 rfl dX5_addNode_37 rfl ?_
      refine gf_Plan_rankFrom (pc := 38) cx (hC 5 _ rfl v0) tw_61 dX5_addNode_38 ?_
      refine gg_iload_n (pc := 41) cx 0 rfl dX5_addNode_41 rfl ?_
      refine gg_aload_n (pc := 42) cx 1 rfl dX5_addNode_42 rfl ?_
      refine gf_Plan_codeLength (pc := 43) cx (hC 5 _ rfl v0) tw_71 dX5_addNode_43 ?_
      have q46 := h.1
      have h := h.2
      refine gg_iast (pc := 46) cx (hC 37 _ rfl v0) (fun _ _ => rfl) q46 dX5_addNode_46 ?_
      refine gg_mem (fun M46 eM46 => ?_)
      have h := h M46 eM46
      refine gg_aload_n (pc := 47) cx 1 rfl dX5_addNode_47 rfl ?_
      refine gg_iload_n (pc := 48) cx 2 rfl dX5_addNode_48 rfl ?_
      refine gg_callVi (pc := 49) cx cal_X5_hasNode calv_X5_hasNode (ct_X5_hasNode cx.tr hC v0 h) tw_406 (hC 5 _ rfl v0) rfl rfl rfl (st := []) rfl (Nat.le_of_ble_eq_true rfl) ⟨Nat.le_of_ble_eq_true rfl, Nat.le_of_ble_eq_true rfl⟩ ⟨Nat.le_of_ble_eq_true rfl, Nat.le_of_ble_eq_true rfl⟩ dX5_addNode_49 (fun r49 M49 h => ?_)
      refine gg_if_eq (pc := 52) cx (tgt := 65) dX5_addNode_52 (by decide) (fun c52 => ?_) (fun c52 => ?_)
      · have h := g_it c52 h
        refine gg_lv (lv' := [(0, .ref (gAd t 5 o0))]) [1] rfl ?_
        exact wk_X5_addNode_b65 cx hC hQ v0 h
      · have h := g_if c52 h
        refine gg_aload_n (pc := 55) cx 1 rfl dX5_addNode_55 rfl ?_
        refine gf_Plan_childCount (pc := 56) cx (hC 5 _ rfl v0) tw_49 dX5_addNode_56 ?_
        refine gg_iload_n (pc := 59) cx 2 rfl dX5_addNode_59 rfl ?_
        refine gg_dup2 (pc := 60) cx dX5_addNode_60 rfl rfl ?_
        have q61 := h.1
        have h := h.2
        refine gg_iald (pc := 61) cx (hC 33 _ rfl v0) rfl q61 dX5_addNode_61 ?_
        refine gg_iconst (pc := 62) cx (v := 1) dX5_addNode_62 (by decide) ?_
        refine gg_iadd (pc := 63) cx dX5_addNode_63 ?_
        have q64 := h.1
        have h := h.2
        refine gg_iast (pc := 64) cx (hC 33 _ rfl v0) (fun _ _ => rfl) q64 dX5_addNode_64 ?_
        refine gg_mem (fun M64 eM64 => ?_)
        have h := h M64 eM64
        refine gg_lv (lv' := [(0, .ref (gAd t 5 o0))]) [1] rfl ?_
        exact wk_X5_addNode_b65 cx hC hQ v0 h
    · have h := g_if c12 h
      exact gg_vret (pc := 15) cx hQ h dX5_addNode_15
theorem cal_X5_emit : g_Cal yX5_emit cX5_emit 2 (none) 1 := ⟨tw_3, tw_436, by decide, by decide, by decide +kernel⟩
theorem calv_X5_emit : g_CalV yX5_emit := ⟨tw_434, tw_435⟩
set_option maxRecDepth 100000 in
set_option maxHeartbeats 4000000 in
theorem ct_X5_emit {l : Launch} (hl : l.stackTraces = false) {t : gT} (hC : g_hC t) {o0 : Nat} {x1 : Int32} (v0 : o0 < 6) {M : gM} {K : gM → Prop} (h : wp_X5_emit o0 x1 M K) : Met l yX5_emit (g_y yX5_emit cX5_emit 2 (none)) rm_X5_emit (va_Pc [.ref (gAd t 5 o0), .int x1] (g_Pre t M)) (va_Qv K (g_B t) (g_A t)) rm_X5_emit.cells rm_X5_emit.slots (g_A t) := by
  refine g_met hl rfl (Nat.le_of_ble_eq_true rfl) (fun X hlX cx hQ => ?_)
  subst hlX
  refine gg_aload_n (pc := 0) cx 0 rfl dX5_emit_0 rfl ?_
  refine gf_Plan_codeLength (pc := 1) cx (hC 5 _ rfl v0) tw_71 dX5_emit_1 ?_
  refine gg_if_lt (pc := 4) cx (tgt := 39) dX5_emit_4 (by decide) (fun c4 => ?_) (fun c4 => ?_)
  · have h := g_it c4 h
    exact gg_vret (pc := 39) cx hQ h dX5_emit_39
  · have h := g_if c4 h
    refine gg_aload_n (pc := 7) cx 0 rfl dX5_emit_7 rfl ?_
    refine gf_Plan_codeLength (pc := 8) cx (hC 5 _ rfl v0) tw_71 dX5_emit_8 ?_
    refine gg_aload_n (pc := 11) cx 0 rfl dX5_emit_11 rfl ?_
    refine gf_Plan_code (pc := 12) cx (hC 5 _ rfl v0) tw_69 dX5_emit_12 ?_
    refine gg_alen (pc := 15) cx (ca := 0) (v := 120) (hC 40 _ rfl v0) rfl rfl rfl dX5_emit_15 ?_
    refine gg_icmp_ge (pc := 16) cx (tgt := 39) dX5_emit_16 (by decide) (fun c16 => ?_) (fun c16 => ?_)
    · have h := g_it c16 h
      exact gg_vret (pc := 39) cx hQ h dX5_emit_39
    · have h := g_if c16 h
      refine gg_aload_n (pc := 19) cx 0 rfl dX5_emit_19 rfl ?_
      refine gf_Plan_code (pc := 20) cx (hC 5 _ rfl v0) tw_69 dX5_emit_20 ?_
      refine gg_aload_n (pc := 23) cx 0 rfl dX5_emit_23 rfl ?_
      refine gf_Plan_codeLength (pc := 24) cx (hC 5 _ rfl v0) tw_71 dX5_emit_24 ?_
      refine gg_iload_n (pc := 27) cx 1 rfl dX5_emit_27 rfl ?_
      have q28 := h.1
      have h := h.2
      refine gg_iast (pc := 28) cx (hC 40 _ rfl v0) (fun _ _ => rfl) q28 dX5_emit_28 ?_
      refine gg_mem (fun M28 eM28 => ?_)
      have h := h M28 eM28
      refine gg_aload_n (pc := 29) cx 0 rfl dX5_emit_29 rfl ?_
      refine gg_dup (pc := 30) cx dX5_emit_30 rfl ?_
      refine gf_Plan_codeLength (pc := 31) cx (hC 5 _ rfl v0) tw_71 dX5_emit_31 ?_
      refine gg_iconst (pc := 34) cx (v := 1) dX5_emit_34 (by decide) ?_
      refine gg_iadd (pc := 35) cx dX5_emit_35 ?_
      refine gp_Plan_codeLength (pc := 36) cx (hC 5 _ rfl v0) tw_71 dX5_emit_36 ?_
      refine gg_mem (fun M36 eM36 => ?_)
      have h := h M36 eM36
      exact gg_vret (pc := 39) cx hQ h dX5_emit_39
theorem cal_X5_copyFrom : g_Cal yX5_copyFrom cX5_copyFrom 2 (none) 1 := ⟨tw_3, tw_536, by decide, by decide, by decide +kernel⟩
theorem calv_X5_copyFrom : g_CalV yX5_copyFrom := ⟨tw_534, tw_535⟩
set_option maxRecDepth 100000 in
set_option maxHeartbeats 4000000 in
theorem ct_X5_copyFrom {l : Launch} (hl : l.stackTraces = false) {t : gT} (hC : g_hC t) {o0 : Nat} {o1 : Nat} (v0 : o0 < 6) (v1 : o1 < 6) {M : gM} {K : gM → Prop} (h : wp_X5_copyFrom o0 o1 M K) : Met l yX5_copyFrom (g_y yX5_copyFrom cX5_copyFrom 2 (none)) rm_X5_copyFrom (va_Pc [.ref (gAd t 5 o0), .ref (gAd t 5 o1)] (g_Pre t M)) (va_Qv K (g_B t) (g_A t)) rm_X5_copyFrom.cells rm_X5_copyFrom.slots (g_A t) := by
  refine g_met hl rfl (Nat.le_of_ble_eq_true rfl) (fun X hlX cx hQ => ?_)
  subst hlX
  refine gg_aload_n (pc := 0) cx 0 rfl dX5_copyFrom_0 rfl ?_
  refine gg_aload_n (pc := 1) cx 1 rfl dX5_copyFrom_1 rfl ?_
  refine gf_Plan_nodeCount (pc := 2) cx (hC 5 _ rfl v1) tw_44 dX5_copyFrom_2 ?_
  refine gp_Plan_nodeCount (pc := 5) cx (hC 5 _ rfl v0) tw_44 dX5_copyFrom_5 ?_
  refine gg_mem (fun M5 eM5 => ?_)
  have h := h M5 eM5
  refine gg_aload_n (pc := 8) cx 0 rfl dX5_copyFrom_8 rfl ?_
  refine gg_aload_n (pc := 9) cx 1 rfl dX5_copyFrom_9 rfl ?_
  refine gf_Plan_codeLength (pc := 10) cx (hC 5 _ rfl v1) tw_71 dX5_copyFrom_10 ?_
  refine gp_Plan_codeLength (pc := 13) cx (hC 5 _ rfl v0) tw_71 dX5_copyFrom_13 ?_
  refine gg_mem (fun M13 eM13 => ?_)
  have h := h M13 eM13
  refine gg_aload_n (pc := 16) cx 1 rfl dX5_copyFrom_16 rfl ?_
  refine gf_Plan_parent (pc := 17) cx (hC 5 _ rfl v1) tw_46 dX5_copyFrom_17 ?_
  refine gg_iconst (pc := 20) cx (v := 0) dX5_copyFrom_20 (by decide) ?_
  refine gg_aload_n (pc := 21) cx 0 rfl dX5_copyFrom_21 rfl ?_
  refine gf_Plan_parent (pc := 22) cx (hC 5 _ rfl v0) tw_46 dX5_copyFrom_22 ?_
  refine gg_iconst (pc := 25) cx (v := 0) dX5_copyFrom_25 (by decide) ?_
  refine gg_bipush (pc := 26) cx (v := 12) dX5_copyFrom_26 (by decide) ?_
  obtain ⟨a28, b28, c28, d28, e28, h⟩ := h
  refine gg_copyI (pc := 28) cx g_wcpy tw_537 (hC 32 _ rfl v1) (hC 32 _ rfl v0) rfl (fun _ _ => rfl) a28 b28 c28 d28 e28 ⟨Nat.le_of_ble_eq_true rfl, Nat.le_of_ble_eq_true rfl⟩ dX5_copyFrom_28 ?_
  refine gg_mem (fun M28 eM28 => ?_)
  have h := h M28 eM28
  refine gg_aload_n (pc := 31) cx 1 rfl dX5_copyFrom_31 rfl ?_
  refine gf_Plan_childCount (pc := 32) cx (hC 5 _ rfl v1) tw_49 dX5_copyFrom_32 ?_
  refine gg_iconst (pc := 35) cx (v := 0) dX5_copyFrom_35 (by decide) ?_
  refine gg_aload_n (pc := 36) cx 0 rfl dX5_copyFrom_36 rfl ?_
  refine gf_Plan_childCount (pc := 37) cx (hC 5 _ rfl v0) tw_49 dX5_copyFrom_37 ?_
  refine gg_iconst (pc := 40) cx (v := 0) dX5_copyFrom_40 (by decide) ?_
  refine gg_bipush (pc := 41) cx (v := 12) dX5_copyFrom_41 (by decide) ?_
  obtain ⟨a43, b43, c43, d43, e43, h⟩ := h
  refine gg_copyI (pc := 43) cx g_wcpy tw_537 (hC 33 _ rfl v1) (hC 33 _ rfl v0) rfl (fun _ _ => rfl) a43 b43 c43 d43 e43 ⟨Nat.le_of_ble_eq_true rfl, Nat.le_of_ble_eq_true rfl⟩ dX5_copyFrom_43 ?_
  refine gg_mem (fun M43 eM43 => ?_)
  have h := h M43 eM43
  refine gg_aload_n (pc := 46) cx 1 rfl dX5_copyFrom_46 rfl ?_
  refine gf_Plan_tie (pc := 47) cx (hC 5 _ rfl v1) tw_51 dX5_copyFrom_47 ?_
  refine gg_iconst (pc := 50) cx (v := 0) dX5_copyFrom_50 (by decide) ?_
  refine gg_aload_n (pc := 51) cx 0 rfl dX5_copyFrom_51 rfl ?_
  refine gf_Plan_tie (pc := 52) cx (hC 5 _ rfl v0) tw_51 dX5_copyFrom_52 ?_
  refine gg_iconst (pc := 55) cx (v := 0) dX5_copyFrom_55 (by decide) ?_
  refine gg_bipush (pc := 56) cx (v := 12) dX5_copyFrom_56 (by decide) ?_
  obtain ⟨a58, b58, c58, d58, e58, h⟩ := h
  refine gg_copyI (pc := 58) cx g_wcpy tw_537 (hC 34 _ rfl v1) (hC 34 _ rfl v0) rfl (fun _ _ => rfl) a58 b58 c58 d58 e58 ⟨Nat.le_of_ble_eq_true rfl, Nat.le_of_ble_eq_true rfl⟩ dX5_copyFrom_58 ?_
  refine gg_mem (fun M58 eM58 => ?_)
  have h := h M58 eM58
  refine gg_aload_n (pc := 61) cx 1 rfl dX5_copyFrom_61 rfl ?_
  refine gf_Plan_rate (pc := 62) cx (hC 5 _ rfl v1) tw_55 dX5_copyFrom_62 ?_
  refine gg_iconst (pc := 65) cx (v := 0) dX5_copyFrom_65 (by decide) ?_
  refine gg_aload_n (pc := 66) cx 0 rfl dX5_copyFrom_66 rfl ?_
  refine gf_Plan_rate (pc := 67) cx (hC 5 _ rfl v0) tw_55 dX5_copyFrom_67 ?_
  refine gg_iconst (pc := 70) cx (v := 0) dX5_copyFrom_70 (by decide) ?_
  refine gg_bipush (pc := 71) cx (v := 12) dX5_copyFrom_71 (by decide) ?_
  obtain ⟨a73, b73, c73, d73, e73, h⟩ := h
  refine gg_copyI (pc := 73) cx g_wcpy tw_537 (hC 35 _ rfl v1) (hC 35 _ rfl v0) rfl (fun _ _ => rfl) a73 b73 c73 d73 e73 ⟨Nat.le_of_ble_eq_true rfl, Nat.le_of_ble_eq_true rfl⟩ dX5_copyFrom_73 ?_
  refine gg_mem (fun M73 eM73 => ?_)
  have h := h M73 eM73
  refine gg_aload_n (pc := 76) cx 1 rfl dX5_copyFrom_76 rfl ?_
  refine gf_Plan_burst (pc := 77) cx (hC 5 _ rfl v1) tw_58 dX5_copyFrom_77 ?_
  refine gg_iconst (pc := 80) cx (v := 0) dX5_copyFrom_80 (by decide) ?_
  refine gg_aload_n (pc := 81) cx 0 rfl dX5_copyFrom_81 rfl ?_
  refine gf_Plan_burst (pc := 82) cx (hC 5 _ rfl v0) tw_58 dX5_copyFrom_82 ?_
  refine gg_iconst (pc := 85) cx (v := 0) dX5_copyFrom_85 (by decide) ?_
  refine gg_bipush (pc := 86) cx (v := 12) dX5_copyFrom_86 (by decide) ?_
  obtain ⟨a88, b88, c88, d88, e88, h⟩ := h
  refine gg_copyI (pc := 88) cx g_wcpy tw_537 (hC 36 _ rfl v1) (hC 36 _ rfl v0) rfl (fun _ _ => rfl) a88 b88 c88 d88 e88 ⟨Nat.le_of_ble_eq_true rfl, Nat.le_of_ble_eq_true rfl⟩ dX5_copyFrom_88 ?_
  refine gg_mem (fun M88 eM88 => ?_)
  have h := h M88 eM88
  refine gg_aload_n (pc := 91) cx 1 rfl dX5_copyFrom_91 rfl ?_
  refine gf_Plan_rankFrom (pc := 92) cx (hC 5 _ rfl v1) tw_61 dX5_copyFrom_92 ?_
  refine gg_iconst (pc := 95) cx (v := 0) dX5_copyFrom_95 (by decide) ?_
  refine gg_aload_n (pc := 96) cx 0 rfl dX5_copyFrom_96 rfl ?_
  refine gf_Plan_rankFrom (pc := 97) cx (hC 5 _ rfl v0) tw_61 dX5_copyFrom_97 ?_
  refine gg_iconst (pc := 100) cx (v := 0) dX5_copyFrom_100 (by decide) ?_
  refine gg_bipush (pc := 101) cx (v := 12) dX5_copyFrom_101 (by decide) ?_
  obtain ⟨a103, b103, c103, d103, e103, h⟩ := h
  refine gg_copyI (pc := 103) cx g_wcpy tw_537 (hC 37 _ rfl v1) (hC 37 _ rfl v0) rfl (fun _ _ => rfl) a103 b103 c103 d103 e103 ⟨Nat.le_of_ble_eq_true rfl, Nat.le_of_ble_eq_true rfl⟩ dX5_copyFrom_103 ?_
  refine gg_mem (fun M103 eM103 => ?_)
  have h := h M103 eM103
  refine gg_aload_n (pc := 106) cx 1 rfl dX5_copyFrom_106 rfl ?_
  refine gf_Plan_stateFrom (pc := 107) cx (hC 5 _ rfl v1) tw_63 dX5_copyFrom_107 ?_
  refine gg_iconst (pc := 110) cx (v := 0) dX5_copyFrom_110 (by decide) ?_
  refine gg_aload_n (pc := 111) cx 0 rfl dX5_copyFrom_111 rfl ?_
  refine gf_Plan_stateFrom (pc := 112) cx (hC 5 _ rfl v0) tw_63 dX5_copyFrom_112 ?_
  refine gg_iconst (pc := 115) cx (v := 0) dX5_copyFrom_115 (by decide) ?_
  refine gg_bipush (pc := 116) cx (v := 12) dX5_copyFrom_116 (by decide) ?_
  obtain ⟨a118, b118, c118, d118, e118, h⟩ := h
  refine gg_copyI (pc := 118) cx g_wcpy tw_537 (hC 38 _ rfl v1) (hC 38 _ rfl v0) rfl (fun _ _ => rfl) a118 b118 c118 d118 e118 ⟨Nat.le_of_ble_eq_true rfl, Nat.le_of_ble_eq_true rfl⟩ dX5_copyFrom_118 ?_
  refine gg_mem (fun M118 eM118 => ?_)
  have h := h M118 eM118
  refine gg_aload_n (pc := 121) cx 1 rfl dX5_copyFrom_121 rfl ?_
  refine gf_Plan_programEnd (pc := 122) cx (hC 5 _ rfl v1) tw_66 dX5_copyFrom_122 ?_
  refine gg_iconst (pc := 125) cx (v := 0) dX5_copyFrom_125 (by decide) ?_
  refine gg_aload_n (pc := 126) cx 0 rfl dX5_copyFrom_126 rfl ?_
  refine gf_Plan_programEnd (pc := 127) cx (hC 5 _ rfl v0) tw_66 dX5_copyFrom_127 ?_
  refine gg_iconst (pc := 130) cx (v := 0) dX5_copyFrom_130 (by decide) ?_
  refine gg_bipush (pc := 131) cx (v := 12) dX5_copyFrom_131 (by decide) ?_
  obtain ⟨a133, b133, c133, d133, e133, h⟩ := h
  refine gg_copyI (pc := 133) cx g_wcpy tw_537 (hC 39 _ rfl v1) (hC 39 _ rfl v0) rfl (fun _ _ => rfl) a133 b133 c133 d133 e133 ⟨Nat.le_of_ble_eq_true rfl, Nat.le_of_ble_eq_true rfl⟩ dX5_copyFrom_133 ?_
  refine gg_mem (fun M133 eM133 => ?_)
  have h := h M133 eM133
  refine gg_aload_n (pc := 136) cx 1 rfl dX5_copyFrom_136 rfl ?_
  refine gf_Plan_code (pc := 137) cx (hC 5 _ rfl v1) tw_69 dX5_copyFrom_137 ?_
  refine gg_iconst (pc := 140) cx (v := 0) dX5_copyFrom_140 (by decide) ?_
  refine gg_aload_n (pc := 141) cx 0 rfl dX5_copyFrom_141 rfl ?_
  refine gf_Plan_code (pc := 142) cx (hC 5 _ rfl v0) tw_69 dX5_copyFrom_142 ?_
  refine gg_iconst (pc := 145) cx (v := 0) dX5_copyFrom_145 (by decide) ?_
  refine gg_bipush (pc := 146) cx (v := 120) dX5_copyFrom_146 (by decide) ?_
  obtain ⟨a148, b148, c148, d148, e148, h⟩ := h
  refine gg_copyI (pc := 148) cx g_wcpy tw_537 (hC 40 _ rfl v1) (hC 40 _ rfl v0) rfl (fun _ _ => rfl) a148 b148 c148 d148 e148 ⟨Nat.le_of_ble_eq_true rfl, Nat.le_of_ble_eq_true rfl⟩ dX5_copyFrom_148 ?_
  refine gg_mem (fun M148 eM148 => ?_)
  have h := h M148 eM148
  exact gg_vret (pc := 151) cx hQ h dX5_copyFrom_151
set_option maxRecDepth 100000 in
set_option maxHeartbeats 4000000 in
theorem wk_X3_restart_L22 {t : gT} {X : gX} (cx : g_Cx t X cX3_restart 2 RX3 (none)) (hC : g_hC t) {K : gM → Prop} (hQ : gXQ X = MQ (gXb X) (va_Qv K (g_B t) (g_A t)) (gXa X) (gXs X) rm_X3_restart.cells rm_X3_restart.slots (g_A t)) (f : Nat) : ∀ (o0 : Nat) (x1 : Int32) (M : gM), o0 < 60 → wp_X3_restart_L22 K f o0 x1 M → G t rm_X3_restart X 2 0 0 M [(0, .ref (gAd t 3 o0)), (1, .int x1)] [] 22 := by
  induction f with
  | zero => intro _ _ _ _ _; exact False.elim (by assumption)
  | succ f ih =>
    intro o0 x1 M v0 h
    refine gg_iload_n (pc := 22) cx 1 rfl dX3_restart_22 rfl ?_
    refine gg_aload_n (pc := 23) cx 0 rfl dX3_restart_23 rfl ?_
    refine gf_Node_states (pc := 24) cx (hC 3 _ rfl v0) tw_265 dX3_restart_24 ?_
    refine gg_alen (pc := 27) cx (ca := 1) (v := 16) (hC 22 _ rfl v0) rfl rfl rfl dX3_restart_27 ?_
    refine gg_icmp_ge (pc := 28) cx (tgt := 44) dX3_restart_28 (by decide) (fun c28 => ?_) (fun c28 => ?_)
    · have h := g_it c28 h
      exact gg_vret (pc := 44) cx hQ h dX3_restart_44
    · have h := g_if c28 h
      refine gg_aload_n (pc := 31) cx 0 rfl dX3_restart_31 rfl ?_
      refine gf_Node_states (pc := 32) cx (hC 3 _ rfl v0) tw_265 dX3_restart_32 ?_
      refine gg_iload_n (pc := 35) cx 1 rfl dX3_restart_35 rfl ?_
      refine gg_lconst (pc := 36) cx (v := 0) dX3_restart_36 (by decide) ?_
      have q37 := h.1
      have h := h.2
      refine gg_last (pc := 37) cx (hC 22 _ rfl v0) (fun _ _ => rfl) q37 dX3_restart_37 ?_
      refine gg_mem (fun M37 eM37 => ?_)
      have h := h M37 eM37
      obtain ⟨n38, en38⟩ : ∃ z : Int32, z = x1 + Int32.ofInt (1) := ⟨_, rfl⟩
      have h := h n38 en38
      refine gg_iinc (pc := 38) cx 1 [(1, .int n38), (0, .ref (gAd t 3 o0))] dX3_restart_38 rfl en38.symm (by decide) rfl ?_
      refine gg_goto (pc := 41) cx (tgt := 22) dX3_restart_41 (by decide) ?_
      refine gg_lv (lv' := [(0, .ref (gAd t 3 o0)), (1, .int n38)]) [1, 0] rfl ?_
      exact ih o0 n38 M37 v0 h
theorem cal_X3_restart : g_Cal yX3_restart cX3_restart 2 (none) 0 := ⟨tw_9, tw_543, by decide, by decide, by decide +kernel⟩
theorem calv_X3_restart : g_CalV yX3_restart := ⟨tw_541, tw_542⟩
set_option maxRecDepth 100000 in
set_option maxHeartbeats 4000000 in
theorem ct_X3_restart {l : Launch} (hl : l.stackTraces = false) {t : gT} (hC : g_hC t) {o0 : Nat} (v0 : o0 < 60) {M : gM} {K : gM → Prop} (h : wp_X3_restart o0 M K) : Met l yX3_restart (g_y yX3_restart cX3_restart 2 (none)) rm_X3_restart (va_Pc [.ref (gAd t 3 o0)] (g_Pre t M)) (va_Qv K (g_B t) (g_A t)) rm_X3_restart.cells rm_X3_restart.slots (g_A t) := by
  refine g_met hl rfl (Nat.le_of_ble_eq_true rfl) (fun X hlX cx hQ => ?_)
  subst hlX
  refine gg_aload_n (pc := 0) cx 0 rfl dX3_restart_0 rfl ?_
  refine gg_iconst (pc := 1) cx (v := 1) dX3_restart_1 (by decide) ?_
  refine gp_Node_weight (pc := 2) cx (hC 3 _ rfl v0) tw_257 dX3_restart_2 ?_
  refine gg_mem (fun M2 eM2 => ?_)
  have h := h M2 eM2
  refine gg_aload_n (pc := 5) cx 0 rfl dX3_restart_5 rfl ?_
  refine gg_lconst (pc := 6) cx (v := 0) dX3_restart_6 (by decide) ?_
  refine gp_Node_virtual (pc := 7) cx (hC 3 _ rfl v0) tw_260 dX3_restart_7 ?_
  refine gg_mem (fun M7 eM7 => ?_)
  have h := h M7 eM7
  refine gg_aload_n (pc := 10) cx 0 rfl dX3_restart_10 rfl ?_
  refine gg_lconst (pc := 11) cx (v := 0) dX3_restart_11 (by decide) ?_
  refine gp_Node_mark (pc := 12) cx (hC 3 _ rfl v0) tw_263 dX3_restart_12 ?_
  refine gg_mem (fun M12 eM12 => ?_)
  have h := h M12 eM12
  refine gg_aload_n (pc := 15) cx 0 rfl dX3_restart_15 rfl ?_
  refine gg_iconst (pc := 16) cx (v := 0) dX3_restart_16 (by decide) ?_
  refine gp_Node_size (pc := 17) cx (hC 3 _ rfl v0) tw_268 dX3_restart_17 ?_
  refine gg_mem (fun M17 eM17 => ?_)
  have h := h M17 eM17
  refine gg_iconst (pc := 20) cx (v := 0) dX3_restart_20 (by decide) ?_
  refine gg_istore_n (pc := 21) cx [(1, .int 0), (0, .ref (gAd t 3 o0))] dX3_restart_21 rfl (by decide) rfl ?_
  refine gg_lv (lv' := [(0, .ref (gAd t 3 o0)), (1, .int 0)]) [1, 0] rfl ?_
  obtain ⟨f22, h⟩ := h
  exact wk_X3_restart_L22 cx hC hQ f22 o0 0 M17 v0 h
theorem cal_X5_isLeaf : g_Cal yX5_isLeaf cX5_isLeaf 2 (some .boolean) 1 := ⟨tw_3, tw_551, by decide, by decide, by decide +kernel⟩
theorem calv_X5_isLeaf : g_CalV yX5_isLeaf := ⟨tw_549, tw_550⟩
set_option maxRecDepth 100000 in
set_option maxHeartbeats 4000000 in
theorem ct_X5_isLeaf {l : Launch} (hl : l.stackTraces = false) {t : gT} (hC : g_hC t) {o0 : Nat} {x1 : Int32} (v0 : o0 < 6) {M : gM} {K : Int32 → gM → Prop} (h : wp_X5_isLeaf o0 x1 M K) : Met l yX5_isLeaf (g_y yX5_isLeaf cX5_isLeaf 2 (some .boolean)) rm_X5_isLeaf (va_Pc [.ref (gAd t 5 o0), .int x1] (g_Pre t M)) (va_Qi K (g_B t) (g_A t)) rm_X5_isLeaf.cells rm_X5_isLeaf.slots (g_A t) := by
  refine g_met hl rfl (Nat.le_of_ble_eq_true rfl) (fun X hlX cx hQ => ?_)
  subst hlX
  refine gg_iload_n (pc := 0) cx 1 rfl dX5_isLeaf_0 rfl ?_
  refine gg_if_lt (pc := 1) cx (tgt := 31) dX5_isLeaf_1 (by decide) (fun c1 => ?_) (fun c1 => ?_)
  · have h := g_it c1 h
    refine gg_iconst (pc := 31) cx (v := 0) dX5_isLeaf_31 (by decide) ?_
    exact gg_zret (pc := 32) cx hQ rfl h dX5_isLeaf_32
  · have h := g_if c1 h
    refine gg_iload_n (pc := 4) cx 1 rfl dX5_isLeaf_4 rfl ?_
    refine gg_aload_n (pc := 5) cx 0 rfl dX5_isLeaf_5 rfl ?_
    refine gf_Plan_nodeCount (pc := 6) cx (hC 5 _ rfl v0) tw_44 dX5_isLeaf_6 ?_
    refine gg_icmp_ge (pc := 9) cx (tgt := 31) dX5_isLeaf_9 (by decide) (fun c9 => ?_) (fun c9 => ?_)
    · have h := g_it c9 h
      refine gg_iconst (pc := 31) cx (v := 0) dX5_isLeaf_31 (by decide) ?_
      exact gg_zret (pc := 32) cx hQ rfl h dX5_isLeaf_32
    · have h := g_if c9 h
      refine gg_iload_n (pc := 12) cx 1 rfl dX5_isLeaf_12 rfl ?_
      refine gg_bipush (pc := 13) cx (v := 12) dX5_isLeaf_13 (by decide) ?_
      refine gg_icmp_ge (pc := 15) cx (tgt := 31) dX5_isLeaf_15 (by decide) (fun c15 => ?_) (fun c15 => ?_)
      · have h := g_it c15 h
        refine gg_iconst (pc := 31) cx (v := 0) dX5_isLeaf_31 (by decide) ?_
        exact gg_zret (pc := 32) cx hQ rfl h dX5_isLeaf_32
      · have h := g_if c15 h
        refine gg_aload_n (pc := 18) cx 0 rfl dX5_isLeaf_18 rfl ?_
        refine gf_Plan_childCount (pc := 19) cx (hC 5 _ rfl v0) tw_49 dX5_isLeaf_19 ?_
        refine gg_iload_n (pc := 22) cx 1 rfl dX5_isLeaf_22 rfl ?_
        have q23 := h.1
        have h := h.2
        refine gg_iald (pc := 23) cx (hC 33 _ rfl v0) rfl q23 dX5_isLeaf_23 ?_
        refine gg_if_ne (pc := 24) cx (tgt := 31) dX5_isLeaf_24 (by decide) (fun c24 => ?_) (fun c24 => ?_)
        · have h := g_if c24 h
          refine gg_iconst (pc := 31) cx (v := 0) dX5_isLeaf_31 (by decide) ?_
          exact gg_zret (pc := 32) cx hQ rfl h dX5_isLeaf_32
        · have h := g_it c24 h
          refine gg_iconst (pc := 27) cx (v := 1) dX5_isLeaf_27 (by decide) ?_
          refine gg_goto (pc := 28) cx (tgt := 32) dX5_isLeaf_28 (by decide) ?_
          exact gg_zret (pc := 32) cx hQ rfl h dX5_isLeaf_32
set_option maxRecDepth 100000 in
set_option maxHeartbeats 4000000 in
theorem wk_X5_firstLeaf_L2 {t : gT} {X : gX} (cx : g_Cx t X cX5_firstLeaf 2 RX5 (some .int)) (hC : g_hC t) {K : Int32 → gM → Prop} (hQ : gXQ X = MQ (gXb X) (va_Qi K (g_B t) (g_A t)) (gXa X) (gXs X) rm_X5_firstLeaf.cells rm_X5_firstLeaf.slots (g_A t)) (f : Nat) : ∀ (o0 : Nat) (x1 : Int32) (M : gM), o0 < 6 → wp_X5_firstLeaf_L2 K f o0 x1 M → G t rm_X5_firstLeaf X 2 0 0 M [(0, .ref (gAd t 5 o0)), (1, .int x1)] [] 2 := by
  induction f with
  | zero => intro _ _ _ _ _; exact False.elim (by assumption)
  | succ f ih =>
    intro o0 x1 M v0 h
    refine gg_iload_n (pc := 2) cx 1 rfl dX5_firstLeaf_2 rfl ?_
    refine gg_aload_n (pc := 3) cx 0 rfl dX5_firstLeaf_3 rfl ?_
    refine gf_Plan_nodeCount (pc := 4) cx (hC 5 _ rfl v0) tw_44 dX5_firstLeaf_4 ?_
    refine gg_icmp_ge (pc := 7) cx (tgt := 24) dX5_firstLeaf_7 (by decide) (fun c7 => ?_) (fun c7 => ?_)
    · have h := g_it c7 h
      refine gg_iload_n (pc := 24) cx 1 rfl dX5_firstLeaf_24 rfl ?_
      exact gg_iret (pc := 25) cx hQ h dX5_firstLeaf_25
    · have h := g_if c7 h
      refine gg_aload_n (pc := 10) cx 0 rfl dX5_firstLeaf_10 rfl ?_
      refine gg_iload_n (pc := 11) cx 1 rfl dX5_firstLeaf_11 rfl ?_
      refine gg_callVi (pc := 12) cx cal_X5_isLeaf calv_X5_isLeaf (ct_X5_isLeaf cx.tr hC v0 h) tw_548 (hC 5 _ rfl v0) rfl rfl rfl (st := []) rfl (Nat.le_of_ble_eq_true rfl) ⟨Nat.le_of_ble_eq_true rfl, Nat.le_of_ble_eq_true rfl⟩ ⟨Nat.le_of_ble_eq_true rfl, Nat.le_of_ble_eq_true rfl⟩ dX5_firstLeaf_12 (fun r12 M12 h => ?_)
      refine gg_if_ne (pc := 15) cx (tgt := 24) dX5_firstLeaf_15 (by decide) (fun c15 => ?_) (fun c15 => ?_)
      · have h := g_if c15 h
        refine gg_iload_n (pc := 24) cx 1 rfl dX5_firstLeaf_24 rfl ?_
        exact gg_iret (pc := 25) cx hQ h dX5_firstLeaf_25
      · have h := g_it c15 h
        obtain ⟨n18, en18⟩ : ∃ z : Int32, z = x1 + Int32.ofInt (1) := ⟨_, rfl⟩
        have h := h n18 en18
        refine gg_iinc (pc := 18) cx 1 [(1, .int n18), (0, .ref (gAd t 5 o0))] dX5_firstLeaf_18 rfl en18.symm (by decide) rfl ?_
        refine gg_goto (pc := 21) cx (tgt := 2) dX5_firstLeaf_21 (by decide) ?_
        refine gg_lv (lv' := [(0, .ref (gAd t 5 o0)), (1, .int n18)]) [1, 0] rfl ?_
        exact ih o0 n18 M12 v0 h
theorem cal_X5_firstLeaf : g_Cal yX5_firstLeaf cX5_firstLeaf 2 (some .int) 0 := ⟨tw_3, tw_547, by decide, by decide, by decide +kernel⟩
theorem calv_X5_firstLeaf : g_CalV yX5_firstLeaf := ⟨tw_545, tw_546⟩
set_option maxRecDepth 100000 in
set_option maxHeartbeats 4000000 in
theorem ct_X5_firstLeaf {l : Launch} (hl : l.stackTraces = false) {t : gT} (hC : g_hC t) {o0 : Nat} (v0 : o0 < 6) {M : gM} {K : Int32 → gM → Prop} (h : wp_X5_firstLeaf o0 M K) : Met l yX5_firstLeaf (g_y yX5_firstLeaf cX5_firstLeaf 2 (some .int)) rm_X5_firstLeaf (va_Pc [.ref (gAd t 5 o0)] (g_Pre t M)) (va_Qi K (g_B t) (g_A t)) rm_X5_firstLeaf.cells rm_X5_firstLeaf.slots (g_A t) := by
  refine g_met hl rfl (Nat.le_of_ble_eq_true rfl) (fun X hlX cx hQ => ?_)
  subst hlX
  refine gg_iconst (pc := 0) cx (v := 0) dX5_firstLeaf_0 (by decide) ?_
  refine gg_istore_n (pc := 1) cx [(1, .int 0), (0, .ref (gAd t 5 o0))] dX5_firstLeaf_1 rfl (by decide) rfl ?_
  refine gg_lv (lv' := [(0, .ref (gAd t 5 o0)), (1, .int 0)]) [1, 0] rfl ?_
  obtain ⟨f2, h⟩ := h
  exact wk_X5_firstLeaf_L2 cx hC hQ f2 o0 0 M v0 h
set_option maxRecDepth 100000 in
set_option maxHeartbeats 4000000 in
theorem wk_X1_restart_L2 {t : gT} {X : gX} (cx : g_Cx t X cX1_restart 3 RX1 (none)) (hC : g_hC t) {K : gM → Prop} (hQ : gXQ X = MQ (gXb X) (va_Qv K (g_B t) (g_A t)) (gXa X) (gXs X) rm_X1_restart.cells rm_X1_restart.slots (g_A t)) (f : Nat) : ∀ (o0 : Nat) (x1 : Int32) (x2 : Int32) (M : gM), o0 < 5 → wp_X1_restart_L2 K f o0 x1 x2 M → G t rm_X1_restart X 3 0 0 M [(0, .ref (gAd t 1 o0)), (1, .int x1), (2, .int x2)] [] 2 := by
  induction f with
  | zero => intro _ _ _ _ _ _; exact False.elim (by assumption)
  | succ f ih =>
    intro o0 x1 x2 M v0 h
    refine gg_iload_n (pc := 2) cx 2 rfl dX1_restart_2 rfl ?_
    refine gg_bipush (pc := 3) cx (v := 16) dX1_restart_3 (by decide) ?_
    refine gg_icmp_ge (pc := 5) cx (tgt := 56) dX1_restart_5 (by decide) (fun c5 => ?_) (fun c5 => ?_)
    · have h := g_it c5 h
      exact gg_vret (pc := 56) cx hQ h dX1_restart_56
    · have h := g_if c5 h
      refine gg_aload_n (pc := 8) cx 0 rfl dX1_restart_8 rfl ?_
      refine gf_Flows_leaf (pc := 9) cx (hC 1 _ rfl v0) tw_200 dX1_restart_9 ?_
      refine gg_iload_n (pc := 12) cx 2 rfl dX1_restart_12 rfl ?_
      refine gg_iload_n (pc := 13) cx 1 rfl dX1_restart_13 rfl ?_
      have q14 := h.1
      have h := h.2
      refine gg_iast (pc := 14) cx (hC 13 _ rfl v0) (fun _ _ => rfl) q14 dX1_restart_14 ?_
      refine gg_mem (fun M14 eM14 => ?_)
      have h := h M14 eM14
      refine gg_aload_n (pc := 15) cx 0 rfl dX1_restart_15 rfl ?_
      refine gf_Flows_packetsSent (pc := 16) cx (hC 1 _ rfl v0) tw_203 dX1_restart_16 ?_
      refine gg_iload_n (pc := 19) cx 2 rfl dX1_restart_19 rfl ?_
      refine gg_iconst (pc := 20) cx (v := 0) dX1_restart_20 (by decide) ?_
      have q21 := h.1
      have h := h.2
      refine gg_iast (pc := 21) cx (hC 14 _ rfl v0) (fun _ _ => rfl) q21 dX1_restart_21 ?_
      refine gg_mem (fun M21 eM21 => ?_)
      have h := h M21 eM21
      refine gg_aload_n (pc := 22) cx 0 rfl dX1_restart_22 rfl ?_
      refine gf_Flows_bytesSent (pc := 23) cx (hC 1 _ rfl v0) tw_205 dX1_restart_23 ?_
      refine gg_iload_n (pc := 26) cx 2 rfl dX1_restart_26 rfl ?_
      refine gg_iconst (pc := 27) cx (v := 0) dX1_restart_27 (by decide) ?_
      have q28 := h.1
      have h := h.2
      refine gg_iast (pc := 28) cx (hC 15 _ rfl v0) (fun _ _ => rfl) q28 dX1_restart_28 ?_
      refine gg_mem (fun M28 eM28 => ?_)
      have h := h M28 eM28
      refine gg_aload_n (pc := 29) cx 0 rfl dX1_restart_29 rfl ?_
      refine gf_Flows_delaySum (pc := 30) cx (hC 1 _ rfl v0) tw_207 dX1_restart_30 ?_
      refine gg_iload_n (pc := 33) cx 2 rfl dX1_restart_33 rfl ?_
      refine gg_lconst (pc := 34) cx (v := 0) dX1_restart_34 (by decide) ?_
      have q35 := h.1
      have h := h.2
      refine gg_last (pc := 35) cx (hC 16 _ rfl v0) (fun _ _ => rfl) q35 dX1_restart_35 ?_
      refine gg_mem (fun M35 eM35 => ?_)
      have h := h M35 eM35
      refine gg_aload_n (pc := 36) cx 0 rfl dX1_restart_36 rfl ?_
      refine gf_Flows_delayMaximum (pc := 37) cx (hC 1 _ rfl v0) tw_209 dX1_restart_37 ?_
      refine gg_iload_n (pc := 40) cx 2 rfl dX1_restart_40 rfl ?_
      refine gg_lconst (pc := 41) cx (v := 0) dX1_restart_41 (by decide) ?_
      have q42 := h.1
      have h := h.2
      refine gg_last (pc := 42) cx (hC 17 _ rfl v0) (fun _ _ => rfl) q42 dX1_restart_42 ?_
      refine gg_mem (fun M42 eM42 => ?_)
      have h := h M42 eM42
      refine gg_aload_n (pc := 43) cx 0 rfl dX1_restart_43 rfl ?_
      refine gf_Flows_late (pc := 44) cx (hC 1 _ rfl v0) tw_211 dX1_restart_44 ?_
      refine gg_iload_n (pc := 47) cx 2 rfl dX1_restart_47 rfl ?_
      refine gg_iconst (pc := 48) cx (v := 0) dX1_restart_48 (by decide) ?_
      have q49 := h.1
      have h := h.2
      refine gg_iast (pc := 49) cx (hC 18 _ rfl v0) (fun _ _ => rfl) q49 dX1_restart_49 ?_
      refine gg_mem (fun M49 eM49 => ?_)
      have h := h M49 eM49
      obtain ⟨n50, en50⟩ : ∃ z : Int32, z = x2 + Int32.ofInt (1) := ⟨_, rfl⟩
      have h := h n50 en50
      refine gg_iinc (pc := 50) cx 2 [(2, .int n50), (0, .ref (gAd t 1 o0)), (1, .int x1)] dX1_restart_50 rfl en50.symm (by decide) rfl ?_
      refine gg_goto (pc := 53) cx (tgt := 2) dX1_restart_53 (by decide) ?_
      refine gg_lv (lv' := [(0, .ref (gAd t 1 o0)), (1, .int x1), (2, .int n50)]) [1, 2, 0] rfl ?_
      exact ih o0 x1 n50 M49 v0 h
theorem cal_X1_restart : g_Cal yX1_restart cX1_restart 3 (none) 1 := ⟨tw_7, tw_555, by decide, by decide, by decide +kernel⟩
theorem calv_X1_restart : g_CalV yX1_restart := ⟨tw_553, tw_554⟩
set_option maxRecDepth 100000 in
set_option maxHeartbeats 4000000 in
theorem ct_X1_restart {l : Launch} (hl : l.stackTraces = false) {t : gT} (hC : g_hC t) {o0 : Nat} {x1 : Int32} (v0 : o0 < 5) {M : gM} {K : gM → Prop} (h : wp_X1_restart o0 x1 M K) : Met l yX1_restart (g_y yX1_restart cX1_restart 3 (none)) rm_X1_restart (va_Pc [.ref (gAd t 1 o0), .int x1] (g_Pre t M)) (va_Qv K (g_B t) (g_A t)) rm_X1_restart.cells rm_X1_restart.slots (g_A t) := by
  refine g_met hl rfl (Nat.le_of_ble_eq_true rfl) (fun X hlX cx hQ => ?_)
  subst hlX
  refine gg_iconst (pc := 0) cx (v := 0) dX1_restart_0 (by decide) ?_
  refine gg_istore_n (pc := 1) cx [(2, .int 0), (0, .ref (gAd t 1 o0)), (1, .int x1)] dX1_restart_1 rfl (by decide) rfl ?_
  refine gg_lv (lv' := [(0, .ref (gAd t 1 o0)), (1, .int x1), (2, .int 0)]) [1, 2, 0] rfl ?_
  obtain ⟨f2, h⟩ := h
  exact wk_X1_restart_L2 cx hC hQ f2 o0 x1 0 M v0 h
theorem cal_X4_add : g_Cal yX4_add cX4_add 9 (some .int) 5 := ⟨tw_6, tw_977, by decide, by decide, by decide +kernel⟩
theorem calv_X4_add : g_CalV yX4_add := ⟨tw_975, tw_976⟩
set_option maxRecDepth 100000 in
set_option maxHeartbeats 4000000 in
theorem ct_X4_add {l : Launch} (hl : l.stackTraces = false) {t : gT} (hC : g_hC t) {o0 : Nat} {x1 : Int32} {x2 : Int32} {x3 : Int32} {y4 : Int64} {y6 : Int64} (v0 : o0 < 5) {M : gM} {K : Int32 → gM → Prop} (h : wp_X4_add o0 x1 x2 x3 y4 y6 M K) : Met l yX4_add (g_y yX4_add cX4_add 9 (some .int)) rm_X4_add (va_Pc [.ref (gAd t 4 o0), .int x1, .int x2, .int x3, .long y4, .long y6] (g_Pre t M)) (va_Qi K (g_B t) (g_A t)) rm_X4_add.cells rm_X4_add.slots (g_A t) := by
  refine g_met hl rfl (Nat.le_of_ble_eq_true rfl) (fun X hlX cx hQ => ?_)
  subst hlX
  refine gg_aload_n (pc := 0) cx 0 rfl dX4_add_0 rfl ?_
  refine gf_Packets_arrived (pc := 1) cx (hC 4 _ rfl v0) tw_158 dX4_add_1 ?_
  refine gg_topi (fun n4 en4 => ?_)
  have h := h n4 en4
  refine gg_istore (pc := 4) cx [(8, .int n4), (0, .ref (gAd t 4 o0)), (1, .int x1), (2, .int x2), (3, .int x3), (4, .long y4), (6, .long y6)] dX4_add_4 (by decide) rfl ?_
  refine gg_iload (pc := 6) cx 0 rfl dX4_add_6 ?_
  refine gg_if_lt (pc := 8) cx (tgt := 19) dX4_add_8 (by decide) (fun c8 => ?_) (fun c8 => ?_)
  · have h := g_it c8 h
    refine gg_iconst (pc := 19) cx (v := (-1)) dX4_add_19 (by decide) ?_
    exact gg_iret (pc := 20) cx hQ h dX4_add_20
  · have h := g_if c8 h
    refine gg_iload (pc := 11) cx 0 rfl dX4_add_11 ?_
    refine gg_sipush (pc := 13) cx (v := 500) dX4_add_13 (by decide) ?_
    refine gg_icmp_lt (pc := 16) cx (tgt := 21) dX4_add_16 (by decide) (fun c16 => ?_) (fun c16 => ?_)
    · have h := g_it c16 h
      refine gg_aload_n (pc := 21) cx 1 rfl dX4_add_21 rfl ?_
      refine gf_Packets_flow (pc := 22) cx (hC 4 _ rfl v0) tw_161 dX4_add_22 ?_
      refine gg_iload (pc := 25) cx 0 rfl dX4_add_25 ?_
      refine gg_iload_n (pc := 27) cx 2 rfl dX4_add_27 rfl ?_
      have q28 := h.1
      have h := h.2
      refine gg_iast (pc := 28) cx (hC 26 _ rfl v0) (fun _ _ => rfl) q28 dX4_add_28 ?_
      refine gg_mem (fun M28 eM28 => ?_)
      have h := h M28 eM28
      refine gg_aload_n (pc := 29) cx 1 rfl dX4_add_29 rfl ?_
      refine gf_Packets_length (pc := 30) cx (hC 4 _ rfl v0) tw_164 dX4_add_30 ?_
      refine gg_iload (pc := 33) cx 0 rfl dX4_add_33 ?_
      refine gg_iload_n (pc := 35) cx 3 rfl dX4_add_35 rfl ?_
      have q36 := h.1
      have h := h.2
      refine gg_iast (pc := 36) cx (hC 27 _ rfl v0) (fun _ _ => rfl) q36 dX4_add_36 ?_
      refine gg_mem (fun M36 eM36 => ?_)
      have h := h M36 eM36
      refine gg_aload_n (pc := 37) cx 1 rfl dX4_add_37 rfl ?_
      refine gf_Packets_priority (pc := 38) cx (hC 4 _ rfl v0) tw_166 dX4_add_38 ?_
      refine gg_iload (pc := 41) cx 0 rfl dX4_add_41 ?_
      refine gg_iload_n (pc := 43) cx 4 rfl dX4_add_43 rfl ?_
      have q44 := h.1
      have h := h.2
      refine gg_iast (pc := 44) cx (hC 28 _ rfl v0) (fun _ _ => rfl) q44 dX4_add_44 ?_
      refine gg_mem (fun M44 eM44 => ?_)
      have h := h M44 eM44
      refine gg_aload_n (pc := 45) cx 1 rfl dX4_add_45 rfl ?_
      refine gf_Packets_arrival (pc := 46) cx (hC 4 _ rfl v0) tw_168 dX4_add_46 ?_
      refine gg_iload (pc := 49) cx 0 rfl dX4_add_49 ?_
      refine gg_lload (pc := 51) cx 5 rfl dX4_add_51 ?_
      have q53 := h.1
      have h := h.2
      refine gg_last (pc := 53) cx (hC 29 _ rfl v0) (fun _ _ => rfl) q53 dX4_add_53 ?_
      refine gg_mem (fun M53 eM53 => ?_)
      have h := h M53 eM53
      refine gg_aload_n (pc := 54) cx 1 rfl dX4_add_54 rfl ?_
      refine gf_Packets_deadline (pc := 55) cx (hC 4 _ rfl v0) tw_170 dX4_add_55 ?_
      refine gg_iload (pc := 58) cx 0 rfl dX4_add_58 ?_
      refine gg_lload (pc := 60) cx 6 rfl dX4_add_60 ?_
      have q62 := h.1
      have h := h.2
      refine gg_last (pc := 62) cx (hC 30 _ rfl v0) (fun _ _ => rfl) q62 dX4_add_62 ?_
      refine gg_mem (fun M62 eM62 => ?_)
      have h := h M62 eM62
      refine gg_aload_n (pc := 63) cx 1 rfl dX4_add_63 rfl ?_
      refine gf_Packets_departure (pc := 64) cx (hC 4 _ rfl v0) tw_173 dX4_add_64 ?_
      refine gg_iload (pc := 67) cx 0 rfl dX4_add_67 ?_
      refine gg_ldc2 (pc := 69) cx (v := (-1)) tw_978 dX4_add_69 ?_
      have q72 := h.1
      have h := h.2
      refine gg_last (pc := 72) cx (hC 31 _ rfl v0) (fun _ _ => rfl) q72 dX4_add_72 ?_
      refine gg_mem (fun M72 eM72 => ?_)
      have h := h M72 eM72
      refine gg_aload_n (pc := 73) cx 1 rfl dX4_add_73 rfl ?_
      refine gg_dup (pc := 74) cx dX4_add_74 rfl ?_
      refine gf_Packets_arrived (pc := 75) cx (hC 4 _ rfl v0) tw_158 dX4_add_75 ?_
      refine gg_iconst (pc := 78) cx (v := 1) dX4_add_78 (by decide) ?_
      refine gg_iadd (pc := 79) cx dX4_add_79 ?_
      refine gp_Packets_arrived (pc := 80) cx (hC 4 _ rfl v0) tw_158 dX4_add_80 ?_
      refine gg_mem (fun M80 eM80 => ?_)
      have h := h M80 eM80
      refine gg_iload (pc := 83) cx 0 rfl dX4_add_83 ?_
      exact gg_iret (pc := 85) cx hQ h dX4_add_85
    · have h := g_if c16 h
      refine gg_iconst (pc := 19) cx (v := (-1)) dX4_add_19 (by decide) ?_
      exact gg_iret (pc := 20) cx hQ h dX4_add_20
theorem cal_X4_has : g_Cal yX4_has cX4_has 2 (some .boolean) 1 := ⟨tw_6, tw_628, by decide, by decide, by decide +kernel⟩
theorem calv_X4_has : g_CalV yX4_has := ⟨tw_626, tw_627⟩
set_option maxRecDepth 100000 in
set_option maxHeartbeats 4000000 in
theorem ct_X4_has {l : Launch} (hl : l.stackTraces = false) {t : gT} (hC : g_hC t) {o0 : Nat} {x1 : Int32} (v0 : o0 < 5) {M : gM} {K : Int32 → gM → Prop} (h : wp_X4_has o0 x1 M K) : Met l yX4_has (g_y yX4_has cX4_has 2 (some .boolean)) rm_X4_has (va_Pc [.ref (gAd t 4 o0), .int x1] (g_Pre t M)) (va_Qi K (g_B t) (g_A t)) rm_X4_has.cells rm_X4_has.slots (g_A t) := by
  refine g_met hl rfl (Nat.le_of_ble_eq_true rfl) (fun X hlX cx hQ => ?_)
  subst hlX
  refine gg_iload_n (pc := 0) cx 1 rfl dX4_has_0 rfl ?_
  refine gg_if_lt (pc := 1) cx (tgt := 23) dX4_has_1 (by decide) (fun c1 => ?_) (fun c1 => ?_)
  · have h := g_it c1 h
    refine gg_iconst (pc := 23) cx (v := 0) dX4_has_23 (by decide) ?_
    exact gg_zret (pc := 24) cx hQ rfl h dX4_has_24
  · have h := g_if c1 h
    refine gg_iload_n (pc := 4) cx 1 rfl dX4_has_4 rfl ?_
    refine gg_aload_n (pc := 5) cx 0 rfl dX4_has_5 rfl ?_
    refine gf_Packets_arrived (pc := 6) cx (hC 4 _ rfl v0) tw_158 dX4_has_6 ?_
    refine gg_icmp_ge (pc := 9) cx (tgt := 23) dX4_has_9 (by decide) (fun c9 => ?_) (fun c9 => ?_)
    · have h := g_it c9 h
      refine gg_iconst (pc := 23) cx (v := 0) dX4_has_23 (by decide) ?_
      exact gg_zret (pc := 24) cx hQ rfl h dX4_has_24
    · have h := g_if c9 h
      refine gg_iload_n (pc := 12) cx 1 rfl dX4_has_12 rfl ?_
      refine gg_sipush (pc := 13) cx (v := 500) dX4_has_13 (by decide) ?_
      refine gg_icmp_ge (pc := 16) cx (tgt := 23) dX4_has_16 (by decide) (fun c16 => ?_) (fun c16 => ?_)
      · have h := g_it c16 h
        refine gg_iconst (pc := 23) cx (v := 0) dX4_has_23 (by decide) ?_
        exact gg_zret (pc := 24) cx hQ rfl h dX4_has_24
      · have h := g_if c16 h
        refine gg_iconst (pc := 19) cx (v := 1) dX4_has_19 (by decide) ?_
        refine gg_goto (pc := 20) cx (tgt := 24) dX4_has_20 (by decide) ?_
        exact gg_zret (pc := 24) cx hQ rfl h dX4_has_24
theorem cal_X0_setPacket : g_Cal yX0_setPacket cX0_setPacket 7 (none) 3 := ⟨tw_4, tw_670, by decide, by decide, by decide +kernel⟩
theorem calv_X0_setPacket : g_CalV yX0_setPacket := ⟨tw_668, tw_669⟩
set_option maxRecDepth 100000 in
set_option maxHeartbeats 4000000 in
theorem ct_X0_setPacket {l : Launch} (hl : l.stackTraces = false) {t : gT} (hC : g_hC t) {o0 : Nat} {y1 : Int64} {y3 : Int64} {y5 : Int64} (v0 : o0 < 1) {M : gM} {K : gM → Prop} (h : wp_X0_setPacket o0 y1 y3 y5 M K) : Met l yX0_setPacket (g_y yX0_setPacket cX0_setPacket 7 (none)) rm_X0_setPacket (va_Pc [.ref (gAd t 0 o0), .long y1, .long y3, .long y5] (g_Pre t M)) (va_Qv K (g_B t) (g_A t)) rm_X0_setPacket.cells rm_X0_setPacket.slots (g_A t) := by
  refine g_met hl rfl (Nat.le_of_ble_eq_true rfl) (fun X hlX cx hQ => ?_)
  subst hlX
  refine gg_aload_n (pc := 0) cx 0 rfl dX0_setPacket_0 rfl ?_
  refine gf_Calculator_values (pc := 1) cx (hC 0 _ rfl v0) tw_135 dX0_setPacket_1 ?_
  refine gg_iconst (pc := 4) cx (v := 0) dX0_setPacket_4 (by decide) ?_
  refine gg_lload_n (pc := 5) cx 1 rfl dX0_setPacket_5 rfl ?_
  have q6 := h.1
  have h := h.2
  refine gg_last (pc := 6) cx (hC 10 _ rfl v0) (fun _ _ => rfl) q6 dX0_setPacket_6 ?_
  refine gg_mem (fun M6 eM6 => ?_)
  have h := h M6 eM6
  refine gg_aload_n (pc := 7) cx 0 rfl dX0_setPacket_7 rfl ?_
  refine gf_Calculator_values (pc := 8) cx (hC 0 _ rfl v0) tw_135 dX0_setPacket_8 ?_
  refine gg_iconst (pc := 11) cx (v := 1) dX0_setPacket_11 (by decide) ?_
  refine gg_lload_n (pc := 12) cx 2 rfl dX0_setPacket_12 rfl ?_
  have q13 := h.1
  have h := h.2
  refine gg_last (pc := 13) cx (hC 10 _ rfl v0) (fun _ _ => rfl) q13 dX0_setPacket_13 ?_
  refine gg_mem (fun M13 eM13 => ?_)
  have h := h M13 eM13
  refine gg_aload_n (pc := 14) cx 0 rfl dX0_setPacket_14 rfl ?_
  refine gf_Calculator_values (pc := 15) cx (hC 0 _ rfl v0) tw_135 dX0_setPacket_15 ?_
  refine gg_iconst (pc := 18) cx (v := 2) dX0_setPacket_18 (by decide) ?_
  refine gg_lload (pc := 19) cx 3 rfl dX0_setPacket_19 ?_
  have q21 := h.1
  have h := h.2
  refine gg_last (pc := 21) cx (hC 10 _ rfl v0) (fun _ _ => rfl) q21 dX0_setPacket_21 ?_
  refine gg_mem (fun M21 eM21 => ?_)
  have h := h M21 eM21
  exact gg_vret (pc := 22) cx hQ h dX0_setPacket_22
theorem cal_X5_hasClass : g_Cal yX5_hasClass cX5_hasClass 3 (some .boolean) 2 := ⟨tw_3, tw_682, by decide, by decide, by decide +kernel⟩
theorem calv_X5_hasClass : g_CalV yX5_hasClass := ⟨tw_680, tw_681⟩
set_option maxRecDepth 100000 in
set_option maxHeartbeats 4000000 in
theorem ct_X5_hasClass {l : Launch} (hl : l.stackTraces = false) {t : gT} (hC : g_hC t) {o0 : Nat} {x1 : Int32} {x2 : Int32} (v0 : o0 < 6) {M : gM} {K : Int32 → gM → Prop} (h : wp_X5_hasClass o0 x1 x2 M K) : Met l yX5_hasClass (g_y yX5_hasClass cX5_hasClass 3 (some .boolean)) rm_X5_hasClass (va_Pc [.ref (gAd t 5 o0), .int x1, .int x2] (g_Pre t M)) (va_Qi K (g_B t) (g_A t)) rm_X5_hasClass.cells rm_X5_hasClass.slots (g_A t) := by
  refine g_met hl rfl (Nat.le_of_ble_eq_true rfl) (fun X hlX cx hQ => ?_)
  subst hlX
  refine gg_aload_n (pc := 0) cx 0 rfl dX5_hasClass_0 rfl ?_
  refine gg_iload_n (pc := 1) cx 1 rfl dX5_hasClass_1 rfl ?_
  refine gg_callVi (pc := 2) cx cal_X5_isLeaf calv_X5_isLeaf (ct_X5_isLeaf cx.tr hC v0 h) tw_548 (hC 5 _ rfl v0) rfl rfl rfl (st := []) rfl (Nat.le_of_ble_eq_true rfl) ⟨Nat.le_of_ble_eq_true rfl, Nat.le_of_ble_eq_true rfl⟩ ⟨Nat.le_of_ble_eq_true rfl, Nat.le_of_ble_eq_true rfl⟩ dX5_hasClass_2 (fun r2 M2 h => ?_)
  refine gg_if_eq (pc := 5) cx (tgt := 24) dX5_hasClass_5 (by decide) (fun c5 => ?_) (fun c5 => ?_)
  · have h := g_it c5 h
    refine gg_aload_n (pc := 24) cx 0 rfl dX5_hasClass_24 rfl ?_
    refine gg_iload_n (pc := 25) cx 1 rfl dX5_hasClass_25 rfl ?_
    refine gg_callVi (pc := 26) cx cal_X5_hasNode calv_X5_hasNode (ct_X5_hasNode cx.tr hC v0 h) tw_406 (hC 5 _ rfl v0) rfl rfl rfl (st := []) rfl (Nat.le_of_ble_eq_true rfl) ⟨Nat.le_of_ble_eq_true rfl, Nat.le_of_ble_eq_true rfl⟩ ⟨Nat.le_of_ble_eq_true rfl, Nat.le_of_ble_eq_true rfl⟩ dX5_hasClass_26 (fun r26 M26 h => ?_)
    refine gg_if_eq (pc := 29) cx (tgt := 54) dX5_hasClass_29 (by decide) (fun c29 => ?_) (fun c29 => ?_)
    · have h := g_it c29 h
      refine gg_iconst (pc := 54) cx (v := 0) dX5_hasClass_54 (by decide) ?_
      exact gg_zret (pc := 55) cx hQ rfl h dX5_hasClass_55
    · have h := g_if c29 h
      refine gg_aload_n (pc := 32) cx 0 rfl dX5_hasClass_32 rfl ?_
      refine gg_iload_n (pc := 33) cx 2 rfl dX5_hasClass_33 rfl ?_
      refine gg_callVi (pc := 34) cx cal_X5_hasNode calv_X5_hasNode (ct_X5_hasNode cx.tr hC v0 h) tw_406 (hC 5 _ rfl v0) rfl rfl rfl (st := []) rfl (Nat.le_of_ble_eq_true rfl) ⟨Nat.le_of_ble_eq_true rfl, Nat.le_of_ble_eq_true rfl⟩ ⟨Nat.le_of_ble_eq_true rfl, Nat.le_of_ble_eq_true rfl⟩ dX5_hasClass_34 (fun r34 M34 h => ?_)
      refine gg_if_eq (pc := 37) cx (tgt := 54) dX5_hasClass_37 (by decide) (fun c37 => ?_) (fun c37 => ?_)
      · have h := g_it c37 h
        refine gg_iconst (pc := 54) cx (v := 0) dX5_hasClass_54 (by decide) ?_
        exact gg_zret (pc := 55) cx hQ rfl h dX5_hasClass_55
      · have h := g_if c37 h
        refine gg_aload_n (pc := 40) cx 0 rfl dX5_hasClass_40 rfl ?_
        refine gf_Plan_parent (pc := 41) cx (hC 5 _ rfl v0) tw_46 dX5_hasClass_41 ?_
        refine gg_iload_n (pc := 44) cx 2 rfl dX5_hasClass_44 rfl ?_
        have q45 := h.1
        have h := h.2
        refine gg_iald (pc := 45) cx (hC 32 _ rfl v0) rfl q45 dX5_hasClass_45 ?_
        refine gg_iload_n (pc := 46) cx 1 rfl dX5_hasClass_46 rfl ?_
        refine gg_icmp_ne (pc := 47) cx (tgt := 54) dX5_hasClass_47 (by decide) (fun c47 => ?_) (fun c47 => ?_)
        · have h := g_if c47 h
          refine gg_iconst (pc := 54) cx (v := 0) dX5_hasClass_54 (by decide) ?_
          exact gg_zret (pc := 55) cx hQ rfl h dX5_hasClass_55
        · have h := g_it c47 h
          refine gg_iconst (pc := 50) cx (v := 1) dX5_hasClass_50 (by decide) ?_
          refine gg_goto (pc := 51) cx (tgt := 55) dX5_hasClass_51 (by decide) ?_
          exact gg_zret (pc := 55) cx hQ rfl h dX5_hasClass_55
  · have h := g_if c5 h
    refine gg_iload_n (pc := 8) cx 2 rfl dX5_hasClass_8 rfl ?_
    refine gg_if_lt (pc := 9) cx (tgt := 22) dX5_hasClass_9 (by decide) (fun c9 => ?_) (fun c9 => ?_)
    · have h := g_it c9 h
      refine gg_iconst (pc := 22) cx (v := 0) dX5_hasClass_22 (by decide) ?_
      exact gg_zret (pc := 23) cx hQ rfl h dX5_hasClass_23
    · have h := g_if c9 h
      refine gg_iload_n (pc := 12) cx 2 rfl dX5_hasClass_12 rfl ?_
      refine gg_bipush (pc := 13) cx (v := 16) dX5_hasClass_13 (by decide) ?_
      refine gg_icmp_ge (pc := 15) cx (tgt := 22) dX5_hasClass_15 (by decide) (fun c15 => ?_) (fun c15 => ?_)
      · have h := g_it c15 h
        refine gg_iconst (pc := 22) cx (v := 0) dX5_hasClass_22 (by decide) ?_
        exact gg_zret (pc := 23) cx hQ rfl h dX5_hasClass_23
      · have h := g_if c15 h
        refine gg_iconst (pc := 18) cx (v := 1) dX5_hasClass_18 (by decide) ?_
        refine gg_goto (pc := 19) cx (tgt := 23) dX5_hasClass_19 (by decide) ?_
        exact gg_zret (pc := 23) cx hQ rfl h dX5_hasClass_23
theorem cal_X0_setClass : g_Cal yX0_setClass cX0_setClass 7 (none) 3 := ⟨tw_4, tw_686, by decide, by decide, by decide +kernel⟩
theorem calv_X0_setClass : g_CalV yX0_setClass := ⟨tw_684, tw_685⟩
set_option maxRecDepth 100000 in
set_option maxHeartbeats 4000000 in
theorem ct_X0_setClass {l : Launch} (hl : l.stackTraces = false) {t : gT} (hC : g_hC t) {o0 : Nat} {y1 : Int64} {y3 : Int64} {y5 : Int64} (v0 : o0 < 1) {M : gM} {K : gM → Prop} (h : wp_X0_setClass o0 y1 y3 y5 M K) : Met l yX0_setClass (g_y yX0_setClass cX0_setClass 7 (none)) rm_X0_setClass (va_Pc [.ref (gAd t 0 o0), .long y1, .long y3, .long y5] (g_Pre t M)) (va_Qv K (g_B t) (g_A t)) rm_X0_setClass.cells rm_X0_setClass.slots (g_A t) := by
  refine g_met hl rfl (Nat.le_of_ble_eq_true rfl) (fun X hlX cx hQ => ?_)
  subst hlX
  refine gg_aload_n (pc := 0) cx 0 rfl dX0_setClass_0 rfl ?_
  refine gf_Calculator_values (pc := 1) cx (hC 0 _ rfl v0) tw_135 dX0_setClass_1 ?_
  refine gg_iconst (pc := 4) cx (v := 3) dX0_setClass_4 (by decide) ?_
  refine gg_lload_n (pc := 5) cx 1 rfl dX0_setClass_5 rfl ?_
  have q6 := h.1
  have h := h.2
  refine gg_last (pc := 6) cx (hC 10 _ rfl v0) (fun _ _ => rfl) q6 dX0_setClass_6 ?_
  refine gg_mem (fun M6 eM6 => ?_)
  have h := h M6 eM6
  refine gg_aload_n (pc := 7) cx 0 rfl dX0_setClass_7 rfl ?_
  refine gf_Calculator_values (pc := 8) cx (hC 0 _ rfl v0) tw_135 dX0_setClass_8 ?_
  refine gg_iconst (pc := 11) cx (v := 4) dX0_setClass_11 (by decide) ?_
  refine gg_lload_n (pc := 12) cx 2 rfl dX0_setClass_12 rfl ?_
  have q13 := h.1
  have h := h.2
  refine gg_last (pc := 13) cx (hC 10 _ rfl v0) (fun _ _ => rfl) q13 dX0_setClass_13 ?_
  refine gg_mem (fun M13 eM13 => ?_)
  have h := h M13 eM13
  refine gg_aload_n (pc := 14) cx 0 rfl dX0_setClass_14 rfl ?_
  refine gf_Calculator_values (pc := 15) cx (hC 0 _ rfl v0) tw_135 dX0_setClass_15 ?_
  refine gg_iconst (pc := 18) cx (v := 5) dX0_setClass_18 (by decide) ?_
  refine gg_lload (pc := 19) cx 3 rfl dX0_setClass_19 ?_
  have q21 := h.1
  have h := h.2
  refine gg_last (pc := 21) cx (hC 10 _ rfl v0) (fun _ _ => rfl) q21 dX0_setClass_21 ?_
  refine gg_mem (fun M21 eM21 => ?_)
  have h := h M21 eM21
  exact gg_vret (pc := 22) cx hQ h dX0_setClass_22
theorem cal_X0_setMoment : g_Cal yX0_setMoment cX0_setMoment 7 (none) 3 := ⟨tw_4, tw_690, by decide, by decide, by decide +kernel⟩
theorem calv_X0_setMoment : g_CalV yX0_setMoment := ⟨tw_688, tw_689⟩
set_option maxRecDepth 100000 in
set_option maxHeartbeats 4000000 in
theorem ct_X0_setMoment {l : Launch} (hl : l.stackTraces = false) {t : gT} (hC : g_hC t) {o0 : Nat} {y1 : Int64} {y3 : Int64} {y5 : Int64} (v0 : o0 < 1) {M : gM} {K : gM → Prop} (h : wp_X0_setMoment o0 y1 y3 y5 M K) : Met l yX0_setMoment (g_y yX0_setMoment cX0_setMoment 7 (none)) rm_X0_setMoment (va_Pc [.ref (gAd t 0 o0), .long y1, .long y3, .long y5] (g_Pre t M)) (va_Qv K (g_B t) (g_A t)) rm_X0_setMoment.cells rm_X0_setMoment.slots (g_A t) := by
  refine g_met hl rfl (Nat.le_of_ble_eq_true rfl) (fun X hlX cx hQ => ?_)
  subst hlX
  refine gg_aload_n (pc := 0) cx 0 rfl dX0_setMoment_0 rfl ?_
  refine gf_Calculator_values (pc := 1) cx (hC 0 _ rfl v0) tw_135 dX0_setMoment_1 ?_
  refine gg_bipush (pc := 4) cx (v := 6) dX0_setMoment_4 (by decide) ?_
  refine gg_lload_n (pc := 6) cx 1 rfl dX0_setMoment_6 rfl ?_
  have q7 := h.1
  have h := h.2
  refine gg_last (pc := 7) cx (hC 10 _ rfl v0) (fun _ _ => rfl) q7 dX0_setMoment_7 ?_
  refine gg_mem (fun M7 eM7 => ?_)
  have h := h M7 eM7
  refine gg_aload_n (pc := 8) cx 0 rfl dX0_setMoment_8 rfl ?_
  refine gf_Calculator_values (pc := 9) cx (hC 0 _ rfl v0) tw_135 dX0_setMoment_9 ?_
  refine gg_bipush (pc := 12) cx (v := 7) dX0_setMoment_12 (by decide) ?_
  refine gg_lload_n (pc := 14) cx 2 rfl dX0_setMoment_14 rfl ?_
  have q15 := h.1
  have h := h.2
  refine gg_last (pc := 15) cx (hC 10 _ rfl v0) (fun _ _ => rfl) q15 dX0_setMoment_15 ?_
  refine gg_mem (fun M15 eM15 => ?_)
  have h := h M15 eM15
  refine gg_aload_n (pc := 16) cx 0 rfl dX0_setMoment_16 rfl ?_
  refine gf_Calculator_values (pc := 17) cx (hC 0 _ rfl v0) tw_135 dX0_setMoment_17 ?_
  refine gg_bipush (pc := 20) cx (v := 8) dX0_setMoment_20 (by decide) ?_
  refine gg_lload (pc := 22) cx 3 rfl dX0_setMoment_22 ?_
  have q24 := h.1
  have h := h.2
  refine gg_last (pc := 24) cx (hC 10 _ rfl v0) (fun _ _ => rfl) q24 dX0_setMoment_24 ?_
  refine gg_mem (fun M24 eM24 => ?_)
  have h := h M24 eM24
  exact gg_vret (pc := 25) cx hQ h dX0_setMoment_25
theorem cal_X0_combine : g_Cal yX0_combine cX0_combine 5 (some .long) 3 := ⟨tw_4, tw_697, by decide, by decide, by decide +kernel⟩
set_option maxRecDepth 100000 in
set_option maxHeartbeats 4000000 in
theorem ct_X0_combine {l : Launch} (hl : l.stackTraces = false) {t : gT} (hC : g_hC t) {x0 : Int32} {y1 : Int64} {y3 : Int64}  {M : gM} {K : Int64 → gM → Prop} (h : wp_X0_combine x0 y1 y3 M K) : Met l yX0_combine (g_y yX0_combine cX0_combine 5 (some .long)) rm_X0_combine (va_Pc [.int x0, .long y1, .long y3] (g_Pre t M)) (va_Ql K (g_B t) (g_A t)) rm_X0_combine.cells rm_X0_combine.slots (g_A t) := by
  refine g_met hl rfl (Nat.le_of_ble_eq_true rfl) (fun X hlX cx hQ => ?_)
  subst hlX
  refine gg_iload_n (pc := 0) cx 0 rfl dX0_combine_0 rfl ?_
  by_cases c1_42 : x0 = 42
  · have h := g_it c1_42 h
    refine gg_swv c1_42 ?_
    refine gg_lookup (pc := 1) cx (off := 59) (tgt := 60) dX0_combine_1 (by decide) (by decide) (by decide) ?_
    refine gg_lload_n (pc := 60) cx 1 rfl dX0_combine_60 rfl ?_
    refine gg_lload_n (pc := 61) cx 2 rfl dX0_combine_61 rfl ?_
    refine gg_lmul (pc := 62) cx dX0_combine_62 ?_
    exact gg_lret (pc := 63) cx hQ h dX0_combine_63
  have h := g_if c1_42 h
  by_cases c1_43 : x0 = 43
  · have h := g_it c1_43 h
    refine gg_swv c1_43 ?_
    refine gg_lookup (pc := 1) cx (off := 51) (tgt := 52) dX0_combine_1 (by decide) (by decide) (by decide) ?_
    refine gg_lload_n (pc := 52) cx 1 rfl dX0_combine_52 rfl ?_
    refine gg_lload_n (pc := 53) cx 2 rfl dX0_combine_53 rfl ?_
    refine gg_ladd (pc := 54) cx dX0_combine_54 ?_
    exact gg_lret (pc := 55) cx hQ h dX0_combine_55
  have h := g_if c1_43 h
  by_cases c1_45 : x0 = 45
  · have h := g_it c1_45 h
    refine gg_swv c1_45 ?_
    refine gg_lookup (pc := 1) cx (off := 55) (tgt := 56) dX0_combine_1 (by decide) (by decide) (by decide) ?_
    refine gg_lload_n (pc := 56) cx 1 rfl dX0_combine_56 rfl ?_
    refine gg_lload_n (pc := 57) cx 2 rfl dX0_combine_57 rfl ?_
    refine gg_lsub (pc := 58) cx dX0_combine_58 ?_
    exact gg_lret (pc := 59) cx hQ h dX0_combine_59
  have h := g_if c1_45 h
  by_cases c1_47 : x0 = 47
  · have h := g_it c1_47 h
    refine gg_swv c1_47 ?_
    refine gg_lookup (pc := 1) cx (off := 63) (tgt := 64) dX0_combine_1 (by decide) (by decide) (by decide) ?_
    refine gg_lload_n (pc := 64) cx 2 rfl dX0_combine_64 rfl ?_
    refine gg_lconst (pc := 65) cx (v := 0) dX0_combine_65 (by decide) ?_
    refine gg_lcmp_ne (pc := 66) cx (tgt := 74) dX0_combine_66 dX0_combine_67 (by decide) (fun c66 => ?_) (fun c66 => ?_)
    · have h := g_if c66 h
      refine gg_lload_n (pc := 74) cx 1 rfl dX0_combine_74 rfl ?_
      refine gg_lload_n (pc := 75) cx 2 rfl dX0_combine_75 rfl ?_
      refine gg_ldiv (pc := 76) cx dX0_combine_76 h.1 ?_
      have h := h.2
      exact gg_lret (pc := 77) cx hQ h dX0_combine_77
    · have h := g_it c66 h
      refine gg_lconst (pc := 70) cx (v := 0) dX0_combine_70 (by decide) ?_
      refine gg_goto (pc := 71) cx (tgt := 77) dX0_combine_71 (by decide) ?_
      exact gg_lret (pc := 77) cx hQ h dX0_combine_77
  have h := g_if c1_47 h
  by_cases c1_77 : x0 = 77
  · have h := g_it c1_77 h
    refine gg_swv c1_77 ?_
    refine gg_lookup (pc := 1) cx (off := 77) (tgt := 78) dX0_combine_1 (by decide) (by decide) (by decide) ?_
    refine gg_lload_n (pc := 78) cx 1 rfl dX0_combine_78 rfl ?_
    refine gg_lload_n (pc := 79) cx 2 rfl dX0_combine_79 rfl ?_
    refine gg_lcmp_lt (pc := 80) cx (tgt := 88) dX0_combine_80 dX0_combine_81 (by decide) (fun c80 => ?_) (fun c80 => ?_)
    · have h := g_it c80 h
      refine gg_lload_n (pc := 88) cx 2 rfl dX0_combine_88 rfl ?_
      exact gg_lret (pc := 89) cx hQ h dX0_combine_89
    · have h := g_if c80 h
      refine gg_lload_n (pc := 84) cx 1 rfl dX0_combine_84 rfl ?_
      refine gg_goto (pc := 85) cx (tgt := 89) dX0_combine_85 (by decide) ?_
      exact gg_lret (pc := 89) cx hQ h dX0_combine_89
  have h := g_if c1_77 h
  refine gg_lookup (pc := 1) cx (off := 89) (tgt := 90) dX0_combine_1 (by decide) (g_lout_X0_combine c1_42 c1_43 c1_45 c1_47 c1_77) (by decide) ?_
  refine gg_lload_n (pc := 90) cx 1 rfl dX0_combine_90 rfl ?_
  refine gg_lload_n (pc := 91) cx 2 rfl dX0_combine_91 rfl ?_
  refine gg_lcmp_gt (pc := 92) cx (tgt := 100) dX0_combine_92 dX0_combine_93 (by decide) (fun c92 => ?_) (fun c92 => ?_)
  · have h := g_it c92 h
    refine gg_lload_n (pc := 100) cx 2 rfl dX0_combine_100 rfl ?_
    exact gg_lret (pc := 101) cx hQ h dX0_combine_101
  · have h := g_if c92 h
    refine gg_lload_n (pc := 96) cx 1 rfl dX0_combine_96 rfl ?_
    refine gg_goto (pc := 97) cx (tgt := 101) dX0_combine_97 (by decide) ?_
    exact gg_lret (pc := 101) cx hQ h dX0_combine_101
set_option maxRecDepth 100000 in
set_option maxHeartbeats 4000000 in
theorem wk_X0_valueOf_b76 {t : gT} {X : gX} (cx : g_Cx t X cX0_valueOf 7 RX0 (some .long)) (hC : g_hC t) {K : Int64 → gM → Prop} (hQ : gXQ X = MQ (gXb X) (va_Ql K (g_B t) (g_A t)) (gXa X) (gXs X) rm_X0_valueOf.cells rm_X0_valueOf.slots (g_A t)) {R6 : Nat → Nat → Int32 → Int32 → Int32 → gM → Prop} (hR6 : ∀ (o0 : Nat) (o1 : Nat) (x3 : Int32) (x4 : Int32) (x5 : Int32) (M : gM), o0 < 1 → o1 < 6 → R6 o0 o1 x3 x4 x5 M → G t rm_X0_valueOf X 7 0 0 M [(0, .ref (gAd t 0 o0)), (1, .ref (gAd t 5 o1)), (3, .int x3), (4, .int x4), (5, .int x5)] [] 6) {o0 : Nat} {o1 : Nat} {x3 : Int32} {x4 : Int32} {x5 : Int32} {os0 : Nat} {xs1 : Int32} {ys2 : Int64} {M : gM} (v0 : o0 < 1) (v1 : o1 < 6) (vs0 : os0 < 1) (h : wp_X0_valueOf_b76 R6 K o0 o1 x3 x4 x5 os0 xs1 ys2 M) : G t rm_X0_valueOf X 7 0 0 M [(0, .ref (gAd t 0 o0)), (1, .ref (gAd t 5 o1)), (3, .int x3), (4, .int x4), (5, .int x5)] [.long ys2, .int xs1, .ref (gAd t 11 os0)] 76 := by
  have q76 := h.1
  have h := h.2
  refine gg_last (pc := 76) cx (hC 11 _ rfl vs0) (fun _ _ => rfl) q76 dX0_valueOf_76 ?_
  refine gg_mem (fun M76 eM76 => ?_)
  have h := h M76 eM76
  obtain ⟨n77, en77⟩ : ∃ z : Int32, z = x4 + Int32.ofInt (1) := ⟨_, rfl⟩
  have h := h n77 en77
  refine gg_iinc (pc := 77) cx 3 [(4, .int n77), (0, .ref (gAd t 0 o0)), (1, .ref (gAd t 5 o1)), (3, .int x3), (5, .int x5)] dX0_valueOf_77 rfl en77.symm (by decide) rfl ?_
  refine gg_goto (pc := 80) cx (tgt := 157) dX0_valueOf_80 (by decide) ?_
  obtain ⟨n157, en157⟩ : ∃ z : Int32, z = x5 + Int32.ofInt (1) := ⟨_, rfl⟩
  have h := h n157 en157
  refine gg_iinc (pc := 157) cx 4 [(5, .int n157), (4, .int n77), (0, .ref (gAd t 0 o0)), (1, .ref (gAd t 5 o1)), (3, .int x3)] dX0_valueOf_157 rfl en157.symm (by decide) rfl ?_
  refine gg_goto (pc := 160) cx (tgt := 6) dX0_valueOf_160 (by decide) ?_
  refine gg_lv (lv' := [(0, .ref (gAd t 0 o0)), (1, .ref (gAd t 5 o1)), (3, .int x3), (4, .int n77), (5, .int n157)]) [2, 3, 4, 1, 0] rfl ?_
  exact hR6 o0 o1 x3 n77 n157 M76 v0 v1 h
set_option maxRecDepth 100000 in
set_option maxHeartbeats 4000000 in
theorem wk_X0_valueOf_L6 {t : gT} {X : gX} (cx : g_Cx t X cX0_valueOf 7 RX0 (some .long)) (hC : g_hC t) {K : Int64 → gM → Prop} (hQ : gXQ X = MQ (gXb X) (va_Ql K (g_B t) (g_A t)) (gXa X) (gXs X) rm_X0_valueOf.cells rm_X0_valueOf.slots (g_A t)) (f : Nat) : ∀ (o0 : Nat) (o1 : Nat) (x3 : Int32) (x4 : Int32) (x5 : Int32) (M : gM), o0 < 1 → o1 < 6 → wp_X0_valueOf_L6 K f o0 o1 x3 x4 x5 M → G t rm_X0_valueOf X 7 0 0 M [(0, .ref (gAd t 0 o0)), (1, .ref (gAd t 5 o1)), (3, .int x3), (4, .int x4), (5, .int x5)] [] 6 := by
  induction f with
  | zero => intro _ _ _ _ _ _ _ _ _; exact False.elim (by assumption)
  | succ f ih =>
    intro o0 o1 x3 x4 x5 M v0 v1 h
    refine gg_iload (pc := 6) cx 4 rfl dX0_valueOf_6 ?_
    refine gg_if_lt (pc := 8) cx (tgt := 163) dX0_valueOf_8 (by decide) (fun c8 => ?_) (fun c8 => ?_)
    · have h := g_it c8 h
      refine gg_aload_n (pc := 163) cx 0 rfl dX0_valueOf_163 rfl ?_
      refine gf_Calculator_stack (pc := 164) cx (hC 0 _ rfl v0) tw_136 dX0_valueOf_164 ?_
      refine gg_iconst (pc := 167) cx (v := 0) dX0_valueOf_167 (by decide) ?_
      have q168 := h.1
      have h := h.2
      refine gg_lald (pc := 168) cx (hC 11 _ rfl v0) rfl q168 dX0_valueOf_168 ?_
      exact gg_lret (pc := 169) cx hQ h dX0_valueOf_169
    · have h := g_if c8 h
      refine gg_iload (pc := 11) cx 4 rfl dX0_valueOf_11 ?_
      refine gg_iload_n (pc := 13) cx 2 rfl dX0_valueOf_13 rfl ?_
      refine gg_icmp_ge (pc := 14) cx (tgt := 163) dX0_valueOf_14 (by decide) (fun c14 => ?_) (fun c14 => ?_)
      · have h := g_it c14 h
        refine gg_aload_n (pc := 163) cx 0 rfl dX0_valueOf_163 rfl ?_
        refine gf_Calculator_stack (pc := 164) cx (hC 0 _ rfl v0) tw_136 dX0_valueOf_164 ?_
        refine gg_iconst (pc := 167) cx (v := 0) dX0_valueOf_167 (by decide) ?_
        have q168 := h.1
        have h := h.2
        refine gg_lald (pc := 168) cx (hC 11 _ rfl v0) rfl q168 dX0_valueOf_168 ?_
        exact gg_lret (pc := 169) cx hQ h dX0_valueOf_169
      · have h := g_if c14 h
        refine gg_iload (pc := 17) cx 4 rfl dX0_valueOf_17 ?_
        refine gg_bipush (pc := 19) cx (v := 120) dX0_valueOf_19 (by decide) ?_
        refine gg_icmp_ge (pc := 21) cx (tgt := 163) dX0_valueOf_21 (by decide) (fun c21 => ?_) (fun c21 => ?_)
        · have h := g_it c21 h
          refine gg_aload_n (pc := 163) cx 0 rfl dX0_valueOf_163 rfl ?_
          refine gf_Calculator_stack (pc := 164) cx (hC 0 _ rfl v0) tw_136 dX0_valueOf_164 ?_
          refine gg_iconst (pc := 167) cx (v := 0) dX0_valueOf_167 (by decide) ?_
          have q168 := h.1
          have h := h.2
          refine gg_lald (pc := 168) cx (hC 11 _ rfl v0) rfl q168 dX0_valueOf_168 ?_
          exact gg_lret (pc := 169) cx hQ h dX0_valueOf_169
        · have h := g_if c21 h
          refine gg_aload_n (pc := 24) cx 1 rfl dX0_valueOf_24 rfl ?_
          refine gf_Plan_code (pc := 25) cx (hC 5 _ rfl v1) tw_70 dX0_valueOf_25 ?_
          refine gg_iload (pc := 28) cx 4 rfl dX0_valueOf_28 ?_
          have q30 := h.1
          have h := h.2
          refine gg_iald (pc := 30) cx (hC 40 _ rfl v1) rfl q30 dX0_valueOf_30 ?_
          refine gg_topi (fun n31 en31 => ?_)
          have h := h n31 en31
          refine gg_istore (pc := 31) cx [(6, .int n31), (0, .ref (gAd t 0 o0)), (1, .ref (gAd t 5 o1)), (3, .int x3), (4, .int x4), (5, .int x5)] dX0_valueOf_31 (by decide) rfl ?_
          refine gg_iload (pc := 33) cx 0 rfl dX0_valueOf_33 ?_
          refine gg_bipush (pc := 35) cx (v := (-10)) dX0_valueOf_35 (by decide) ?_
          refine gg_icmp_lt (pc := 37) cx (tgt := 83) dX0_valueOf_37 (by decide) (fun c37 => ?_) (fun c37 => ?_)
          · have h := g_it c37 h
            refine gg_iload (pc := 83) cx 0 rfl dX0_valueOf_83 ?_
            refine gg_bipush (pc := 85) cx (v := (-126)) dX0_valueOf_85 (by decide) ?_
            refine gg_icmp_ne (pc := 87) cx (tgt := 117) dX0_valueOf_87 (by decide) (fun c87 => ?_) (fun c87 => ?_)
            · have h := g_if c87 h
              refine gg_iload (pc := 117) cx 4 rfl dX0_valueOf_117 ?_
              refine gg_iconst (pc := 119) cx (v := 1) dX0_valueOf_119 (by decide) ?_
              refine gg_icmp_le (pc := 120) cx (tgt := 157) dX0_valueOf_120 (by decide) (fun c120 => ?_) (fun c120 => ?_)
              · have h := g_it c120 h
                obtain ⟨n157, en157⟩ : ∃ z : Int32, z = x5 + Int32.ofInt (1) := ⟨_, rfl⟩
                have h := h n157 en157
                refine gg_iinc (pc := 157) cx 5 [(5, .int n157), (6, .int n31), (0, .ref (gAd t 0 o0)), (1, .ref (gAd t 5 o1)), (3, .int x3), (4, .int x4)] dX0_valueOf_157 rfl en157.symm (by decide) rfl ?_
                refine gg_goto (pc := 160) cx (tgt := 6) dX0_valueOf_160 (by decide) ?_
                refine gg_lv (lv' := [(0, .ref (gAd t 0 o0)), (1, .ref (gAd t 5 o1)), (3, .int x3), (4, .int x4), (5, .int n157)]) [2, 3, 4, 5, 0] rfl ?_
                exact ih o0 o1 x3 x4 n157 M v0 v1 h
              · have h := g_if c120 h
                obtain ⟨n123, en123⟩ : ∃ z : Int32, z = x4 + Int32.ofInt (-1) := ⟨_, rfl⟩
                have h := h n123 en123
                refine gg_iinc (pc := 123) cx 4 [(4, .int n123), (6, .int n31), (0, .ref (gAd t 0 o0)), (1, .ref (gAd t 5 o1)), (3, .int x3), (5, .int x5)] dX0_valueOf_123 rfl en123.symm (by decide) rfl ?_
                refine gg_aload_n (pc := 126) cx 2 rfl dX0_valueOf_126 rfl ?_
                refine gf_Calculator_stack (pc := 127) cx (hC 0 _ rfl v0) tw_136 dX0_valueOf_127 ?_
                refine gg_iload (pc := 130) cx 0 rfl dX0_valueOf_130 ?_
                refine gg_iconst (pc := 132) cx (v := 1) dX0_valueOf_132 (by decide) ?_
                refine gg_isub (pc := 133) cx dX0_valueOf_133 ?_
                refine gg_iload (pc := 134) cx 1 rfl dX0_valueOf_134 ?_
                refine gg_ineg (pc := 136) cx dX0_valueOf_136 ?_
                refine gg_aload_n (pc := 137) cx 2 rfl dX0_valueOf_137 rfl ?_
                refine gf_Calculator_stack (pc := 138) cx (hC 0 _ rfl v0) tw_136 dX0_valueOf_138 ?_
                refine gg_iload (pc := 141) cx 0 rfl dX0_valueOf_141 ?_
                refine gg_iconst (pc := 143) cx (v := 1) dX0_valueOf_143 (by decide) ?_
                refine gg_isub (pc := 144) cx dX0_valueOf_144 ?_
                have q145 := h.1
                have h := h.2
                refine gg_lald (pc := 145) cx (hC 11 _ rfl v0) rfl q145 dX0_valueOf_145 ?_
                refine gg_aload_n (pc := 146) cx 2 rfl dX0_valueOf_146 rfl ?_
                refine gf_Calculator_stack (pc := 147) cx (hC 0 _ rfl v0) tw_136 dX0_valueOf_147 ?_
                refine gg_iload (pc := 150) cx 0 rfl dX0_valueOf_150 ?_
                have q152 := h.1
                have h := h.2
                refine gg_lald (pc := 152) cx (hC 11 _ rfl v0) rfl q152 dX0_valueOf_152 ?_
                refine gg_callSl (pc := 153) cx cal_X0_combine tw_696 (ct_X0_combine cx.tr hC  h) tw_695 rfl (st := [.int (n123 - 1), .ref (gAd t 11 o0)]) rfl (Nat.le_of_ble_eq_true rfl) ⟨Nat.le_of_ble_eq_true rfl, Nat.le_of_ble_eq_true rfl⟩ ⟨Nat.le_of_ble_eq_true rfl, Nat.le_of_ble_eq_true rfl⟩ dX0_valueOf_153 (fun r153 M153 h => ?_)
                have q156 := h.1
                have h := h.2
                refine gg_last (pc := 156) cx (hC 11 _ rfl v0) (fun _ _ => rfl) q156 dX0_valueOf_156 ?_
                refine gg_mem (fun M156 eM156 => ?_)
                have h := h M156 eM156
                obtain ⟨n157, en157⟩ : ∃ z : Int32, z = x5 + Int32.ofInt (1) := ⟨_, rfl⟩
                have h := h n157 en157
                refine gg_iinc (pc := 157) cx 5 [(5, .int n157), (4, .int n123), (6, .int n31), (0, .ref (gAd t 0 o0)), (1, .ref (gAd t 5 o1)), (3, .int x3)] dX0_valueOf_157 rfl en157.symm (by decide) rfl ?_
                refine gg_goto (pc := 160) cx (tgt := 6) dX0_valueOf_160 (by decide) ?_
                refine gg_lv (lv' := [(0, .ref (gAd t 0 o0)), (1, .ref (gAd t 5 o1)), (3, .int x3), (4, .int n123), (5, .int n157)]) [3, 4, 5, 1, 0] rfl ?_
                exact ih o0 o1 x3 n123 n157 M156 v0 v1 h
            · have h := g_it c87 h
              refine gg_iload (pc := 90) cx 4 rfl dX0_valueOf_90 ?_
              refine gg_if_le (pc := 92) cx (tgt := 157) dX0_valueOf_92 (by decide) (fun c92 => ?_) (fun c92 => ?_)
              · have h := g_it c92 h
                obtain ⟨n157, en157⟩ : ∃ z : Int32, z = x5 + Int32.ofInt (1) := ⟨_, rfl⟩
                have h := h n157 en157
                refine gg_iinc (pc := 157) cx 5 [(5, .int n157), (6, .int n31), (0, .ref (gAd t 0 o0)), (1, .ref (gAd t 5 o1)), (3, .int x3), (4, .int x4)] dX0_valueOf_157 rfl en157.symm (by decide) rfl ?_
                refine gg_goto (pc := 160) cx (tgt := 6) dX0_valueOf_160 (by decide) ?_
                refine gg_lv (lv' := [(0, .ref (gAd t 0 o0)), (1, .ref (gAd t 5 o1)), (3, .int x3), (4, .int x4), (5, .int n157)]) [2, 3, 4, 5, 0] rfl ?_
                exact ih o0 o1 x3 x4 n157 M v0 v1 h
              · have h := g_if c92 h
                refine gg_aload_n (pc := 95) cx 1 rfl dX0_valueOf_95 rfl ?_
                refine gf_Calculator_stack (pc := 96) cx (hC 0 _ rfl v0) tw_136 dX0_valueOf_96 ?_
                refine gg_iload (pc := 99) cx 4 rfl dX0_valueOf_99 ?_
                refine gg_iconst (pc := 101) cx (v := 1) dX0_valueOf_101 (by decide) ?_
                refine gg_isub (pc := 102) cx dX0_valueOf_102 ?_
                refine gg_aload_n (pc := 103) cx 1 rfl dX0_valueOf_103 rfl ?_
                refine gf_Calculator_stack (pc := 104) cx (hC 0 _ rfl v0) tw_136 dX0_valueOf_104 ?_
                refine gg_iload (pc := 107) cx 4 rfl dX0_valueOf_107 ?_
                refine gg_iconst (pc := 109) cx (v := 1) dX0_valueOf_109 (by decide) ?_
                refine gg_isub (pc := 110) cx dX0_valueOf_110 ?_
                have q111 := h.1
                have h := h.2
                refine gg_lald (pc := 111) cx (hC 11 _ rfl v0) rfl q111 dX0_valueOf_111 ?_
                refine gg_lneg (pc := 112) cx dX0_valueOf_112 ?_
                have q113 := h.1
                have h := h.2
                refine gg_last (pc := 113) cx (hC 11 _ rfl v0) (fun _ _ => rfl) q113 dX0_valueOf_113 ?_
                refine gg_mem (fun M113 eM113 => ?_)
                have h := h M113 eM113
                refine gg_goto (pc := 114) cx (tgt := 157) dX0_valueOf_114 (by decide) ?_
                obtain ⟨n157, en157⟩ : ∃ z : Int32, z = x5 + Int32.ofInt (1) := ⟨_, rfl⟩
                have h := h n157 en157
                refine gg_iinc (pc := 157) cx 5 [(5, .int n157), (6, .int n31), (0, .ref (gAd t 0 o0)), (1, .ref (gAd t 5 o1)), (3, .int x3), (4, .int x4)] dX0_valueOf_157 rfl en157.symm (by decide) rfl ?_
                refine gg_goto (pc := 160) cx (tgt := 6) dX0_valueOf_160 (by decide) ?_
                refine gg_lv (lv' := [(0, .ref (gAd t 0 o0)), (1, .ref (gAd t 5 o1)), (3, .int x3), (4, .int x4), (5, .int n157)]) [2, 3, 4, 5, 0] rfl ?_
                exact ih o0 o1 x3 x4 n157 M113 v0 v1 h
          · have h := g_if c37 h
            refine gg_iload (pc := 40) cx 4 rfl dX0_valueOf_40 ?_
            refine gg_aload_n (pc := 42) cx 1 rfl dX0_valueOf_42 rfl ?_
            refine gf_Calculator_stack (pc := 43) cx (hC 0 _ rfl v0) tw_136 dX0_valueOf_43 ?_
            refine gg_alen (pc := 46) cx (ca := 1) (v := 120) (hC 11 _ rfl v0) rfl rfl rfl dX0_valueOf_46 ?_
            refine gg_icmp_ge (pc := 47) cx (tgt := 157) dX0_valueOf_47 (by decide) (fun c47 => ?_) (fun c47 => ?_)
            · have h := g_it c47 h
              obtain ⟨n157, en157⟩ : ∃ z : Int32, z = x5 + Int32.ofInt (1) := ⟨_, rfl⟩
              have h := h n157 en157
              refine gg_iinc (pc := 157) cx 5 [(5, .int n157), (6, .int n31), (0, .ref (gAd t 0 o0)), (1, .ref (gAd t 5 o1)), (3, .int x3), (4, .int x4)] dX0_valueOf_157 rfl en157.symm (by decide) rfl ?_
              refine gg_goto (pc := 160) cx (tgt := 6) dX0_valueOf_160 (by decide) ?_
              refine gg_lv (lv' := [(0, .ref (gAd t 0 o0)), (1, .ref (gAd t 5 o1)), (3, .int x3), (4, .int x4), (5, .int n157)]) [2, 3, 4, 5, 0] rfl ?_
              exact ih o0 o1 x3 x4 n157 M v0 v1 h
            · have h := g_if c47 h
              refine gg_aload_n (pc := 50) cx 1 rfl dX0_valueOf_50 rfl ?_
              refine gf_Calculator_stack (pc := 51) cx (hC 0 _ rfl v0) tw_136 dX0_valueOf_51 ?_
              refine gg_iload (pc := 54) cx 4 rfl dX0_valueOf_54 ?_
              refine gg_iload (pc := 56) cx 0 rfl dX0_valueOf_56 ?_
              refine gg_if_lt (pc := 58) cx (tgt := 67) dX0_valueOf_58 (by decide) (fun c58 => ?_) (fun c58 => ?_)
              · have h := g_it c58 h
                refine gg_aload_n (pc := 67) cx 1 rfl dX0_valueOf_67 rfl ?_
                refine gf_Calculator_values (pc := 68) cx (hC 0 _ rfl v0) tw_135 dX0_valueOf_68 ?_
                refine gg_iconst (pc := 71) cx (v := (-1)) dX0_valueOf_71 (by decide) ?_
                refine gg_iload (pc := 72) cx 0 rfl dX0_valueOf_72 ?_
                refine gg_isub (pc := 74) cx dX0_valueOf_74 ?_
                have q75 := h.1
                have h := h.2
                refine gg_lald (pc := 75) cx (hC 10 _ rfl v0) rfl q75 dX0_valueOf_75 ?_
                refine gg_lv (lv' := [(0, .ref (gAd t 0 o0)), (1, .ref (gAd t 5 o1)), (3, .int x3), (4, .int x4), (5, .int x5)]) [1, 2, 3, 4, 5] rfl ?_
                exact wk_X0_valueOf_b76 cx hC hQ ih v0 v1 v0 h
              · have h := g_if c58 h
                refine gg_iload (pc := 61) cx 0 rfl dX0_valueOf_61 ?_
                refine gg_i2l (pc := 63) cx dX0_valueOf_63 ?_
                refine gg_goto (pc := 64) cx (tgt := 76) dX0_valueOf_64 (by decide) ?_
                refine gg_lv (lv' := [(0, .ref (gAd t 0 o0)), (1, .ref (gAd t 5 o1)), (3, .int x3), (4, .int x4), (5, .int x5)]) [1, 2, 3, 4, 5] rfl ?_
                exact wk_X0_valueOf_b76 cx hC hQ ih v0 v1 v0 h
theorem cal_X0_valueOf : g_Cal yX0_valueOf cX0_valueOf 7 (some .long) 3 := ⟨tw_4, tw_694, by decide, by decide, by decide +kernel⟩
theorem calv_X0_valueOf : g_CalV yX0_valueOf := ⟨tw_692, tw_693⟩
set_option maxRecDepth 100000 in
set_option maxHeartbeats 4000000 in
theorem ct_X0_valueOf {l : Launch} (hl : l.stackTraces = false) {t : gT} (hC : g_hC t) {o0 : Nat} {o1 : Nat} {x2 : Int32} {x3 : Int32} (v0 : o0 < 1) (v1 : o1 < 6) {M : gM} {K : Int64 → gM → Prop} (h : wp_X0_valueOf o0 o1 x2 x3 M K) : Met l yX0_valueOf (g_y yX0_valueOf cX0_valueOf 7 (some .long)) rm_X0_valueOf (va_Pc [.ref (gAd t 0 o0), .ref (gAd t 5 o1), .int x2, .int x3] (g_Pre t M)) (va_Ql K (g_B t) (g_A t)) rm_X0_valueOf.cells rm_X0_valueOf.slots (g_A t) := by
  refine g_met hl rfl (Nat.le_of_ble_eq_true rfl) (fun X hlX cx hQ => ?_)
  subst hlX
  refine gg_iconst (pc := 0) cx (v := 0) dX0_valueOf_0 (by decide) ?_
  refine gg_istore (pc := 1) cx [(4, .int 0), (0, .ref (gAd t 0 o0)), (1, .ref (gAd t 5 o1)), (2, .int x2), (3, .int x3)] dX0_valueOf_1 (by decide) rfl ?_
  refine gg_iload_n (pc := 3) cx 3 rfl dX0_valueOf_3 rfl ?_
  refine gg_istore (pc := 4) cx [(5, .int x2), (4, .int 0), (0, .ref (gAd t 0 o0)), (1, .ref (gAd t 5 o1)), (2, .int x2), (3, .int x3)] dX0_valueOf_4 (by decide) rfl ?_
  refine gg_lv (lv' := [(0, .ref (gAd t 0 o0)), (1, .ref (gAd t 5 o1)), (3, .int x3), (4, .int 0), (5, .int x2)]) [2, 3, 5, 1, 0] rfl ?_
  obtain ⟨f6, h⟩ := h
  exact wk_X0_valueOf_L6 cx hC hQ f6 o0 o1 x3 0 x2 M v0 v1 h
theorem cal_X0_setRank : g_Cal yX0_setRank cX0_setRank 3 (none) 1 := ⟨tw_4, tw_701, by decide, by decide, by decide +kernel⟩
theorem calv_X0_setRank : g_CalV yX0_setRank := ⟨tw_699, tw_700⟩
set_option maxRecDepth 100000 in
set_option maxHeartbeats 4000000 in
theorem ct_X0_setRank {l : Launch} (hl : l.stackTraces = false) {t : gT} (hC : g_hC t) {o0 : Nat} {y1 : Int64} (v0 : o0 < 1) {M : gM} {K : gM → Prop} (h : wp_X0_setRank o0 y1 M K) : Met l yX0_setRank (g_y yX0_setRank cX0_setRank 3 (none)) rm_X0_setRank (va_Pc [.ref (gAd t 0 o0), .long y1] (g_Pre t M)) (va_Qv K (g_B t) (g_A t)) rm_X0_setRank.cells rm_X0_setRank.slots (g_A t) := by
  refine g_met hl rfl (Nat.le_of_ble_eq_true rfl) (fun X hlX cx hQ => ?_)
  subst hlX
  refine gg_aload_n (pc := 0) cx 0 rfl dX0_setRank_0 rfl ?_
  refine gf_Calculator_values (pc := 1) cx (hC 0 _ rfl v0) tw_135 dX0_setRank_1 ?_
  refine gg_bipush (pc := 4) cx (v := 9) dX0_setRank_4 (by decide) ?_
  refine gg_lload_n (pc := 6) cx 1 rfl dX0_setRank_6 rfl ?_
  have q7 := h.1
  have h := h.2
  refine gg_last (pc := 7) cx (hC 10 _ rfl v0) (fun _ _ => rfl) q7 dX0_setRank_7 ?_
  refine gg_mem (fun M7 eM7 => ?_)
  have h := h M7 eM7
  exact gg_vret (pc := 8) cx hQ h dX0_setRank_8
theorem cal_X3_goesBefore : g_Cal yX3_goesBefore cX3_goesBefore 6 (some .boolean) 4 := ⟨tw_9, tw_709, by decide, by decide, by decide +kernel⟩
theorem calv_X3_goesBefore : g_CalV yX3_goesBefore := ⟨tw_708, ts_17⟩
set_option maxRecDepth 100000 in
set_option maxHeartbeats 4000000 in
theorem ct_X3_goesBefore {l : Launch} (hl : l.stackTraces = false) {t : gT} (hC : g_hC t) {o0 : Nat} {y1 : Int64} {x3 : Int32} {x4 : Int32} {x5 : Int32} (v0 : o0 < 60) {M : gM} {K : Int32 → gM → Prop} (h : wp_X3_goesBefore o0 y1 x3 x4 x5 M K) : Met l yX3_goesBefore (g_y yX3_goesBefore cX3_goesBefore 6 (some .boolean)) rm_X3_goesBefore (va_Pc [.ref (gAd t 3 o0), .long y1, .int x3, .int x4, .int x5] (g_Pre t M)) (va_Qi K (g_B t) (g_A t)) rm_X3_goesBefore.cells rm_X3_goesBefore.slots (g_A t) := by
  refine g_met hl rfl (Nat.le_of_ble_eq_true rfl) (fun X hlX cx hQ => ?_)
  subst hlX
  refine gg_lload_n (pc := 0) cx 1 rfl dX3_goesBefore_0 rfl ?_
  refine gg_aload_n (pc := 1) cx 0 rfl dX3_goesBefore_1 rfl ?_
  refine gf_Node_ranks (pc := 2) cx (hC 3 _ rfl v0) tw_273 dX3_goesBefore_2 ?_
  refine gg_iload (pc := 5) cx 4 rfl dX3_goesBefore_5 ?_
  have q7 := h.1
  have h := h.2
  refine gg_lald (pc := 7) cx (hC 24 _ rfl v0) rfl q7 dX3_goesBefore_7 ?_
  refine gg_lcmp_eq (pc := 8) cx (tgt := 30) dX3_goesBefore_8 dX3_goesBefore_9 (by decide) (fun c8 => ?_) (fun c8 => ?_)
  · have h := g_it c8 h
    refine gg_iload (pc := 30) cx 3 rfl dX3_goesBefore_30 ?_
    refine gg_if_ne (pc := 32) cx (tgt := 46) dX3_goesBefore_32 (by decide) (fun c32 => ?_) (fun c32 => ?_)
    · have h := g_if c32 h
      refine gg_iconst (pc := 46) cx (v := 1) dX3_goesBefore_46 (by decide) ?_
      refine gg_goto (pc := 47) cx (tgt := 51) dX3_goesBefore_47 (by decide) ?_
      exact gg_zret (pc := 51) cx hQ rfl h dX3_goesBefore_51
    · have h := g_it c32 h
      refine gg_iload_n (pc := 35) cx 2 rfl dX3_goesBefore_35 rfl ?_
      refine gg_aload_n (pc := 36) cx 0 rfl dX3_goesBefore_36 rfl ?_
      refine gf_Node_ties (pc := 37) cx (hC 3 _ rfl v0) tw_275 dX3_goesBefore_37 ?_
      refine gg_iload (pc := 40) cx 4 rfl dX3_goesBefore_40 ?_
      have q42 := h.1
      have h := h.2
      refine gg_iald (pc := 42) cx (hC 25 _ rfl v0) rfl q42 dX3_goesBefore_42 ?_
      refine gg_icmp_ge (pc := 43) cx (tgt := 50) dX3_goesBefore_43 (by decide) (fun c43 => ?_) (fun c43 => ?_)
      · have h := g_it c43 h
        refine gg_iconst (pc := 50) cx (v := 0) dX3_goesBefore_50 (by decide) ?_
        exact gg_zret (pc := 51) cx hQ rfl h dX3_goesBefore_51
      · have h := g_if c43 h
        refine gg_iconst (pc := 46) cx (v := 1) dX3_goesBefore_46 (by decide) ?_
        refine gg_goto (pc := 47) cx (tgt := 51) dX3_goesBefore_47 (by decide) ?_
        exact gg_zret (pc := 51) cx hQ rfl h dX3_goesBefore_51
  · have h := g_if c8 h
    refine gg_lload_n (pc := 12) cx 1 rfl dX3_goesBefore_12 rfl ?_
    refine gg_aload_n (pc := 13) cx 0 rfl dX3_goesBefore_13 rfl ?_
    refine gf_Node_ranks (pc := 14) cx (hC 3 _ rfl v0) tw_273 dX3_goesBefore_14 ?_
    refine gg_iload (pc := 17) cx 4 rfl dX3_goesBefore_17 ?_
    have q19 := h.1
    have h := h.2
    refine gg_lald (pc := 19) cx (hC 24 _ rfl v0) rfl q19 dX3_goesBefore_19 ?_
    refine gg_lcmp_ge (pc := 20) cx (tgt := 28) dX3_goesBefore_20 dX3_goesBefore_21 (by decide) (fun c20 => ?_) (fun c20 => ?_)
    · have h := g_it c20 h
      refine gg_iconst (pc := 28) cx (v := 0) dX3_goesBefore_28 (by decide) ?_
      exact gg_zret (pc := 29) cx hQ rfl h dX3_goesBefore_29
    · have h := g_if c20 h
      refine gg_iconst (pc := 24) cx (v := 1) dX3_goesBefore_24 (by decide) ?_
      refine gg_goto (pc := 25) cx (tgt := 29) dX3_goesBefore_25 (by decide) ?_
      exact gg_zret (pc := 29) cx hQ rfl h dX3_goesBefore_29
set_option maxRecDepth 100000 in
set_option maxHeartbeats 4000000 in
theorem wk_X3_insert_b98 {t : gT} {X : gX} (cx : g_Cx t X cX3_insert 7 RX3 (none)) (hC : g_hC t) {K : gM → Prop} (hQ : gXQ X = MQ (gXb X) (va_Qv K (g_B t) (g_A t)) (gXa X) (gXs X) rm_X3_insert.cells rm_X3_insert.slots (g_A t)) {o0 : Nat} {x1 : Int32} {y2 : Int64} {x4 : Int32} {x6 : Int32} {M : gM} (v0 : o0 < 60) (h : wp_X3_insert_b98 K o0 x1 y2 x4 x6 M) : G t rm_X3_insert X 7 0 0 M [(0, .ref (gAd t 3 o0)), (1, .int x1), (2, .long y2), (4, .int x4), (6, .int x6)] [] 98 := by
  refine gg_aload_n (pc := 98) cx 0 rfl dX3_insert_98 rfl ?_
  refine gf_Node_items (pc := 99) cx (hC 3 _ rfl v0) tw_271 dX3_insert_99 ?_
  refine gg_iload (pc := 102) cx 4 rfl dX3_insert_102 ?_
  refine gg_iload_n (pc := 104) cx 1 rfl dX3_insert_104 rfl ?_
  have q105 := h.1
  have h := h.2
  refine gg_iast (pc := 105) cx (hC 23 _ rfl v0) (fun _ _ => rfl) q105 dX3_insert_105 ?_
  refine gg_mem (fun M105 eM105 => ?_)
  have h := h M105 eM105
  refine gg_aload_n (pc := 106) cx 0 rfl dX3_insert_106 rfl ?_
  refine gf_Node_ranks (pc := 107) cx (hC 3 _ rfl v0) tw_273 dX3_insert_107 ?_
  refine gg_iload (pc := 110) cx 4 rfl dX3_insert_110 ?_
  refine gg_lload_n (pc := 112) cx 2 rfl dX3_insert_112 rfl ?_
  have q113 := h.1
  have h := h.2
  refine gg_last (pc := 113) cx (hC 24 _ rfl v0) (fun _ _ => rfl) q113 dX3_insert_113 ?_
  refine gg_mem (fun M113 eM113 => ?_)
  have h := h M113 eM113
  refine gg_aload_n (pc := 114) cx 0 rfl dX3_insert_114 rfl ?_
  refine gf_Node_ties (pc := 115) cx (hC 3 _ rfl v0) tw_275 dX3_insert_115 ?_
  refine gg_iload (pc := 118) cx 4 rfl dX3_insert_118 ?_
  refine gg_iload (pc := 120) cx 3 rfl dX3_insert_120 ?_
  have q122 := h.1
  have h := h.2
  refine gg_iast (pc := 122) cx (hC 25 _ rfl v0) (fun _ _ => rfl) q122 dX3_insert_122 ?_
  refine gg_mem (fun M122 eM122 => ?_)
  have h := h M122 eM122
  refine gg_aload_n (pc := 123) cx 0 rfl dX3_insert_123 rfl ?_
  refine gg_dup (pc := 124) cx dX3_insert_124 rfl ?_
  refine gf_Node_size (pc := 125) cx (hC 3 _ rfl v0) tw_268 dX3_insert_125 ?_
  refine gg_iconst (pc := 128) cx (v := 1) dX3_insert_128 (by decide) ?_
  refine gg_iadd (pc := 129) cx dX3_insert_129 ?_
  refine gp_Node_size (pc := 130) cx (hC 3 _ rfl v0) tw_268 dX3_insert_130 ?_
  refine gg_mem (fun M130 eM130 => ?_)
  have h := h M130 eM130
  exact gg_vret (pc := 133) cx hQ h dX3_insert_133
set_option maxRecDepth 100000 in
set_option maxHeartbeats 4000000 in
theorem wk_X3_insert_L23 {t : gT} {X : gX} (cx : g_Cx t X cX3_insert 7 RX3 (none)) (hC : g_hC t) {K : gM → Prop} (hQ : gXQ X = MQ (gXb X) (va_Qv K (g_B t) (g_A t)) (gXa X) (gXs X) rm_X3_insert.cells rm_X3_insert.slots (g_A t)) (f : Nat) : ∀ (o0 : Nat) (x1 : Int32) (y2 : Int64) (x4 : Int32) (x5 : Int32) (x6 : Int32) (M : gM), o0 < 60 → wp_X3_insert_L23 K f o0 x1 y2 x4 x5 x6 M → G t rm_X3_insert X 7 0 0 M [(0, .ref (gAd t 3 o0)), (1, .int x1), (2, .long y2), (4, .int x4), (5, .int x5), (6, .int x6)] [] 23 := by
  induction f with
  | zero => intro _ _ _ _ _ _ _ _ _; exact False.elim (by assumption)
  | succ f ih =>
    intro o0 x1 y2 x4 x5 x6 M v0 h
    refine gg_iload (pc := 23) cx 5 rfl dX3_insert_23 ?_
    refine gg_if_le (pc := 25) cx (tgt := 98) dX3_insert_25 (by decide) (fun c25 => ?_) (fun c25 => ?_)
    · have h := g_it c25 h
      refine gg_lv (lv' := [(0, .ref (gAd t 3 o0)), (1, .int x1), (2, .long y2), (4, .int x4), (6, .int x6)]) [0, 1, 2, 3, 5] rfl ?_
      exact wk_X3_insert_b98 cx hC hQ v0 h
    · have h := g_if c25 h
      refine gg_aload_n (pc := 28) cx 0 rfl dX3_insert_28 rfl ?_
      refine gg_lload_n (pc := 29) cx 2 rfl dX3_insert_29 rfl ?_
      refine gg_iload (pc := 30) cx 3 rfl dX3_insert_30 ?_
      refine gg_iload (pc := 32) cx 4 rfl dX3_insert_32 ?_
      refine gg_iload (pc := 34) cx 5 rfl dX3_insert_34 ?_
      refine gg_iconst (pc := 36) cx (v := 1) dX3_insert_36 (by decide) ?_
      refine gg_isub (pc := 37) cx dX3_insert_37 ?_
      refine gg_callVi (pc := 38) cx cal_X3_goesBefore calv_X3_goesBefore (ct_X3_goesBefore cx.tr hC v0 h) tw_706 (hC 3 _ rfl v0) rfl rfl rfl (st := []) rfl (Nat.le_of_ble_eq_true rfl) ⟨Nat.le_of_ble_eq_true rfl, Nat.le_of_ble_eq_true rfl⟩ ⟨Nat.le_of_ble_eq_true rfl, Nat.le_of_ble_eq_true rfl⟩ dX3_insert_38 (fun r38 M38 h => ?_)
      refine gg_if_eq (pc := 41) cx (tgt := 98) dX3_insert_41 (by decide) (fun c41 => ?_) (fun c41 => ?_)
      · have h := g_it c41 h
        refine gg_lv (lv' := [(0, .ref (gAd t 3 o0)), (1, .int x1), (2, .long y2), (4, .int x4), (6, .int x6)]) [0, 1, 2, 3, 5] rfl ?_
        exact wk_X3_insert_b98 cx hC hQ v0 h
      · have h := g_if c41 h
        refine gg_aload_n (pc := 44) cx 0 rfl dX3_insert_44 rfl ?_
        refine gf_Node_items (pc := 45) cx (hC 3 _ rfl v0) tw_271 dX3_insert_45 ?_
        refine gg_iload (pc := 48) cx 5 rfl dX3_insert_48 ?_
        refine gg_aload_n (pc := 50) cx 0 rfl dX3_insert_50 rfl ?_
        refine gf_Node_items (pc := 51) cx (hC 3 _ rfl v0) tw_271 dX3_insert_51 ?_
        refine gg_iload (pc := 54) cx 5 rfl dX3_insert_54 ?_
        refine gg_iconst (pc := 56) cx (v := 1) dX3_insert_56 (by decide) ?_
        refine gg_isub (pc := 57) cx dX3_insert_57 ?_
        have q58 := h.1
        have h := h.2
        refine gg_iald (pc := 58) cx (hC 23 _ rfl v0) rfl q58 dX3_insert_58 ?_
        have q59 := h.1
        have h := h.2
        refine gg_iast (pc := 59) cx (hC 23 _ rfl v0) (fun _ _ => rfl) q59 dX3_insert_59 ?_
        refine gg_mem (fun M59 eM59 => ?_)
        have h := h M59 eM59
        refine gg_aload_n (pc := 60) cx 0 rfl dX3_insert_60 rfl ?_
        refine gf_Node_ranks (pc := 61) cx (hC 3 _ rfl v0) tw_273 dX3_insert_61 ?_
        refine gg_iload (pc := 64) cx 5 rfl dX3_insert_64 ?_
        refine gg_aload_n (pc := 66) cx 0 rfl dX3_insert_66 rfl ?_
        refine gf_Node_ranks (pc := 67) cx (hC 3 _ rfl v0) tw_273 dX3_insert_67 ?_
        refine gg_iload (pc := 70) cx 5 rfl dX3_insert_70 ?_
        refine gg_iconst (pc := 72) cx (v := 1) dX3_insert_72 (by decide) ?_
        refine gg_isub (pc := 73) cx dX3_insert_73 ?_
        have q74 := h.1
        have h := h.2
        refine gg_lald (pc := 74) cx (hC 24 _ rfl v0) rfl q74 dX3_insert_74 ?_
        have q75 := h.1
        have h := h.2
        refine gg_last (pc := 75) cx (hC 24 _ rfl v0) (fun _ _ => rfl) q75 dX3_insert_75 ?_
        refine gg_mem (fun M75 eM75 => ?_)
        have h := h M75 eM75
        refine gg_aload_n (pc := 76) cx 0 rfl dX3_insert_76 rfl ?_
        refine gf_Node_ties (pc := 77) cx (hC 3 _ rfl v0) tw_275 dX3_insert_77 ?_
        refine gg_iload (pc := 80) cx 5 rfl dX3_insert_80 ?_
        refine gg_aload_n (pc := 82) cx 0 rfl dX3_insert_82 rfl ?_
        refine gf_Node_ties (pc := 83) cx (hC 3 _ rfl v0) tw_275 dX3_insert_83 ?_
        refine gg_iload (pc := 86) cx 5 rfl dX3_insert_86 ?_
        refine gg_iconst (pc := 88) cx (v := 1) dX3_insert_88 (by decide) ?_
        refine gg_isub (pc := 89) cx dX3_insert_89 ?_
        have q90 := h.1
        have h := h.2
        refine gg_iald (pc := 90) cx (hC 25 _ rfl v0) rfl q90 dX3_insert_90 ?_
        have q91 := h.1
        have h := h.2
        refine gg_iast (pc := 91) cx (hC 25 _ rfl v0) (fun _ _ => rfl) q91 dX3_insert_91 ?_
        refine gg_mem (fun M91 eM91 => ?_)
        have h := h M91 eM91
        obtain ⟨n92, en92⟩ : ∃ z : Int32, z = x6 + Int32.ofInt (-1) := ⟨_, rfl⟩
        have h := h n92 en92
        refine gg_iinc (pc := 92) cx 5 [(6, .int n92), (0, .ref (gAd t 3 o0)), (1, .int x1), (2, .long y2), (4, .int x4), (5, .int x5)] dX3_insert_92 rfl en92.symm (by decide) rfl ?_
        refine gg_goto (pc := 95) cx (tgt := 23) dX3_insert_95 (by decide) ?_
        refine gg_lv (lv' := [(0, .ref (gAd t 3 o0)), (1, .int x1), (2, .long y2), (4, .int x4), (5, .int x5), (6, .int n92)]) [1, 2, 3, 4, 5, 0] rfl ?_
        exact ih o0 x1 y2 x4 x5 n92 M91 v0 h
theorem cal_X3_insert : g_Cal yX3_insert cX3_insert 7 (none) 4 := ⟨tw_9, tw_705, by decide, by decide, by decide +kernel⟩
theorem calv_X3_insert : g_CalV yX3_insert := ⟨tw_703, tw_704⟩
set_option maxRecDepth 100000 in
set_option maxHeartbeats 4000000 in
theorem ct_X3_insert {l : Launch} (hl : l.stackTraces = false) {t : gT} (hC : g_hC t) {o0 : Nat} {x1 : Int32} {y2 : Int64} {x4 : Int32} {x5 : Int32} (v0 : o0 < 60) {M : gM} {K : gM → Prop} (h : wp_X3_insert o0 x1 y2 x4 x5 M K) : Met l yX3_insert (g_y yX3_insert cX3_insert 7 (none)) rm_X3_insert (va_Pc [.ref (gAd t 3 o0), .int x1, .long y2, .int x4, .int x5] (g_Pre t M)) (va_Qv K (g_B t) (g_A t)) rm_X3_insert.cells rm_X3_insert.slots (g_A t) := by
  refine g_met hl rfl (Nat.le_of_ble_eq_true rfl) (fun X hlX cx hQ => ?_)
  subst hlX
  refine gg_aload_n (pc := 0) cx 0 rfl dX3_insert_0 rfl ?_
  refine gf_Node_size (pc := 1) cx (hC 3 _ rfl v0) tw_268 dX3_insert_1 ?_
  refine gg_if_lt (pc := 4) cx (tgt := 16) dX3_insert_4 (by decide) (fun c4 => ?_) (fun c4 => ?_)
  · have h := g_it c4 h
    exact gg_vret (pc := 16) cx hQ h dX3_insert_16
  · have h := g_if c4 h
    refine gg_aload_n (pc := 7) cx 0 rfl dX3_insert_7 rfl ?_
    refine gf_Node_size (pc := 8) cx (hC 3 _ rfl v0) tw_268 dX3_insert_8 ?_
    refine gg_bipush (pc := 11) cx (v := 64) dX3_insert_11 (by decide) ?_
    refine gg_icmp_lt (pc := 13) cx (tgt := 17) dX3_insert_13 (by decide) (fun c13 => ?_) (fun c13 => ?_)
    · have h := g_it c13 h
      refine gg_aload_n (pc := 17) cx 0 rfl dX3_insert_17 rfl ?_
      refine gf_Node_size (pc := 18) cx (hC 3 _ rfl v0) tw_268 dX3_insert_18 ?_
      refine gg_topi (fun n21 en21 => ?_)
      have h := h n21 en21
      refine gg_istore (pc := 21) cx [(6, .int n21), (0, .ref (gAd t 3 o0)), (1, .int x1), (2, .long y2), (4, .int x4), (5, .int x5)] dX3_insert_21 (by decide) rfl ?_
      refine gg_lv (lv' := [(0, .ref (gAd t 3 o0)), (1, .int x1), (2, .long y2), (4, .int x4), (5, .int x5), (6, .int n21)]) [1, 2, 3, 4, 5, 0] rfl ?_
      obtain ⟨f23, h⟩ := h
      exact wk_X3_insert_L23 cx hC hQ f23 o0 x1 y2 x4 x5 n21 M v0 h
    · have h := g_if c13 h
      exact gg_vret (pc := 16) cx hQ h dX3_insert_16
theorem cal_X2_add : g_Cal yX2_add cX2_add 5 (none) 3 := ⟨tw_8, tw_718, by decide, by decide, by decide +kernel⟩
theorem calv_X2_add : g_CalV yX2_add := ⟨tw_716, tw_717⟩
set_option maxRecDepth 100000 in
set_option maxHeartbeats 4000000 in
theorem ct_X2_add {l : Launch} (hl : l.stackTraces = false) {t : gT} (hC : g_hC t) {o0 : Nat} {x1 : Int32} {x2 : Int32} {y3 : Int64} (v0 : o0 < 5) {M : gM} {K : gM → Prop} (h : wp_X2_add o0 x1 x2 y3 M K) : Met l yX2_add (g_y yX2_add cX2_add 5 (none)) rm_X2_add (va_Pc [.ref (gAd t 2 o0), .int x1, .int x2, .long y3] (g_Pre t M)) (va_Qv K (g_B t) (g_A t)) rm_X2_add.cells rm_X2_add.slots (g_A t) := by
  refine g_met hl rfl (Nat.le_of_ble_eq_true rfl) (fun X hlX cx hQ => ?_)
  subst hlX
  refine gg_aload_n (pc := 0) cx 0 rfl dX2_add_0 rfl ?_
  refine gf_Line_size (pc := 1) cx (hC 2 _ rfl v0) tw_234 dX2_add_1 ?_
  refine gg_if_lt (pc := 4) cx (tgt := 16) dX2_add_4 (by decide) (fun c4 => ?_) (fun c4 => ?_)
  · have h := g_it c4 h
    exact gg_vret (pc := 16) cx hQ h dX2_add_16
  · have h := g_if c4 h
    refine gg_aload_n (pc := 7) cx 0 rfl dX2_add_7 rfl ?_
    refine gf_Line_size (pc := 8) cx (hC 2 _ rfl v0) tw_234 dX2_add_8 ?_
    refine gg_bipush (pc := 11) cx (v := 64) dX2_add_11 (by decide) ?_
    refine gg_icmp_lt (pc := 13) cx (tgt := 17) dX2_add_13 (by decide) (fun c13 => ?_) (fun c13 => ?_)
    · have h := g_it c13 h
      refine gg_aload_n (pc := 17) cx 0 rfl dX2_add_17 rfl ?_
      refine gf_Line_node (pc := 18) cx (hC 2 _ rfl v0) tw_237 dX2_add_18 ?_
      refine gg_aload_n (pc := 21) cx 0 rfl dX2_add_21 rfl ?_
      refine gf_Line_size (pc := 22) cx (hC 2 _ rfl v0) tw_234 dX2_add_22 ?_
      refine gg_iload_n (pc := 25) cx 1 rfl dX2_add_25 rfl ?_
      have q26 := h.1
      have h := h.2
      refine gg_iast (pc := 26) cx (hC 19 _ rfl v0) (fun _ _ => rfl) q26 dX2_add_26 ?_
      refine gg_mem (fun M26 eM26 => ?_)
      have h := h M26 eM26
      refine gg_aload_n (pc := 27) cx 0 rfl dX2_add_27 rfl ?_
      refine gf_Line_packet (pc := 28) cx (hC 2 _ rfl v0) tw_239 dX2_add_28 ?_
      refine gg_aload_n (pc := 31) cx 0 rfl dX2_add_31 rfl ?_
      refine gf_Line_size (pc := 32) cx (hC 2 _ rfl v0) tw_234 dX2_add_32 ?_
      refine gg_iload_n (pc := 35) cx 2 rfl dX2_add_35 rfl ?_
      have q36 := h.1
      have h := h.2
      refine gg_iast (pc := 36) cx (hC 20 _ rfl v0) (fun _ _ => rfl) q36 dX2_add_36 ?_
      refine gg_mem (fun M36 eM36 => ?_)
      have h := h M36 eM36
      refine gg_aload_n (pc := 37) cx 0 rfl dX2_add_37 rfl ?_
      refine gf_Line_release (pc := 38) cx (hC 2 _ rfl v0) tw_241 dX2_add_38 ?_
      refine gg_aload_n (pc := 41) cx 0 rfl dX2_add_41 rfl ?_
      refine gf_Line_size (pc := 42) cx (hC 2 _ rfl v0) tw_234 dX2_add_42 ?_
      refine gg_lload_n (pc := 45) cx 3 rfl dX2_add_45 rfl ?_
      have q46 := h.1
      have h := h.2
      refine gg_last (pc := 46) cx (hC 21 _ rfl v0) (fun _ _ => rfl) q46 dX2_add_46 ?_
      refine gg_mem (fun M46 eM46 => ?_)
      have h := h M46 eM46
      refine gg_aload_n (pc := 47) cx 0 rfl dX2_add_47 rfl ?_
      refine gg_dup (pc := 48) cx dX2_add_48 rfl ?_
      refine gf_Line_size (pc := 49) cx (hC 2 _ rfl v0) tw_234 dX2_add_49 ?_
      refine gg_iconst (pc := 52) cx (v := 1) dX2_add_52 (by decide) ?_
      refine gg_iadd (pc := 53) cx dX2_add_53 ?_
      refine gp_Line_size (pc := 54) cx (hC 2 _ rfl v0) tw_234 dX2_add_54 ?_
      refine gg_mem (fun M54 eM54 => ?_)
      have h := h M54 eM54
      exact gg_vret (pc := 57) cx hQ h dX2_add_57
    · have h := g_if c13 h
      exact gg_vret (pc := 16) cx hQ h dX2_add_16
theorem cal_X3_removeFirst : g_Cal yX3_removeFirst cX3_removeFirst 2 (some .int) 0 := ⟨tw_9, tw_618, by decide, by decide, by decide +kernel⟩
theorem calv_X3_removeFirst : g_CalV yX3_removeFirst := ⟨tw_616, tw_617⟩
set_option maxRecDepth 100000 in
set_option maxHeartbeats 4000000 in
theorem ct_X3_removeFirst {l : Launch} (hl : l.stackTraces = false) {t : gT} (hC : g_hC t) {o0 : Nat} (v0 : o0 < 60) {M : gM} {K : Int32 → gM → Prop} (h : wp_X3_removeFirst o0 M K) : Met l yX3_removeFirst (g_y yX3_removeFirst cX3_removeFirst 2 (some .int)) rm_X3_removeFirst (va_Pc [.ref (gAd t 3 o0)] (g_Pre t M)) (va_Qi K (g_B t) (g_A t)) rm_X3_removeFirst.cells rm_X3_removeFirst.slots (g_A t) := by
  refine g_met hl rfl (Nat.le_of_ble_eq_true rfl) (fun X hlX cx hQ => ?_)
  subst hlX
  refine gg_aload_n (pc := 0) cx 0 rfl dX3_removeFirst_0 rfl ?_
  refine gf_Node_size (pc := 1) cx (hC 3 _ rfl v0) tw_268 dX3_removeFirst_1 ?_
  refine gg_iconst (pc := 4) cx (v := 1) dX3_removeFirst_4 (by decide) ?_
  refine gg_icmp_lt (pc := 5) cx (tgt := 17) dX3_removeFirst_5 (by decide) (fun c5 => ?_) (fun c5 => ?_)
  · have h := g_it c5 h
    refine gg_iconst (pc := 17) cx (v := (-1)) dX3_removeFirst_17 (by decide) ?_
    exact gg_iret (pc := 18) cx hQ h dX3_removeFirst_18
  · have h := g_if c5 h
    refine gg_aload_n (pc := 8) cx 0 rfl dX3_removeFirst_8 rfl ?_
    refine gf_Node_size (pc := 9) cx (hC 3 _ rfl v0) tw_268 dX3_removeFirst_9 ?_
    refine gg_bipush (pc := 12) cx (v := 64) dX3_removeFirst_12 (by decide) ?_
    refine gg_icmp_le (pc := 14) cx (tgt := 19) dX3_removeFirst_14 (by decide) (fun c14 => ?_) (fun c14 => ?_)
    · have h := g_it c14 h
      refine gg_aload_n (pc := 19) cx 0 rfl dX3_removeFirst_19 rfl ?_
      refine gf_Node_items (pc := 20) cx (hC 3 _ rfl v0) tw_271 dX3_removeFirst_20 ?_
      refine gg_iconst (pc := 23) cx (v := 0) dX3_removeFirst_23 (by decide) ?_
      have q24 := h.1
      have h := h.2
      refine gg_iald (pc := 24) cx (hC 23 _ rfl v0) rfl q24 dX3_removeFirst_24 ?_
      refine gg_topi (fun n25 en25 => ?_)
      have h := h n25 en25
      refine gg_istore_n (pc := 25) cx [(1, .int n25), (0, .ref (gAd t 3 o0))] dX3_removeFirst_25 rfl (by decide) rfl ?_
      refine gg_aload_n (pc := 26) cx 1 rfl dX3_removeFirst_26 rfl ?_
      refine gg_aload_n (pc := 27) cx 1 rfl dX3_removeFirst_27 rfl ?_
      refine gf_Node_ranks (pc := 28) cx (hC 3 _ rfl v0) tw_273 dX3_removeFirst_28 ?_
      refine gg_iconst (pc := 31) cx (v := 0) dX3_removeFirst_31 (by decide) ?_
      have q32 := h.1
      have h := h.2
      refine gg_lald (pc := 32) cx (hC 24 _ rfl v0) rfl q32 dX3_removeFirst_32 ?_
      refine gp_Node_virtual (pc := 33) cx (hC 3 _ rfl v0) tw_260 dX3_removeFirst_33 ?_
      refine gg_mem (fun M33 eM33 => ?_)
      have h := h M33 eM33
      refine gg_aload_n (pc := 36) cx 1 rfl dX3_removeFirst_36 rfl ?_
      refine gg_dup (pc := 37) cx dX3_removeFirst_37 rfl ?_
      refine gf_Node_size (pc := 38) cx (hC 3 _ rfl v0) tw_268 dX3_removeFirst_38 ?_
      refine gg_iconst (pc := 41) cx (v := 1) dX3_removeFirst_41 (by decide) ?_
      refine gg_isub (pc := 42) cx dX3_removeFirst_42 ?_
      refine gp_Node_size (pc := 43) cx (hC 3 _ rfl v0) tw_268 dX3_removeFirst_43 ?_
      refine gg_mem (fun M43 eM43 => ?_)
      have h := h M43 eM43
      refine gg_aload_n (pc := 46) cx 1 rfl dX3_removeFirst_46 rfl ?_
      refine gf_Node_items (pc := 47) cx (hC 3 _ rfl v0) tw_271 dX3_removeFirst_47 ?_
      refine gg_iconst (pc := 50) cx (v := 1) dX3_removeFirst_50 (by decide) ?_
      refine gg_aload_n (pc := 51) cx 1 rfl dX3_removeFirst_51 rfl ?_
      refine gf_Node_items (pc := 52) cx (hC 3 _ rfl v0) tw_271 dX3_removeFirst_52 ?_
      refine gg_iconst (pc := 55) cx (v := 0) dX3_removeFirst_55 (by decide) ?_
      refine gg_aload_n (pc := 56) cx 1 rfl dX3_removeFirst_56 rfl ?_
      refine gf_Node_size (pc := 57) cx (hC 3 _ rfl v0) tw_268 dX3_removeFirst_57 ?_
      obtain ⟨a60, b60, c60, d60, e60, h⟩ := h
      refine gg_copyI (pc := 60) cx g_wcpy tw_619 (hC 23 _ rfl v0) (hC 23 _ rfl v0) rfl (fun _ _ => rfl) a60 b60 c60 d60 e60 ⟨Nat.le_of_ble_eq_true rfl, Nat.le_of_ble_eq_true rfl⟩ dX3_removeFirst_60 ?_
      refine gg_mem (fun M60 eM60 => ?_)
      have h := h M60 eM60
      refine gg_aload_n (pc := 63) cx 1 rfl dX3_removeFirst_63 rfl ?_
      refine gf_Node_ranks (pc := 64) cx (hC 3 _ rfl v0) tw_273 dX3_removeFirst_64 ?_
      refine gg_iconst (pc := 67) cx (v := 1) dX3_removeFirst_67 (by decide) ?_
      refine gg_aload_n (pc := 68) cx 1 rfl dX3_removeFirst_68 rfl ?_
      refine gf_Node_ranks (pc := 69) cx (hC 3 _ rfl v0) tw_273 dX3_removeFirst_69 ?_
      refine gg_iconst (pc := 72) cx (v := 0) dX3_removeFirst_72 (by decide) ?_
      refine gg_aload_n (pc := 73) cx 1 rfl dX3_removeFirst_73 rfl ?_
      refine gf_Node_size (pc := 74) cx (hC 3 _ rfl v0) tw_268 dX3_removeFirst_74 ?_
      obtain ⟨a77, b77, c77, d77, e77, h⟩ := h
      refine gg_copyL (pc := 77) cx g_wcpy tw_619 (hC 24 _ rfl v0) (hC 24 _ rfl v0) rfl (fun _ _ => rfl) a77 b77 c77 d77 e77 ⟨Nat.le_of_ble_eq_true rfl, Nat.le_of_ble_eq_true rfl⟩ dX3_removeFirst_77 ?_
      refine gg_mem (fun M77 eM77 => ?_)
      have h := h M77 eM77
      refine gg_aload_n (pc := 80) cx 1 rfl dX3_removeFirst_80 rfl ?_
      refine gf_Node_ties (pc := 81) cx (hC 3 _ rfl v0) tw_275 dX3_removeFirst_81 ?_
      refine gg_iconst (pc := 84) cx (v := 1) dX3_removeFirst_84 (by decide) ?_
      refine gg_aload_n (pc := 85) cx 1 rfl dX3_removeFirst_85 rfl ?_
      refine gf_Node_ties (pc := 86) cx (hC 3 _ rfl v0) tw_275 dX3_removeFirst_86 ?_
      refine gg_iconst (pc := 89) cx (v := 0) dX3_removeFirst_89 (by decide) ?_
      refine gg_aload_n (pc := 90) cx 1 rfl dX3_removeFirst_90 rfl ?_
      refine gf_Node_size (pc := 91) cx (hC 3 _ rfl v0) tw_268 dX3_removeFirst_91 ?_
      obtain ⟨a94, b94, c94, d94, e94, h⟩ := h
      refine gg_copyI (pc := 94) cx g_wcpy tw_619 (hC 25 _ rfl v0) (hC 25 _ rfl v0) rfl (fun _ _ => rfl) a94 b94 c94 d94 e94 ⟨Nat.le_of_ble_eq_true rfl, Nat.le_of_ble_eq_true rfl⟩ dX3_removeFirst_94 ?_
      refine gg_mem (fun M94 eM94 => ?_)
      have h := h M94 eM94
      refine gg_iload_n (pc := 97) cx 0 rfl dX3_removeFirst_97 rfl ?_
      exact gg_iret (pc := 98) cx hQ h dX3_removeFirst_98
    · have h := g_if c14 h
      refine gg_iconst (pc := 17) cx (v := (-1)) dX3_removeFirst_17 (by decide) ?_
      exact gg_iret (pc := 18) cx hQ h dX3_removeFirst_18
theorem cal_X1_count : g_Cal yX1_count cX1_count 6 (none) 4 := ⟨tw_7, tw_632, by decide, by decide, by decide +kernel⟩
theorem calv_X1_count : g_CalV yX1_count := ⟨tw_630, tw_631⟩
set_option maxRecDepth 100000 in
set_option maxHeartbeats 4000000 in
theorem ct_X1_count {l : Launch} (hl : l.stackTraces = false) {t : gT} (hC : g_hC t) {o0 : Nat} {x1 : Int32} {x2 : Int32} {y3 : Int64} {x5 : Int32} (v0 : o0 < 5) {M : gM} {K : gM → Prop} (h : wp_X1_count o0 x1 x2 y3 x5 M K) : Met l yX1_count (g_y yX1_count cX1_count 6 (none)) rm_X1_count (va_Pc [.ref (gAd t 1 o0), .int x1, .int x2, .long y3, .int x5] (g_Pre t M)) (va_Qv K (g_B t) (g_A t)) rm_X1_count.cells rm_X1_count.slots (g_A t) := by
  refine g_met hl rfl (Nat.le_of_ble_eq_true rfl) (fun X hlX cx hQ => ?_)
  subst hlX
  refine gg_iload_n (pc := 0) cx 1 rfl dX1_count_0 rfl ?_
  refine gg_if_lt (pc := 1) cx (tgt := 10) dX1_count_1 (by decide) (fun c1 => ?_) (fun c1 => ?_)
  · have h := g_it c1 h
    exact gg_vret (pc := 10) cx hQ h dX1_count_10
  · have h := g_if c1 h
    refine gg_iload_n (pc := 4) cx 1 rfl dX1_count_4 rfl ?_
    refine gg_bipush (pc := 5) cx (v := 16) dX1_count_5 (by decide) ?_
    refine gg_icmp_lt (pc := 7) cx (tgt := 11) dX1_count_7 (by decide) (fun c7 => ?_) (fun c7 => ?_)
    · have h := g_it c7 h
      refine gg_aload_n (pc := 11) cx 0 rfl dX1_count_11 rfl ?_
      refine gf_Flows_packetsSent (pc := 12) cx (hC 1 _ rfl v0) tw_203 dX1_count_12 ?_
      refine gg_iload_n (pc := 15) cx 1 rfl dX1_count_15 rfl ?_
      refine gg_dup2 (pc := 16) cx dX1_count_16 rfl rfl ?_
      have q17 := h.1
      have h := h.2
      refine gg_iald (pc := 17) cx (hC 14 _ rfl v0) rfl q17 dX1_count_17 ?_
      refine gg_iconst (pc := 18) cx (v := 1) dX1_count_18 (by decide) ?_
      refine gg_iadd (pc := 19) cx dX1_count_19 ?_
      have q20 := h.1
      have h := h.2
      refine gg_iast (pc := 20) cx (hC 14 _ rfl v0) (fun _ _ => rfl) q20 dX1_count_20 ?_
      refine gg_mem (fun M20 eM20 => ?_)
      have h := h M20 eM20
      refine gg_aload_n (pc := 21) cx 0 rfl dX1_count_21 rfl ?_
      refine gf_Flows_bytesSent (pc := 22) cx (hC 1 _ rfl v0) tw_205 dX1_count_22 ?_
      refine gg_iload_n (pc := 25) cx 1 rfl dX1_count_25 rfl ?_
      refine gg_dup2 (pc := 26) cx dX1_count_26 rfl rfl ?_
      have q27 := h.1
      have h := h.2
      refine gg_iald (pc := 27) cx (hC 15 _ rfl v0) rfl q27 dX1_count_27 ?_
      refine gg_iload_n (pc := 28) cx 2 rfl dX1_count_28 rfl ?_
      refine gg_iadd (pc := 29) cx dX1_count_29 ?_
      have q30 := h.1
      have h := h.2
      refine gg_iast (pc := 30) cx (hC 15 _ rfl v0) (fun _ _ => rfl) q30 dX1_count_30 ?_
      refine gg_mem (fun M30 eM30 => ?_)
      have h := h M30 eM30
      refine gg_aload_n (pc := 31) cx 0 rfl dX1_count_31 rfl ?_
      refine gf_Flows_delaySum (pc := 32) cx (hC 1 _ rfl v0) tw_207 dX1_count_32 ?_
      refine gg_iload_n (pc := 35) cx 1 rfl dX1_count_35 rfl ?_
      refine gg_dup2 (pc := 36) cx dX1_count_36 rfl rfl ?_
      have q37 := h.1
      have h := h.2
      refine gg_lald (pc := 37) cx (hC 16 _ rfl v0) rfl q37 dX1_count_37 ?_
      refine gg_lload_n (pc := 38) cx 3 rfl dX1_count_38 rfl ?_
      refine gg_ladd (pc := 39) cx dX1_count_39 ?_
      have q40 := h.1
      have h := h.2
      refine gg_last (pc := 40) cx (hC 16 _ rfl v0) (fun _ _ => rfl) q40 dX1_count_40 ?_
      refine gg_mem (fun M40 eM40 => ?_)
      have h := h M40 eM40
      refine gg_aload_n (pc := 41) cx 0 rfl dX1_count_41 rfl ?_
      refine gf_Flows_delayMaximum (pc := 42) cx (hC 1 _ rfl v0) tw_209 dX1_count_42 ?_
      refine gg_iload_n (pc := 45) cx 1 rfl dX1_count_45 rfl ?_
      refine gg_aload_n (pc := 46) cx 0 rfl dX1_count_46 rfl ?_
      refine gf_Flows_delayMaximum (pc := 47) cx (hC 1 _ rfl v0) tw_209 dX1_count_47 ?_
      refine gg_iload_n (pc := 50) cx 1 rfl dX1_count_50 rfl ?_
      have q51 := h.1
      have h := h.2
      refine gg_lald (pc := 51) cx (hC 17 _ rfl v0) rfl q51 dX1_count_51 ?_
      refine gg_lload_n (pc := 52) cx 3 rfl dX1_count_52 rfl ?_
      refine gg_mmaxL (pc := 53) cx tw_633 g_wmaxL ⟨Nat.le_of_ble_eq_true rfl, Nat.le_of_ble_eq_true rfl, Nat.le_of_ble_eq_true rfl, Nat.le_of_ble_eq_true rfl⟩ dX1_count_53 ?_
      have q56 := h.1
      have h := h.2
      refine gg_last (pc := 56) cx (hC 17 _ rfl v0) (fun _ _ => rfl) q56 dX1_count_56 ?_
      refine gg_mem (fun M56 eM56 => ?_)
      have h := h M56 eM56
      refine gg_iload (pc := 57) cx 4 rfl dX1_count_57 ?_
      refine gg_if_eq (pc := 59) cx (tgt := 72) dX1_count_59 (by decide) (fun c59 => ?_) (fun c59 => ?_)
      · have h := g_it c59 h
        exact gg_vret (pc := 72) cx hQ h dX1_count_72
      · have h := g_if c59 h
        refine gg_aload_n (pc := 62) cx 0 rfl dX1_count_62 rfl ?_
        refine gf_Flows_late (pc := 63) cx (hC 1 _ rfl v0) tw_211 dX1_count_63 ?_
        refine gg_iload_n (pc := 66) cx 1 rfl dX1_count_66 rfl ?_
        refine gg_dup2 (pc := 67) cx dX1_count_67 rfl rfl ?_
        have q68 := h.1
        have h := h.2
        refine gg_iald (pc := 68) cx (hC 18 _ rfl v0) rfl q68 dX1_count_68 ?_
        refine gg_iconst (pc := 69) cx (v := 1) dX1_count_69 (by decide) ?_
        refine gg_iadd (pc := 70) cx dX1_count_70 ?_
        have q71 := h.1
        have h := h.2
        refine gg_iast (pc := 71) cx (hC 18 _ rfl v0) (fun _ _ => rfl) q71 dX1_count_71 ?_
        refine gg_mem (fun M71 eM71 => ?_)
        have h := h M71 eM71
        exact gg_vret (pc := 72) cx hQ h dX1_count_72
    · have h := g_if c7 h
      exact gg_vret (pc := 10) cx hQ h dX1_count_10
set_option maxRecDepth 100000 in
set_option maxHeartbeats 4000000 in
theorem wk_X2_earliest_b38 {t : gT} {X : gX} (cx : g_Cx t X cX2_earliest 3 RX2 (some .int)) (hC : g_hC t) {K : Int32 → gM → Prop} (hQ : gXQ X = MQ (gXb X) (va_Qi K (g_B t) (g_A t)) (gXa X) (gXs X) rm_X2_earliest.cells rm_X2_earliest.slots (g_A t)) {R4 : Nat → Int32 → Int32 → gM → Prop} (hR4 : ∀ (o0 : Nat) (x1 : Int32) (x2 : Int32) (M : gM), o0 < 5 → R4 o0 x1 x2 M → G t rm_X2_earliest X 3 0 0 M [(0, .ref (gAd t 2 o0)), (1, .int x1), (2, .int x2)] [] 4) {o0 : Nat} {x2 : Int32} {M : gM} (v0 : o0 < 5) (h : wp_X2_earliest_b38 R4 K o0 x2 M) : G t rm_X2_earliest X 3 0 0 M [(0, .ref (gAd t 2 o0)), (2, .int x2)] [] 38 := by
  refine gg_iload_n (pc := 38) cx 1 rfl dX2_earliest_38 rfl ?_
  refine gg_istore_n (pc := 39) cx [(1, .int x2), (0, .ref (gAd t 2 o0)), (2, .int x2)] dX2_earliest_39 rfl (by decide) rfl ?_
  obtain ⟨n40, en40⟩ : ∃ z : Int32, z = x2 + Int32.ofInt (1) := ⟨_, rfl⟩
  have h := h n40 en40
  refine gg_iinc (pc := 40) cx 2 [(2, .int n40), (1, .int x2), (0, .ref (gAd t 2 o0))] dX2_earliest_40 rfl en40.symm (by decide) rfl ?_
  refine gg_goto (pc := 43) cx (tgt := 4) dX2_earliest_43 (by decide) ?_
  refine gg_lv (lv' := [(0, .ref (gAd t 2 o0)), (1, .int x2), (2, .int n40)]) [2, 1, 0] rfl ?_
  exact hR4 o0 x2 n40 M v0 h
set_option maxRecDepth 100000 in
set_option maxHeartbeats 4000000 in
theorem wk_X2_earliest_L4 {t : gT} {X : gX} (cx : g_Cx t X cX2_earliest 3 RX2 (some .int)) (hC : g_hC t) {K : Int32 → gM → Prop} (hQ : gXQ X = MQ (gXb X) (va_Qi K (g_B t) (g_A t)) (gXa X) (gXs X) rm_X2_earliest.cells rm_X2_earliest.slots (g_A t)) (f : Nat) : ∀ (o0 : Nat) (x1 : Int32) (x2 : Int32) (M : gM), o0 < 5 → wp_X2_earliest_L4 K f o0 x1 x2 M → G t rm_X2_earliest X 3 0 0 M [(0, .ref (gAd t 2 o0)), (1, .int x1), (2, .int x2)] [] 4 := by
  induction f with
  | zero => intro _ _ _ _ _ _; exact False.elim (by assumption)
  | succ f ih =>
    intro o0 x1 x2 M v0 h
    refine gg_iload_n (pc := 4) cx 2 rfl dX2_earliest_4 rfl ?_
    refine gg_aload_n (pc := 5) cx 0 rfl dX2_earliest_5 rfl ?_
    refine gf_Line_size (pc := 6) cx (hC 2 _ rfl v0) tw_234 dX2_earliest_6 ?_
    refine gg_icmp_ge (pc := 9) cx (tgt := 46) dX2_earliest_9 (by decide) (fun c9 => ?_) (fun c9 => ?_)
    · have h := g_it c9 h
      refine gg_iload_n (pc := 46) cx 1 rfl dX2_earliest_46 rfl ?_
      exact gg_iret (pc := 47) cx hQ h dX2_earliest_47
    · have h := g_if c9 h
      refine gg_iload_n (pc := 12) cx 2 rfl dX2_earliest_12 rfl ?_
      refine gg_bipush (pc := 13) cx (v := 64) dX2_earliest_13 (by decide) ?_
      refine gg_icmp_ge (pc := 15) cx (tgt := 46) dX2_earliest_15 (by decide) (fun c15 => ?_) (fun c15 => ?_)
      · have h := g_it c15 h
        refine gg_iload_n (pc := 46) cx 1 rfl dX2_earliest_46 rfl ?_
        exact gg_iret (pc := 47) cx hQ h dX2_earliest_47
      · have h := g_if c15 h
        refine gg_iload_n (pc := 18) cx 1 rfl dX2_earliest_18 rfl ?_
        refine gg_if_lt (pc := 19) cx (tgt := 38) dX2_earliest_19 (by decide) (fun c19 => ?_) (fun c19 => ?_)
        · have h := g_it c19 h
          refine gg_lv (lv' := [(0, .ref (gAd t 2 o0)), (2, .int x2)]) [0, 2] rfl ?_
          exact wk_X2_earliest_b38 cx hC hQ ih v0 h
        · have h := g_if c19 h
          refine gg_aload_n (pc := 22) cx 0 rfl dX2_earliest_22 rfl ?_
          refine gf_Line_release (pc := 23) cx (hC 2 _ rfl v0) tw_241 dX2_earliest_23 ?_
          refine gg_iload_n (pc := 26) cx 2 rfl dX2_earliest_26 rfl ?_
          have q27 := h.1
          have h := h.2
          refine gg_lald (pc := 27) cx (hC 21 _ rfl v0) rfl q27 dX2_earliest_27 ?_
          refine gg_aload_n (pc := 28) cx 0 rfl dX2_earliest_28 rfl ?_
          refine gf_Line_release (pc := 29) cx (hC 2 _ rfl v0) tw_241 dX2_earliest_29 ?_
          refine gg_iload_n (pc := 32) cx 1 rfl dX2_earliest_32 rfl ?_
          have q33 := h.1
          have h := h.2
          refine gg_lald (pc := 33) cx (hC 21 _ rfl v0) rfl q33 dX2_earliest_33 ?_
          refine gg_lcmp_ge (pc := 34) cx (tgt := 40) dX2_earliest_34 dX2_earliest_35 (by decide) (fun c34 => ?_) (fun c34 => ?_)
          · have h := g_it c34 h
            obtain ⟨n40, en40⟩ : ∃ z : Int32, z = x2 + Int32.ofInt (1) := ⟨_, rfl⟩
            have h := h n40 en40
            refine gg_iinc (pc := 40) cx 2 [(2, .int n40), (0, .ref (gAd t 2 o0)), (1, .int x1)] dX2_earliest_40 rfl en40.symm (by decide) rfl ?_
            refine gg_goto (pc := 43) cx (tgt := 4) dX2_earliest_43 (by decide) ?_
            refine gg_lv (lv' := [(0, .ref (gAd t 2 o0)), (1, .int x1), (2, .int n40)]) [1, 2, 0] rfl ?_
            exact ih o0 x1 n40 M v0 h
          · have h := g_if c34 h
            refine gg_lv (lv' := [(0, .ref (gAd t 2 o0)), (2, .int x2)]) [0, 2] rfl ?_
            exact wk_X2_earliest_b38 cx hC hQ ih v0 h
theorem cal_X2_earliest : g_Cal yX2_earliest cX2_earliest 3 (some .int) 0 := ⟨tw_8, tw_657, by decide, by decide, by decide +kernel⟩
theorem calv_X2_earliest : g_CalV yX2_earliest := ⟨tw_655, tw_656⟩
set_option maxRecDepth 100000 in
set_option maxHeartbeats 4000000 in
theorem ct_X2_earliest {l : Launch} (hl : l.stackTraces = false) {t : gT} (hC : g_hC t) {o0 : Nat} (v0 : o0 < 5) {M : gM} {K : Int32 → gM → Prop} (h : wp_X2_earliest o0 M K) : Met l yX2_earliest (g_y yX2_earliest cX2_earliest 3 (some .int)) rm_X2_earliest (va_Pc [.ref (gAd t 2 o0)] (g_Pre t M)) (va_Qi K (g_B t) (g_A t)) rm_X2_earliest.cells rm_X2_earliest.slots (g_A t) := by
  refine g_met hl rfl (Nat.le_of_ble_eq_true rfl) (fun X hlX cx hQ => ?_)
  subst hlX
  refine gg_iconst (pc := 0) cx (v := (-1)) dX2_earliest_0 (by decide) ?_
  refine gg_istore_n (pc := 1) cx [(1, .int (-1)), (0, .ref (gAd t 2 o0))] dX2_earliest_1 rfl (by decide) rfl ?_
  refine gg_iconst (pc := 2) cx (v := 0) dX2_earliest_2 (by decide) ?_
  refine gg_istore_n (pc := 3) cx [(2, .int 0), (1, .int (-1)), (0, .ref (gAd t 2 o0))] dX2_earliest_3 rfl (by decide) rfl ?_
  refine gg_lv (lv' := [(0, .ref (gAd t 2 o0)), (1, .int (-1)), (2, .int 0)]) [2, 1, 0] rfl ?_
  obtain ⟨f4, h⟩ := h
  exact wk_X2_earliest_L4 cx hC hQ f4 o0 (-1) 0 M v0 h
theorem cal_X2_remove : g_Cal yX2_remove cX2_remove 2 (none) 1 := ⟨tw_8, tw_661, by decide, by decide, by decide +kernel⟩
theorem calv_X2_remove : g_CalV yX2_remove := ⟨tw_659, tw_660⟩
set_option maxRecDepth 100000 in
set_option maxHeartbeats 4000000 in
theorem ct_X2_remove {l : Launch} (hl : l.stackTraces = false) {t : gT} (hC : g_hC t) {o0 : Nat} {x1 : Int32} (v0 : o0 < 5) {M : gM} {K : gM → Prop} (h : wp_X2_remove o0 x1 M K) : Met l yX2_remove (g_y yX2_remove cX2_remove 2 (none)) rm_X2_remove (va_Pc [.ref (gAd t 2 o0), .int x1] (g_Pre t M)) (va_Qv K (g_B t) (g_A t)) rm_X2_remove.cells rm_X2_remove.slots (g_A t) := by
  refine g_met hl rfl (Nat.le_of_ble_eq_true rfl) (fun X hlX cx hQ => ?_)
  subst hlX
  refine gg_iload_n (pc := 0) cx 1 rfl dX2_remove_0 rfl ?_
  refine gg_if_lt (pc := 1) cx (tgt := 21) dX2_remove_1 (by decide) (fun c1 => ?_) (fun c1 => ?_)
  · have h := g_it c1 h
    exact gg_vret (pc := 21) cx hQ h dX2_remove_21
  · have h := g_if c1 h
    refine gg_iload_n (pc := 4) cx 1 rfl dX2_remove_4 rfl ?_
    refine gg_aload_n (pc := 5) cx 0 rfl dX2_remove_5 rfl ?_
    refine gf_Line_size (pc := 6) cx (hC 2 _ rfl v0) tw_234 dX2_remove_6 ?_
    refine gg_icmp_ge (pc := 9) cx (tgt := 21) dX2_remove_9 (by decide) (fun c9 => ?_) (fun c9 => ?_)
    · have h := g_it c9 h
      exact gg_vret (pc := 21) cx hQ h dX2_remove_21
    · have h := g_if c9 h
      refine gg_aload_n (pc := 12) cx 0 rfl dX2_remove_12 rfl ?_
      refine gf_Line_size (pc := 13) cx (hC 2 _ rfl v0) tw_234 dX2_remove_13 ?_
      refine gg_bipush (pc := 16) cx (v := 64) dX2_remove_16 (by decide) ?_
      refine gg_icmp_le (pc := 18) cx (tgt := 22) dX2_remove_18 (by decide) (fun c18 => ?_) (fun c18 => ?_)
      · have h := g_it c18 h
        refine gg_aload_n (pc := 22) cx 0 rfl dX2_remove_22 rfl ?_
        refine gg_dup (pc := 23) cx dX2_remove_23 rfl ?_
        refine gf_Line_size (pc := 24) cx (hC 2 _ rfl v0) tw_234 dX2_remove_24 ?_
        refine gg_iconst (pc := 27) cx (v := 1) dX2_remove_27 (by decide) ?_
        refine gg_isub (pc := 28) cx dX2_remove_28 ?_
        refine gp_Line_size (pc := 29) cx (hC 2 _ rfl v0) tw_234 dX2_remove_29 ?_
        refine gg_mem (fun M29 eM29 => ?_)
        have h := h M29 eM29
        refine gg_aload_n (pc := 32) cx 0 rfl dX2_remove_32 rfl ?_
        refine gf_Line_node (pc := 33) cx (hC 2 _ rfl v0) tw_237 dX2_remove_33 ?_
        refine gg_iload_n (pc := 36) cx 1 rfl dX2_remove_36 rfl ?_
        refine gg_iconst (pc := 37) cx (v := 1) dX2_remove_37 (by decide) ?_
        refine gg_iadd (pc := 38) cx dX2_remove_38 ?_
        refine gg_aload_n (pc := 39) cx 0 rfl dX2_remove_39 rfl ?_
        refine gf_Line_node (pc := 40) cx (hC 2 _ rfl v0) tw_237 dX2_remove_40 ?_
        refine gg_iload_n (pc := 43) cx 1 rfl dX2_remove_43 rfl ?_
        refine gg_aload_n (pc := 44) cx 0 rfl dX2_remove_44 rfl ?_
        refine gf_Line_size (pc := 45) cx (hC 2 _ rfl v0) tw_234 dX2_remove_45 ?_
        refine gg_iload_n (pc := 48) cx 1 rfl dX2_remove_48 rfl ?_
        refine gg_isub (pc := 49) cx dX2_remove_49 ?_
        obtain ⟨a50, b50, c50, d50, e50, h⟩ := h
        refine gg_copyI (pc := 50) cx g_wcpy tw_662 (hC 19 _ rfl v0) (hC 19 _ rfl v0) rfl (fun _ _ => rfl) a50 b50 c50 d50 e50 ⟨Nat.le_of_ble_eq_true rfl, Nat.le_of_ble_eq_true rfl⟩ dX2_remove_50 ?_
        refine gg_mem (fun M50 eM50 => ?_)
        have h := h M50 eM50
        refine gg_aload_n (pc := 53) cx 0 rfl dX2_remove_53 rfl ?_
        refine gf_Line_packet (pc := 54) cx (hC 2 _ rfl v0) tw_239 dX2_remove_54 ?_
        refine gg_iload_n (pc := 57) cx 1 rfl dX2_remove_57 rfl ?_
        refine gg_iconst (pc := 58) cx (v := 1) dX2_remove_58 (by decide) ?_
        refine gg_iadd (pc := 59) cx dX2_remove_59 ?_
        refine gg_aload_n (pc := 60) cx 0 rfl dX2_remove_60 rfl ?_
        refine gf_Line_packet (pc := 61) cx (hC 2 _ rfl v0) tw_239 dX2_remove_61 ?_
        refine gg_iload_n (pc := 64) cx 1 rfl dX2_remove_64 rfl ?_
        refine gg_aload_n (pc := 65) cx 0 rfl dX2_remove_65 rfl ?_
        refine gf_Line_size (pc := 66) cx (hC 2 _ rfl v0) tw_234 dX2_remove_66 ?_
        refine gg_iload_n (pc := 69) cx 1 rfl dX2_remove_69 rfl ?_
        refine gg_isub (pc := 70) cx dX2_remove_70 ?_
        obtain ⟨a71, b71, c71, d71, e71, h⟩ := h
        refine gg_copyI (pc := 71) cx g_wcpy tw_662 (hC 20 _ rfl v0) (hC 20 _ rfl v0) rfl (fun _ _ => rfl) a71 b71 c71 d71 e71 ⟨Nat.le_of_ble_eq_true rfl, Nat.le_of_ble_eq_true rfl⟩ dX2_remove_71 ?_
        refine gg_mem (fun M71 eM71 => ?_)
        have h := h M71 eM71
        refine gg_aload_n (pc := 74) cx 0 rfl dX2_remove_74 rfl ?_
        refine gf_Line_release (pc := 75) cx (hC 2 _ rfl v0) tw_241 dX2_remove_75 ?_
        refine gg_iload_n (pc := 78) cx 1 rfl dX2_remove_78 rfl ?_
        refine gg_iconst (pc := 79) cx (v := 1) dX2_remove_79 (by decide) ?_
        refine gg_iadd (pc := 80) cx dX2_remove_80 ?_
        refine gg_aload_n (pc := 81) cx 0 rfl dX2_remove_81 rfl ?_
        refine gf_Line_release (pc := 82) cx (hC 2 _ rfl v0) tw_241 dX2_remove_82 ?_
        refine gg_iload_n (pc := 85) cx 1 rfl dX2_remove_85 rfl ?_
        refine gg_aload_n (pc := 86) cx 0 rfl dX2_remove_86 rfl ?_
        refine gf_Line_size (pc := 87) cx (hC 2 _ rfl v0) tw_234 dX2_remove_87 ?_
        refine gg_iload_n (pc := 90) cx 1 rfl dX2_remove_90 rfl ?_
        refine gg_isub (pc := 91) cx dX2_remove_91 ?_
        obtain ⟨a92, b92, c92, d92, e92, h⟩ := h
        refine gg_copyL (pc := 92) cx g_wcpy tw_662 (hC 21 _ rfl v0) (hC 21 _ rfl v0) rfl (fun _ _ => rfl) a92 b92 c92 d92 e92 ⟨Nat.le_of_ble_eq_true rfl, Nat.le_of_ble_eq_true rfl⟩ dX2_remove_92 ?_
        refine gg_mem (fun M92 eM92 => ?_)
        have h := h M92 eM92
        exact gg_vret (pc := 95) cx hQ h dX2_remove_95
      · have h := g_if c18 h
        exact gg_vret (pc := 21) cx hQ h dX2_remove_21
theorem cal_X2_earliestRelease : g_Cal yX2_earliestRelease cX2_earliestRelease 2 (some .long) 0 := ⟨tw_8, tw_730, by decide, by decide, by decide +kernel⟩
theorem calv_X2_earliestRelease : g_CalV yX2_earliestRelease := ⟨tw_728, tw_729⟩
set_option maxRecDepth 100000 in
set_option maxHeartbeats 4000000 in
theorem ct_X2_earliestRelease {l : Launch} (hl : l.stackTraces = false) {t : gT} (hC : g_hC t) {o0 : Nat} (v0 : o0 < 5) {M : gM} {K : Int64 → gM → Prop} (h : wp_X2_earliestRelease o0 M K) : Met l yX2_earliestRelease (g_y yX2_earliestRelease cX2_earliestRelease 2 (some .long)) rm_X2_earliestRelease (va_Pc [.ref (gAd t 2 o0)] (g_Pre t M)) (va_Ql K (g_B t) (g_A t)) rm_X2_earliestRelease.cells rm_X2_earliestRelease.slots (g_A t) := by
  refine g_met hl rfl (Nat.le_of_ble_eq_true rfl) (fun X hlX cx hQ => ?_)
  subst hlX
  refine gg_aload_n (pc := 0) cx 0 rfl dX2_earliestRelease_0 rfl ?_
  refine gg_callVi (pc := 1) cx cal_X2_earliest calv_X2_earliest (ct_X2_earliest cx.tr hC v0 h) tw_731 (hC 2 _ rfl v0) rfl rfl rfl (st := []) rfl (Nat.le_of_ble_eq_true rfl) ⟨Nat.le_of_ble_eq_true rfl, Nat.le_of_ble_eq_true rfl⟩ ⟨Nat.le_of_ble_eq_true rfl, Nat.le_of_ble_eq_true rfl⟩ dX2_earliestRelease_1 (fun r1 M1 h => ?_)
  refine gg_istore_n (pc := 4) cx [(1, .int r1), (0, .ref (gAd t 2 o0))] dX2_earliestRelease_4 rfl (by decide) rfl ?_
  refine gg_iload_n (pc := 5) cx 0 rfl dX2_earliestRelease_5 rfl ?_
  refine gg_if_ge (pc := 6) cx (tgt := 15) dX2_earliestRelease_6 (by decide) (fun c6 => ?_) (fun c6 => ?_)
  · have h := g_it c6 h
    refine gg_aload_n (pc := 15) cx 1 rfl dX2_earliestRelease_15 rfl ?_
    refine gf_Line_release (pc := 16) cx (hC 2 _ rfl v0) tw_241 dX2_earliestRelease_16 ?_
    refine gg_iload_n (pc := 19) cx 0 rfl dX2_earliestRelease_19 rfl ?_
    have q20 := h.1
    have h := h.2
    refine gg_lald (pc := 20) cx (hC 21 _ rfl v0) rfl q20 dX2_earliestRelease_20 ?_
    exact gg_lret (pc := 21) cx hQ h dX2_earliestRelease_21
  · have h := g_if c6 h
    refine gg_ldc2 (pc := 9) cx (v := (-1)) tw_732 dX2_earliestRelease_9 ?_
    refine gg_goto (pc := 12) cx (tgt := 21) dX2_earliestRelease_12 (by decide) ?_
    exact gg_lret (pc := 21) cx hQ h dX2_earliestRelease_21
theorem cal_X4_copyFrom : g_Cal yX4_copyFrom cX4_copyFrom 3 (none) 1 := ⟨tw_6, tw_1060, by decide, by decide, by decide +kernel⟩
theorem calv_X4_copyFrom : g_CalV yX4_copyFrom := ⟨tw_1058, tw_1059⟩
set_option maxRecDepth 100000 in
set_option maxHeartbeats 4000000 in
theorem ct_X4_copyFrom {l : Launch} (hl : l.stackTraces = false) {t : gT} (hC : g_hC t) {o0 : Nat} {o1 : Nat} (v0 : o0 < 5) (v1 : o1 < 5) {M : gM} {K : gM → Prop} (h : wp_X4_copyFrom o0 o1 M K) : Met l yX4_copyFrom (g_y yX4_copyFrom cX4_copyFrom 3 (none)) rm_X4_copyFrom (va_Pc [.ref (gAd t 4 o0), .ref (gAd t 4 o1)] (g_Pre t M)) (va_Qv K (g_B t) (g_A t)) rm_X4_copyFrom.cells rm_X4_copyFrom.slots (g_A t) := by
  refine g_met hl rfl (Nat.le_of_ble_eq_true rfl) (fun X hlX cx hQ => ?_)
  subst hlX
  refine gg_iconst (pc := 0) cx (v := 0) dX4_copyFrom_0 (by decide) ?_
  refine gg_aload_n (pc := 1) cx 1 rfl dX4_copyFrom_1 rfl ?_
  refine gf_Packets_arrived (pc := 2) cx (hC 4 _ rfl v1) tw_158 dX4_copyFrom_2 ?_
  refine gg_sipush (pc := 5) cx (v := 500) dX4_copyFrom_5 (by decide) ?_
  refine gg_mminI (pc := 8) cx tw_1061 g_wminI ⟨Nat.le_of_ble_eq_true rfl, Nat.le_of_ble_eq_true rfl, Nat.le_of_ble_eq_true rfl, Nat.le_of_ble_eq_true rfl⟩ dX4_copyFrom_8 ?_
  refine gg_mmaxI (pc := 11) cx tw_1062 g_wmaxI ⟨Nat.le_of_ble_eq_true rfl, Nat.le_of_ble_eq_true rfl, Nat.le_of_ble_eq_true rfl, Nat.le_of_ble_eq_true rfl⟩ dX4_copyFrom_11 ?_
  refine gg_topi (fun n14 en14 => ?_)
  have h := h n14 en14
  refine gg_istore_n (pc := 14) cx [(2, .int n14), (0, .ref (gAd t 4 o0)), (1, .ref (gAd t 4 o1))] dX4_copyFrom_14 rfl (by decide) rfl ?_
  refine gg_aload_n (pc := 15) cx 1 rfl dX4_copyFrom_15 rfl ?_
  refine gg_iload_n (pc := 16) cx 0 rfl dX4_copyFrom_16 rfl ?_
  refine gp_Packets_arrived (pc := 17) cx (hC 4 _ rfl v0) tw_158 dX4_copyFrom_17 ?_
  refine gg_mem (fun M17 eM17 => ?_)
  have h := h M17 eM17
  refine gg_aload_n (pc := 20) cx 2 rfl dX4_copyFrom_20 rfl ?_
  refine gf_Packets_flow (pc := 21) cx (hC 4 _ rfl v1) tw_161 dX4_copyFrom_21 ?_
  refine gg_iconst (pc := 24) cx (v := 0) dX4_copyFrom_24 (by decide) ?_
  refine gg_aload_n (pc := 25) cx 1 rfl dX4_copyFrom_25 rfl ?_
  refine gf_Packets_flow (pc := 26) cx (hC 4 _ rfl v0) tw_161 dX4_copyFrom_26 ?_
  refine gg_iconst (pc := 29) cx (v := 0) dX4_copyFrom_29 (by decide) ?_
  refine gg_iload_n (pc := 30) cx 0 rfl dX4_copyFrom_30 rfl ?_
  obtain ⟨a31, b31, c31, d31, e31, h⟩ := h
  refine gg_copyI (pc := 31) cx g_wcpy tw_1063 (hC 26 _ rfl v1) (hC 26 _ rfl v0) rfl (fun _ _ => rfl) a31 b31 c31 d31 e31 ⟨Nat.le_of_ble_eq_true rfl, Nat.le_of_ble_eq_true rfl⟩ dX4_copyFrom_31 ?_
  refine gg_mem (fun M31 eM31 => ?_)
  have h := h M31 eM31
  refine gg_aload_n (pc := 34) cx 2 rfl dX4_copyFrom_34 rfl ?_
  refine gf_Packets_length (pc := 35) cx (hC 4 _ rfl v1) tw_164 dX4_copyFrom_35 ?_
  refine gg_iconst (pc := 38) cx (v := 0) dX4_copyFrom_38 (by decide) ?_
  refine gg_aload_n (pc := 39) cx 1 rfl dX4_copyFrom_39 rfl ?_
  refine gf_Packets_length (pc := 40) cx (hC 4 _ rfl v0) tw_164 dX4_copyFrom_40 ?_
  refine gg_iconst (pc := 43) cx (v := 0) dX4_copyFrom_43 (by decide) ?_
  refine gg_iload_n (pc := 44) cx 0 rfl dX4_copyFrom_44 rfl ?_
  obtain ⟨a45, b45, c45, d45, e45, h⟩ := h
  refine gg_copyI (pc := 45) cx g_wcpy tw_1063 (hC 27 _ rfl v1) (hC 27 _ rfl v0) rfl (fun _ _ => rfl) a45 b45 c45 d45 e45 ⟨Nat.le_of_ble_eq_true rfl, Nat.le_of_ble_eq_true rfl⟩ dX4_copyFrom_45 ?_
  refine gg_mem (fun M45 eM45 => ?_)
  have h := h M45 eM45
  refine gg_aload_n (pc := 48) cx 2 rfl dX4_copyFrom_48 rfl ?_
  refine gf_Packets_priority (pc := 49) cx (hC 4 _ rfl v1) tw_166 dX4_copyFrom_49 ?_
  refine gg_iconst (pc := 52) cx (v := 0) dX4_copyFrom_52 (by decide) ?_
  refine gg_aload_n (pc := 53) cx 1 rfl dX4_copyFrom_53 rfl ?_
  refine gf_Packets_priority (pc := 54) cx (hC 4 _ rfl v0) tw_166 dX4_copyFrom_54 ?_
  refine gg_iconst (pc := 57) cx (v := 0) dX4_copyFrom_57 (by decide) ?_
  refine gg_iload_n (pc := 58) cx 0 rfl dX4_copyFrom_58 rfl ?_
  obtain ⟨a59, b59, c59, d59, e59, h⟩ := h
  refine gg_copyI (pc := 59) cx g_wcpy tw_1063 (hC 28 _ rfl v1) (hC 28 _ rfl v0) rfl (fun _ _ => rfl) a59 b59 c59 d59 e59 ⟨Nat.le_of_ble_eq_true rfl, Nat.le_of_ble_eq_true rfl⟩ dX4_copyFrom_59 ?_
  refine gg_mem (fun M59 eM59 => ?_)
  have h := h M59 eM59
  refine gg_aload_n (pc := 62) cx 2 rfl dX4_copyFrom_62 rfl ?_
  refine gf_Packets_arrival (pc := 63) cx (hC 4 _ rfl v1) tw_168 dX4_copyFrom_63 ?_
  refine gg_iconst (pc := 66) cx (v := 0) dX4_copyFrom_66 (by decide) ?_
  refine gg_aload_n (pc := 67) cx 1 rfl dX4_copyFrom_67 rfl ?_
  refine gf_Packets_arrival (pc := 68) cx (hC 4 _ rfl v0) tw_168 dX4_copyFrom_68 ?_
  refine gg_iconst (pc := 71) cx (v := 0) dX4_copyFrom_71 (by decide) ?_
  refine gg_iload_n (pc := 72) cx 0 rfl dX4_copyFrom_72 rfl ?_
  obtain ⟨a73, b73, c73, d73, e73, h⟩ := h
  refine gg_copyL (pc := 73) cx g_wcpy tw_1063 (hC 29 _ rfl v1) (hC 29 _ rfl v0) rfl (fun _ _ => rfl) a73 b73 c73 d73 e73 ⟨Nat.le_of_ble_eq_true rfl, Nat.le_of_ble_eq_true rfl⟩ dX4_copyFrom_73 ?_
  refine gg_mem (fun M73 eM73 => ?_)
  have h := h M73 eM73
  refine gg_aload_n (pc := 76) cx 2 rfl dX4_copyFrom_76 rfl ?_
  refine gf_Packets_deadline (pc := 77) cx (hC 4 _ rfl v1) tw_170 dX4_copyFrom_77 ?_
  refine gg_iconst (pc := 80) cx (v := 0) dX4_copyFrom_80 (by decide) ?_
  refine gg_aload_n (pc := 81) cx 1 rfl dX4_copyFrom_81 rfl ?_
  refine gf_Packets_deadline (pc := 82) cx (hC 4 _ rfl v0) tw_170 dX4_copyFrom_82 ?_
  refine gg_iconst (pc := 85) cx (v := 0) dX4_copyFrom_85 (by decide) ?_
  refine gg_iload_n (pc := 86) cx 0 rfl dX4_copyFrom_86 rfl ?_
  obtain ⟨a87, b87, c87, d87, e87, h⟩ := h
  refine gg_copyL (pc := 87) cx g_wcpy tw_1063 (hC 30 _ rfl v1) (hC 30 _ rfl v0) rfl (fun _ _ => rfl) a87 b87 c87 d87 e87 ⟨Nat.le_of_ble_eq_true rfl, Nat.le_of_ble_eq_true rfl⟩ dX4_copyFrom_87 ?_
  refine gg_mem (fun M87 eM87 => ?_)
  have h := h M87 eM87
  refine gg_aload_n (pc := 90) cx 2 rfl dX4_copyFrom_90 rfl ?_
  refine gf_Packets_departure (pc := 91) cx (hC 4 _ rfl v1) tw_173 dX4_copyFrom_91 ?_
  refine gg_iconst (pc := 94) cx (v := 0) dX4_copyFrom_94 (by decide) ?_
  refine gg_aload_n (pc := 95) cx 1 rfl dX4_copyFrom_95 rfl ?_
  refine gf_Packets_departure (pc := 96) cx (hC 4 _ rfl v0) tw_173 dX4_copyFrom_96 ?_
  refine gg_iconst (pc := 99) cx (v := 0) dX4_copyFrom_99 (by decide) ?_
  refine gg_iload_n (pc := 100) cx 0 rfl dX4_copyFrom_100 rfl ?_
  obtain ⟨a101, b101, c101, d101, e101, h⟩ := h
  refine gg_copyL (pc := 101) cx g_wcpy tw_1063 (hC 31 _ rfl v1) (hC 31 _ rfl v0) rfl (fun _ _ => rfl) a101 b101 c101 d101 e101 ⟨Nat.le_of_ble_eq_true rfl, Nat.le_of_ble_eq_true rfl⟩ dX4_copyFrom_101 ?_
  refine gg_mem (fun M101 eM101 => ?_)
  have h := h M101 eM101
  exact gg_vret (pc := 104) cx hQ h dX4_copyFrom_104
theorem cal_X1_copyFrom : g_Cal yX1_copyFrom cX1_copyFrom 2 (none) 1 := ⟨tw_7, tw_1067, by decide, by decide, by decide +kernel⟩
theorem calv_X1_copyFrom : g_CalV yX1_copyFrom := ⟨tw_1065, tw_1066⟩
set_option maxRecDepth 100000 in
set_option maxHeartbeats 4000000 in
theorem ct_X1_copyFrom {l : Launch} (hl : l.stackTraces = false) {t : gT} (hC : g_hC t) {o0 : Nat} {o1 : Nat} (v0 : o0 < 5) (v1 : o1 < 5) {M : gM} {K : gM → Prop} (h : wp_X1_copyFrom o0 o1 M K) : Met l yX1_copyFrom (g_y yX1_copyFrom cX1_copyFrom 2 (none)) rm_X1_copyFrom (va_Pc [.ref (gAd t 1 o0), .ref (gAd t 1 o1)] (g_Pre t M)) (va_Qv K (g_B t) (g_A t)) rm_X1_copyFrom.cells rm_X1_copyFrom.slots (g_A t) := by
  refine g_met hl rfl (Nat.le_of_ble_eq_true rfl) (fun X hlX cx hQ => ?_)
  subst hlX
  refine gg_aload_n (pc := 0) cx 1 rfl dX1_copyFrom_0 rfl ?_
  refine gf_Flows_weight (pc := 1) cx (hC 1 _ rfl v1) tw_197 dX1_copyFrom_1 ?_
  refine gg_iconst (pc := 4) cx (v := 0) dX1_copyFrom_4 (by decide) ?_
  refine gg_aload_n (pc := 5) cx 0 rfl dX1_copyFrom_5 rfl ?_
  refine gf_Flows_weight (pc := 6) cx (hC 1 _ rfl v0) tw_197 dX1_copyFrom_6 ?_
  refine gg_iconst (pc := 9) cx (v := 0) dX1_copyFrom_9 (by decide) ?_
  refine gg_bipush (pc := 10) cx (v := 16) dX1_copyFrom_10 (by decide) ?_
  obtain ⟨a12, b12, c12, d12, e12, h⟩ := h
  refine gg_copyI (pc := 12) cx g_wcpy tw_1068 (hC 12 _ rfl v1) (hC 12 _ rfl v0) rfl (fun _ _ => rfl) a12 b12 c12 d12 e12 ⟨Nat.le_of_ble_eq_true rfl, Nat.le_of_ble_eq_true rfl⟩ dX1_copyFrom_12 ?_
  refine gg_mem (fun M12 eM12 => ?_)
  have h := h M12 eM12
  refine gg_aload_n (pc := 15) cx 1 rfl dX1_copyFrom_15 rfl ?_
  refine gf_Flows_leaf (pc := 16) cx (hC 1 _ rfl v1) tw_200 dX1_copyFrom_16 ?_
  refine gg_iconst (pc := 19) cx (v := 0) dX1_copyFrom_19 (by decide) ?_
  refine gg_aload_n (pc := 20) cx 0 rfl dX1_copyFrom_20 rfl ?_
  refine gf_Flows_leaf (pc := 21) cx (hC 1 _ rfl v0) tw_200 dX1_copyFrom_21 ?_
  refine gg_iconst (pc := 24) cx (v := 0) dX1_copyFrom_24 (by decide) ?_
  refine gg_bipush (pc := 25) cx (v := 16) dX1_copyFrom_25 (by decide) ?_
  obtain ⟨a27, b27, c27, d27, e27, h⟩ := h
  refine gg_copyI (pc := 27) cx g_wcpy tw_1068 (hC 13 _ rfl v1) (hC 13 _ rfl v0) rfl (fun _ _ => rfl) a27 b27 c27 d27 e27 ⟨Nat.le_of_ble_eq_true rfl, Nat.le_of_ble_eq_true rfl⟩ dX1_copyFrom_27 ?_
  refine gg_mem (fun M27 eM27 => ?_)
  have h := h M27 eM27
  refine gg_aload_n (pc := 30) cx 1 rfl dX1_copyFrom_30 rfl ?_
  refine gf_Flows_packetsSent (pc := 31) cx (hC 1 _ rfl v1) tw_203 dX1_copyFrom_31 ?_
  refine gg_iconst (pc := 34) cx (v := 0) dX1_copyFrom_34 (by decide) ?_
  refine gg_aload_n (pc := 35) cx 0 rfl dX1_copyFrom_35 rfl ?_
  refine gf_Flows_packetsSent (pc := 36) cx (hC 1 _ rfl v0) tw_203 dX1_copyFrom_36 ?_
  refine gg_iconst (pc := 39) cx (v := 0) dX1_copyFrom_39 (by decide) ?_
  refine gg_bipush (pc := 40) cx (v := 16) dX1_copyFrom_40 (by decide) ?_
  obtain ⟨a42, b42, c42, d42, e42, h⟩ := h
  refine gg_copyI (pc := 42) cx g_wcpy tw_1068 (hC 14 _ rfl v1) (hC 14 _ rfl v0) rfl (fun _ _ => rfl) a42 b42 c42 d42 e42 ⟨Nat.le_of_ble_eq_true rfl, Nat.le_of_ble_eq_true rfl⟩ dX1_copyFrom_42 ?_
  refine gg_mem (fun M42 eM42 => ?_)
  have h := h M42 eM42
  refine gg_aload_n (pc := 45) cx 1 rfl dX1_copyFrom_45 rfl ?_
  refine gf_Flows_bytesSent (pc := 46) cx (hC 1 _ rfl v1) tw_205 dX1_copyFrom_46 ?_
  refine gg_iconst (pc := 49) cx (v := 0) dX1_copyFrom_49 (by decide) ?_
  refine gg_aload_n (pc := 50) cx 0 rfl dX1_copyFrom_50 rfl ?_
  refine gf_Flows_bytesSent (pc := 51) cx (hC 1 _ rfl v0) tw_205 dX1_copyFrom_51 ?_
  refine gg_iconst (pc := 54) cx (v := 0) dX1_copyFrom_54 (by decide) ?_
  refine gg_bipush (pc := 55) cx (v := 16) dX1_copyFrom_55 (by decide) ?_
  obtain ⟨a57, b57, c57, d57, e57, h⟩ := h
  refine gg_copyI (pc := 57) cx g_wcpy tw_1068 (hC 15 _ rfl v1) (hC 15 _ rfl v0) rfl (fun _ _ => rfl) a57 b57 c57 d57 e57 ⟨Nat.le_of_ble_eq_true rfl, Nat.le_of_ble_eq_true rfl⟩ dX1_copyFrom_57 ?_
  refine gg_mem (fun M57 eM57 => ?_)
  have h := h M57 eM57
  refine gg_aload_n (pc := 60) cx 1 rfl dX1_copyFrom_60 rfl ?_
  refine gf_Flows_delaySum (pc := 61) cx (hC 1 _ rfl v1) tw_207 dX1_copyFrom_61 ?_
  refine gg_iconst (pc := 64) cx (v := 0) dX1_copyFrom_64 (by decide) ?_
  refine gg_aload_n (pc := 65) cx 0 rfl dX1_copyFrom_65 rfl ?_
  refine gf_Flows_delaySum (pc := 66) cx (hC 1 _ rfl v0) tw_207 dX1_copyFrom_66 ?_
  refine gg_iconst (pc := 69) cx (v := 0) dX1_copyFrom_69 (by decide) ?_
  refine gg_bipush (pc := 70) cx (v := 16) dX1_copyFrom_70 (by decide) ?_
  obtain ⟨a72, b72, c72, d72, e72, h⟩ := h
  refine gg_copyL (pc := 72) cx g_wcpy tw_1068 (hC 16 _ rfl v1) (hC 16 _ rfl v0) rfl (fun _ _ => rfl) a72 b72 c72 d72 e72 ⟨Nat.le_of_ble_eq_true rfl, Nat.le_of_ble_eq_true rfl⟩ dX1_copyFrom_72 ?_
  refine gg_mem (fun M72 eM72 => ?_)
  have h := h M72 eM72
  refine gg_aload_n (pc := 75) cx 1 rfl dX1_copyFrom_75 rfl ?_
  refine gf_Flows_delayMaximum (pc := 76) cx (hC 1 _ rfl v1) tw_209 dX1_copyFrom_76 ?_
  refine gg_iconst (pc := 79) cx (v := 0) dX1_copyFrom_79 (by decide) ?_
  refine gg_aload_n (pc := 80) cx 0 rfl dX1_copyFrom_80 rfl ?_
  refine gf_Flows_delayMaximum (pc := 81) cx (hC 1 _ rfl v0) tw_209 dX1_copyFrom_81 ?_
  refine gg_iconst (pc := 84) cx (v := 0) dX1_copyFrom_84 (by decide) ?_
  refine gg_bipush (pc := 85) cx (v := 16) dX1_copyFrom_85 (by decide) ?_
  obtain ⟨a87, b87, c87, d87, e87, h⟩ := h
  refine gg_copyL (pc := 87) cx g_wcpy tw_1068 (hC 17 _ rfl v1) (hC 17 _ rfl v0) rfl (fun _ _ => rfl) a87 b87 c87 d87 e87 ⟨Nat.le_of_ble_eq_true rfl, Nat.le_of_ble_eq_true rfl⟩ dX1_copyFrom_87 ?_
  refine gg_mem (fun M87 eM87 => ?_)
  have h := h M87 eM87
  refine gg_aload_n (pc := 90) cx 1 rfl dX1_copyFrom_90 rfl ?_
  refine gf_Flows_late (pc := 91) cx (hC 1 _ rfl v1) tw_211 dX1_copyFrom_91 ?_
  refine gg_iconst (pc := 94) cx (v := 0) dX1_copyFrom_94 (by decide) ?_
  refine gg_aload_n (pc := 95) cx 0 rfl dX1_copyFrom_95 rfl ?_
  refine gf_Flows_late (pc := 96) cx (hC 1 _ rfl v0) tw_211 dX1_copyFrom_96 ?_
  refine gg_iconst (pc := 99) cx (v := 0) dX1_copyFrom_99 (by decide) ?_
  refine gg_bipush (pc := 100) cx (v := 16) dX1_copyFrom_100 (by decide) ?_
  obtain ⟨a102, b102, c102, d102, e102, h⟩ := h
  refine gg_copyI (pc := 102) cx g_wcpy tw_1068 (hC 18 _ rfl v1) (hC 18 _ rfl v0) rfl (fun _ _ => rfl) a102 b102 c102 d102 e102 ⟨Nat.le_of_ble_eq_true rfl, Nat.le_of_ble_eq_true rfl⟩ dX1_copyFrom_102 ?_
  refine gg_mem (fun M102 eM102 => ?_)
  have h := h M102 eM102
  exact gg_vret (pc := 105) cx hQ h dX1_copyFrom_105
theorem cal_X2_copyFrom : g_Cal yX2_copyFrom cX2_copyFrom 2 (none) 1 := ⟨tw_8, tw_1072, by decide, by decide, by decide +kernel⟩
theorem calv_X2_copyFrom : g_CalV yX2_copyFrom := ⟨tw_1070, tw_1071⟩
set_option maxRecDepth 100000 in
set_option maxHeartbeats 4000000 in
theorem ct_X2_copyFrom {l : Launch} (hl : l.stackTraces = false) {t : gT} (hC : g_hC t) {o0 : Nat} {o1 : Nat} (v0 : o0 < 5) (v1 : o1 < 5) {M : gM} {K : gM → Prop} (h : wp_X2_copyFrom o0 o1 M K) : Met l yX2_copyFrom (g_y yX2_copyFrom cX2_copyFrom 2 (none)) rm_X2_copyFrom (va_Pc [.ref (gAd t 2 o0), .ref (gAd t 2 o1)] (g_Pre t M)) (va_Qv K (g_B t) (g_A t)) rm_X2_copyFrom.cells rm_X2_copyFrom.slots (g_A t) := by
  refine g_met hl rfl (Nat.le_of_ble_eq_true rfl) (fun X hlX cx hQ => ?_)
  subst hlX
  refine gg_aload_n (pc := 0) cx 0 rfl dX2_copyFrom_0 rfl ?_
  refine gg_aload_n (pc := 1) cx 1 rfl dX2_copyFrom_1 rfl ?_
  refine gf_Line_size (pc := 2) cx (hC 2 _ rfl v1) tw_234 dX2_copyFrom_2 ?_
  refine gp_Line_size (pc := 5) cx (hC 2 _ rfl v0) tw_234 dX2_copyFrom_5 ?_
  refine gg_mem (fun M5 eM5 => ?_)
  have h := h M5 eM5
  refine gg_aload_n (pc := 8) cx 1 rfl dX2_copyFrom_8 rfl ?_
  refine gf_Line_node (pc := 9) cx (hC 2 _ rfl v1) tw_237 dX2_copyFrom_9 ?_
  refine gg_iconst (pc := 12) cx (v := 0) dX2_copyFrom_12 (by decide) ?_
  refine gg_aload_n (pc := 13) cx 0 rfl dX2_copyFrom_13 rfl ?_
  refine gf_Line_node (pc := 14) cx (hC 2 _ rfl v0) tw_237 dX2_copyFrom_14 ?_
  refine gg_iconst (pc := 17) cx (v := 0) dX2_copyFrom_17 (by decide) ?_
  refine gg_bipush (pc := 18) cx (v := 64) dX2_copyFrom_18 (by decide) ?_
  obtain ⟨a20, b20, c20, d20, e20, h⟩ := h
  refine gg_copyI (pc := 20) cx g_wcpy tw_662 (hC 19 _ rfl v1) (hC 19 _ rfl v0) rfl (fun _ _ => rfl) a20 b20 c20 d20 e20 ⟨Nat.le_of_ble_eq_true rfl, Nat.le_of_ble_eq_true rfl⟩ dX2_copyFrom_20 ?_
  refine gg_mem (fun M20 eM20 => ?_)
  have h := h M20 eM20
  refine gg_aload_n (pc := 23) cx 1 rfl dX2_copyFrom_23 rfl ?_
  refine gf_Line_packet (pc := 24) cx (hC 2 _ rfl v1) tw_239 dX2_copyFrom_24 ?_
  refine gg_iconst (pc := 27) cx (v := 0) dX2_copyFrom_27 (by decide) ?_
  refine gg_aload_n (pc := 28) cx 0 rfl dX2_copyFrom_28 rfl ?_
  refine gf_Line_packet (pc := 29) cx (hC 2 _ rfl v0) tw_239 dX2_copyFrom_29 ?_
  refine gg_iconst (pc := 32) cx (v := 0) dX2_copyFrom_32 (by decide) ?_
  refine gg_bipush (pc := 33) cx (v := 64) dX2_copyFrom_33 (by decide) ?_
  obtain ⟨a35, b35, c35, d35, e35, h⟩ := h
  refine gg_copyI (pc := 35) cx g_wcpy tw_662 (hC 20 _ rfl v1) (hC 20 _ rfl v0) rfl (fun _ _ => rfl) a35 b35 c35 d35 e35 ⟨Nat.le_of_ble_eq_true rfl, Nat.le_of_ble_eq_true rfl⟩ dX2_copyFrom_35 ?_
  refine gg_mem (fun M35 eM35 => ?_)
  have h := h M35 eM35
  refine gg_aload_n (pc := 38) cx 1 rfl dX2_copyFrom_38 rfl ?_
  refine gf_Line_release (pc := 39) cx (hC 2 _ rfl v1) tw_241 dX2_copyFrom_39 ?_
  refine gg_iconst (pc := 42) cx (v := 0) dX2_copyFrom_42 (by decide) ?_
  refine gg_aload_n (pc := 43) cx 0 rfl dX2_copyFrom_43 rfl ?_
  refine gf_Line_release (pc := 44) cx (hC 2 _ rfl v0) tw_241 dX2_copyFrom_44 ?_
  refine gg_iconst (pc := 47) cx (v := 0) dX2_copyFrom_47 (by decide) ?_
  refine gg_bipush (pc := 48) cx (v := 64) dX2_copyFrom_48 (by decide) ?_
  obtain ⟨a50, b50, c50, d50, e50, h⟩ := h
  refine gg_copyL (pc := 50) cx g_wcpy tw_662 (hC 21 _ rfl v1) (hC 21 _ rfl v0) rfl (fun _ _ => rfl) a50 b50 c50 d50 e50 ⟨Nat.le_of_ble_eq_true rfl, Nat.le_of_ble_eq_true rfl⟩ dX2_copyFrom_50 ?_
  refine gg_mem (fun M50 eM50 => ?_)
  have h := h M50 eM50
  exact gg_vret (pc := 53) cx hQ h dX2_copyFrom_53
theorem cal_X3_copyFrom : g_Cal yX3_copyFrom cX3_copyFrom 2 (none) 1 := ⟨tw_9, tw_1076, by decide, by decide, by decide +kernel⟩
theorem calv_X3_copyFrom : g_CalV yX3_copyFrom := ⟨tw_1074, tw_1075⟩
set_option maxRecDepth 100000 in
set_option maxHeartbeats 4000000 in
theorem ct_X3_copyFrom {l : Launch} (hl : l.stackTraces = false) {t : gT} (hC : g_hC t) {o0 : Nat} {o1 : Nat} (v0 : o0 < 60) (v1 : o1 < 60) {M : gM} {K : gM → Prop} (h : wp_X3_copyFrom o0 o1 M K) : Met l yX3_copyFrom (g_y yX3_copyFrom cX3_copyFrom 2 (none)) rm_X3_copyFrom (va_Pc [.ref (gAd t 3 o0), .ref (gAd t 3 o1)] (g_Pre t M)) (va_Qv K (g_B t) (g_A t)) rm_X3_copyFrom.cells rm_X3_copyFrom.slots (g_A t) := by
  refine g_met hl rfl (Nat.le_of_ble_eq_true rfl) (fun X hlX cx hQ => ?_)
  subst hlX
  refine gg_aload_n (pc := 0) cx 0 rfl dX3_copyFrom_0 rfl ?_
  refine gg_aload_n (pc := 1) cx 1 rfl dX3_copyFrom_1 rfl ?_
  refine gf_Node_weight (pc := 2) cx (hC 3 _ rfl v1) tw_257 dX3_copyFrom_2 ?_
  refine gp_Node_weight (pc := 5) cx (hC 3 _ rfl v0) tw_257 dX3_copyFrom_5 ?_
  refine gg_mem (fun M5 eM5 => ?_)
  have h := h M5 eM5
  refine gg_aload_n (pc := 8) cx 0 rfl dX3_copyFrom_8 rfl ?_
  refine gg_aload_n (pc := 9) cx 1 rfl dX3_copyFrom_9 rfl ?_
  refine gf_Node_virtual (pc := 10) cx (hC 3 _ rfl v1) tw_260 dX3_copyFrom_10 ?_
  refine gp_Node_virtual (pc := 13) cx (hC 3 _ rfl v0) tw_260 dX3_copyFrom_13 ?_
  refine gg_mem (fun M13 eM13 => ?_)
  have h := h M13 eM13
  refine gg_aload_n (pc := 16) cx 0 rfl dX3_copyFrom_16 rfl ?_
  refine gg_aload_n (pc := 17) cx 1 rfl dX3_copyFrom_17 rfl ?_
  refine gf_Node_mark (pc := 18) cx (hC 3 _ rfl v1) tw_263 dX3_copyFrom_18 ?_
  refine gp_Node_mark (pc := 21) cx (hC 3 _ rfl v0) tw_263 dX3_copyFrom_21 ?_
  refine gg_mem (fun M21 eM21 => ?_)
  have h := h M21 eM21
  refine gg_aload_n (pc := 24) cx 0 rfl dX3_copyFrom_24 rfl ?_
  refine gg_aload_n (pc := 25) cx 1 rfl dX3_copyFrom_25 rfl ?_
  refine gf_Node_size (pc := 26) cx (hC 3 _ rfl v1) tw_268 dX3_copyFrom_26 ?_
  refine gp_Node_size (pc := 29) cx (hC 3 _ rfl v0) tw_268 dX3_copyFrom_29 ?_
  refine gg_mem (fun M29 eM29 => ?_)
  have h := h M29 eM29
  refine gg_aload_n (pc := 32) cx 1 rfl dX3_copyFrom_32 rfl ?_
  refine gf_Node_states (pc := 33) cx (hC 3 _ rfl v1) tw_265 dX3_copyFrom_33 ?_
  refine gg_iconst (pc := 36) cx (v := 0) dX3_copyFrom_36 (by decide) ?_
  refine gg_aload_n (pc := 37) cx 0 rfl dX3_copyFrom_37 rfl ?_
  refine gf_Node_states (pc := 38) cx (hC 3 _ rfl v0) tw_265 dX3_copyFrom_38 ?_
  refine gg_iconst (pc := 41) cx (v := 0) dX3_copyFrom_41 (by decide) ?_
  refine gg_bipush (pc := 42) cx (v := 16) dX3_copyFrom_42 (by decide) ?_
  obtain ⟨a44, b44, c44, d44, e44, h⟩ := h
  refine gg_copyL (pc := 44) cx g_wcpy tw_619 (hC 22 _ rfl v1) (hC 22 _ rfl v0) rfl (fun _ _ => rfl) a44 b44 c44 d44 e44 ⟨Nat.le_of_ble_eq_true rfl, Nat.le_of_ble_eq_true rfl⟩ dX3_copyFrom_44 ?_
  refine gg_mem (fun M44 eM44 => ?_)
  have h := h M44 eM44
  refine gg_aload_n (pc := 47) cx 1 rfl dX3_copyFrom_47 rfl ?_
  refine gf_Node_items (pc := 48) cx (hC 3 _ rfl v1) tw_271 dX3_copyFrom_48 ?_
  refine gg_iconst (pc := 51) cx (v := 0) dX3_copyFrom_51 (by decide) ?_
  refine gg_aload_n (pc := 52) cx 0 rfl dX3_copyFrom_52 rfl ?_
  refine gf_Node_items (pc := 53) cx (hC 3 _ rfl v0) tw_271 dX3_copyFrom_53 ?_
  refine gg_iconst (pc := 56) cx (v := 0) dX3_copyFrom_56 (by decide) ?_
  refine gg_bipush (pc := 57) cx (v := 64) dX3_copyFrom_57 (by decide) ?_
  obtain ⟨a59, b59, c59, d59, e59, h⟩ := h
  refine gg_copyI (pc := 59) cx g_wcpy tw_619 (hC 23 _ rfl v1) (hC 23 _ rfl v0) rfl (fun _ _ => rfl) a59 b59 c59 d59 e59 ⟨Nat.le_of_ble_eq_true rfl, Nat.le_of_ble_eq_true rfl⟩ dX3_copyFrom_59 ?_
  refine gg_mem (fun M59 eM59 => ?_)
  have h := h M59 eM59
  refine gg_aload_n (pc := 62) cx 1 rfl dX3_copyFrom_62 rfl ?_
  refine gf_Node_ranks (pc := 63) cx (hC 3 _ rfl v1) tw_273 dX3_copyFrom_63 ?_
  refine gg_iconst (pc := 66) cx (v := 0) dX3_copyFrom_66 (by decide) ?_
  refine gg_aload_n (pc := 67) cx 0 rfl dX3_copyFrom_67 rfl ?_
  refine gf_Node_ranks (pc := 68) cx (hC 3 _ rfl v0) tw_273 dX3_copyFrom_68 ?_
  refine gg_iconst (pc := 71) cx (v := 0) dX3_copyFrom_71 (by decide) ?_
  refine gg_bipush (pc := 72) cx (v := 64) dX3_copyFrom_72 (by decide) ?_
  obtain ⟨a74, b74, c74, d74, e74, h⟩ := h
  refine gg_copyL (pc := 74) cx g_wcpy tw_619 (hC 24 _ rfl v1) (hC 24 _ rfl v0) rfl (fun _ _ => rfl) a74 b74 c74 d74 e74 ⟨Nat.le_of_ble_eq_true rfl, Nat.le_of_ble_eq_true rfl⟩ dX3_copyFrom_74 ?_
  refine gg_mem (fun M74 eM74 => ?_)
  have h := h M74 eM74
  refine gg_aload_n (pc := 77) cx 1 rfl dX3_copyFrom_77 rfl ?_
  refine gf_Node_ties (pc := 78) cx (hC 3 _ rfl v1) tw_275 dX3_copyFrom_78 ?_
  refine gg_iconst (pc := 81) cx (v := 0) dX3_copyFrom_81 (by decide) ?_
  refine gg_aload_n (pc := 82) cx 0 rfl dX3_copyFrom_82 rfl ?_
  refine gf_Node_ties (pc := 83) cx (hC 3 _ rfl v0) tw_275 dX3_copyFrom_83 ?_
  refine gg_iconst (pc := 86) cx (v := 0) dX3_copyFrom_86 (by decide) ?_
  refine gg_bipush (pc := 87) cx (v := 64) dX3_copyFrom_87 (by decide) ?_
  obtain ⟨a89, b89, c89, d89, e89, h⟩ := h
  refine gg_copyI (pc := 89) cx g_wcpy tw_619 (hC 25 _ rfl v1) (hC 25 _ rfl v0) rfl (fun _ _ => rfl) a89 b89 c89 d89 e89 ⟨Nat.le_of_ble_eq_true rfl, Nat.le_of_ble_eq_true rfl⟩ dX3_copyFrom_89 ?_
  refine gg_mem (fun M89 eM89 => ?_)
  have h := h M89 eM89
  exact gg_vret (pc := 92) cx hQ h dX3_copyFrom_92
set_option maxRecDepth 100000 in
set_option maxHeartbeats 4000000 in
theorem wk_X1_allBytes_L4 {t : gT} {X : gX} (cx : g_Cx t X cX1_allBytes 4 RX1 (some .long)) (hC : g_hC t) {K : Int64 → gM → Prop} (hQ : gXQ X = MQ (gXb X) (va_Ql K (g_B t) (g_A t)) (gXa X) (gXs X) rm_X1_allBytes.cells rm_X1_allBytes.slots (g_A t)) (f : Nat) : ∀ (o0 : Nat) (y1 : Int64) (x3 : Int32) (M : gM), o0 < 5 → wp_X1_allBytes_L4 K f o0 y1 x3 M → G t rm_X1_allBytes X 4 0 0 M [(0, .ref (gAd t 1 o0)), (1, .long y1), (3, .int x3)] [] 4 := by
  induction f with
  | zero => intro _ _ _ _ _ _; exact False.elim (by assumption)
  | succ f ih =>
    intro o0 y1 x3 M v0 h
    refine gg_iload_n (pc := 4) cx 2 rfl dX1_allBytes_4 rfl ?_
    refine gg_bipush (pc := 5) cx (v := 16) dX1_allBytes_5 (by decide) ?_
    refine gg_icmp_ge (pc := 7) cx (tgt := 26) dX1_allBytes_7 (by decide) (fun c7 => ?_) (fun c7 => ?_)
    · have h := g_it c7 h
      refine gg_lload_n (pc := 26) cx 1 rfl dX1_allBytes_26 rfl ?_
      exact gg_lret (pc := 27) cx hQ h dX1_allBytes_27
    · have h := g_if c7 h
      refine gg_lload_n (pc := 10) cx 1 rfl dX1_allBytes_10 rfl ?_
      refine gg_aload_n (pc := 11) cx 0 rfl dX1_allBytes_11 rfl ?_
      refine gf_Flows_bytesSent (pc := 12) cx (hC 1 _ rfl v0) tw_205 dX1_allBytes_12 ?_
      refine gg_iload_n (pc := 15) cx 2 rfl dX1_allBytes_15 rfl ?_
      have q16 := h.1
      have h := h.2
      refine gg_iald (pc := 16) cx (hC 15 _ rfl v0) rfl q16 dX1_allBytes_16 ?_
      refine gg_i2l (pc := 17) cx dX1_allBytes_17 ?_
      refine gg_ladd (pc := 18) cx dX1_allBytes_18 ?_
      refine gg_topl (fun n19 en19 => ?_)
      have h := h n19 en19
      refine gg_lstore_n (pc := 19) cx [(1, .long n19), (0, .ref (gAd t 1 o0)), (3, .int x3)] dX1_allBytes_19 rfl (by decide) rfl ?_
      obtain ⟨n20, en20⟩ : ∃ z : Int32, z = x3 + Int32.ofInt (1) := ⟨_, rfl⟩
      have h := h n20 en20
      refine gg_iinc (pc := 20) cx 2 [(3, .int n20), (1, .long n19), (0, .ref (gAd t 1 o0))] dX1_allBytes_20 rfl en20.symm (by decide) rfl ?_
      refine gg_goto (pc := 23) cx (tgt := 4) dX1_allBytes_23 (by decide) ?_
      refine gg_lv (lv' := [(0, .ref (gAd t 1 o0)), (1, .long n19), (3, .int n20)]) [2, 1, 0] rfl ?_
      exact ih o0 n19 n20 M v0 h
theorem cal_X1_allBytes : g_Cal yX1_allBytes cX1_allBytes 4 (some .long) 0 := ⟨tw_7, tw_1158, by decide, by decide, by decide +kernel⟩
theorem calv_X1_allBytes : g_CalV yX1_allBytes := ⟨tw_1156, tw_1157⟩
set_option maxRecDepth 100000 in
set_option maxHeartbeats 4000000 in
theorem ct_X1_allBytes {l : Launch} (hl : l.stackTraces = false) {t : gT} (hC : g_hC t) {o0 : Nat} (v0 : o0 < 5) {M : gM} {K : Int64 → gM → Prop} (h : wp_X1_allBytes o0 M K) : Met l yX1_allBytes (g_y yX1_allBytes cX1_allBytes 4 (some .long)) rm_X1_allBytes (va_Pc [.ref (gAd t 1 o0)] (g_Pre t M)) (va_Ql K (g_B t) (g_A t)) rm_X1_allBytes.cells rm_X1_allBytes.slots (g_A t) := by
  refine g_met hl rfl (Nat.le_of_ble_eq_true rfl) (fun X hlX cx hQ => ?_)
  subst hlX
  refine gg_lconst (pc := 0) cx (v := 0) dX1_allBytes_0 (by decide) ?_
  refine gg_lstore_n (pc := 1) cx [(1, .long 0), (0, .ref (gAd t 1 o0))] dX1_allBytes_1 rfl (by decide) rfl ?_
  refine gg_iconst (pc := 2) cx (v := 0) dX1_allBytes_2 (by decide) ?_
  refine gg_istore_n (pc := 3) cx [(3, .int 0), (1, .long 0), (0, .ref (gAd t 1 o0))] dX1_allBytes_3 rfl (by decide) rfl ?_
  refine gg_lv (lv' := [(0, .ref (gAd t 1 o0)), (1, .long 0), (3, .int 0)]) [2, 1, 0] rfl ?_
  obtain ⟨f4, h⟩ := h
  exact wk_X1_allBytes_L4 cx hC hQ f4 o0 0 0 M v0 h
