theorem cal_X9_thrown : g_Cal yX9_thrown cX9_thrown 1 (some .int) 0 := ⟨tw_17, tw_1370, by decide, by decide, by decide +kernel⟩
theorem calv_X9_thrown : g_CalV yX9_thrown := ⟨tw_1368, tw_1369⟩
set_option maxRecDepth 100000 in
set_option maxHeartbeats 4000000 in
theorem ct_X9_thrown {l : Launch} (hl : l.stackTraces = false) {t : gT} (hM : g_hM t) {o0 : Nat} (v0 : o0 < 1) {M : gM} {K : Int32 → gM → Prop} (h : wp_X9_thrown o0 M K) : Met l yX9_thrown (g_y yX9_thrown cX9_thrown 1 (some .int)) rm_X9_thrown (va_Pc [.ref (gAd t 9 o0)] (g_Pre t M)) (va_Qi K (g_B t) (g_A t)) rm_X9_thrown.cells rm_X9_thrown.slots (g_A t) := by
  refine g_met hl rfl (Nat.le_of_ble_eq_true rfl) (fun X hlX cx hQ => ?_)
  subst hlX
  refine gg_aload_n (pc := 0) cx 0 rfl dX9_thrown_0 rfl ?_
  refine gf_Model_thrown (pc := 1) cx (hM 9 _ rfl v0) tw_1310 dX9_thrown_1 ?_
  exact gg_iret (pc := 4) cx hQ h dX9_thrown_4
theorem cal_X9_in : g_Cal yX9_in cX9_in 6 (some .boolean) 3 := ⟨tw_17, tw_1226, by decide, by decide, by decide +kernel⟩
set_option maxRecDepth 100000 in
set_option maxHeartbeats 4000000 in
theorem ct_X9_in {l : Launch} (hl : l.stackTraces = false) {t : gT} (hM : g_hM t) {y0 : Int64} {y2 : Int64} {y4 : Int64}  {M : gM} {K : Int32 → gM → Prop} (h : wp_X9_in y0 y2 y4 M K) : Met l yX9_in (g_y yX9_in cX9_in 6 (some .boolean)) rm_X9_in (va_Pc [.long y0, .long y2, .long y4] (g_Pre t M)) (va_Qi K (g_B t) (g_A t)) rm_X9_in.cells rm_X9_in.slots (g_A t) := by
  refine g_met hl rfl (Nat.le_of_ble_eq_true rfl) (fun X hlX cx hQ => ?_)
  subst hlX
  refine gg_lload_n (pc := 0) cx 0 rfl dX9_in_0 rfl ?_
  refine gg_lload_n (pc := 1) cx 1 rfl dX9_in_1 rfl ?_
  refine gg_lcmp_lt (pc := 2) cx (tgt := 17) dX9_in_2 dX9_in_3 (by decide) (fun c2 => ?_) (fun c2 => ?_)
  · have h := g_it c2 h
    refine gg_iconst (pc := 17) cx (v := 0) dX9_in_17 (by decide) ?_
    exact gg_zret (pc := 18) cx hQ rfl h dX9_in_18
  · have h := g_if c2 h
    refine gg_lload_n (pc := 6) cx 0 rfl dX9_in_6 rfl ?_
    refine gg_lload (pc := 7) cx 2 rfl dX9_in_7 ?_
    refine gg_lcmp_gt (pc := 9) cx (tgt := 17) dX9_in_9 dX9_in_10 (by decide) (fun c9 => ?_) (fun c9 => ?_)
    · have h := g_it c9 h
      refine gg_iconst (pc := 17) cx (v := 0) dX9_in_17 (by decide) ?_
      exact gg_zret (pc := 18) cx hQ rfl h dX9_in_18
    · have h := g_if c9 h
      refine gg_iconst (pc := 13) cx (v := 1) dX9_in_13 (by decide) ?_
      refine gg_goto (pc := 14) cx (tgt := 18) dX9_in_14 (by decide) ?_
      exact gg_zret (pc := 18) cx hQ rfl h dX9_in_18
theorem cal_X9_fails : g_Cal yX9_fails cX9_fails 2 (some .int) 1 := ⟨tw_17, tw_1380, by decide, by decide, by decide +kernel⟩
theorem calv_X9_fails : g_CalV yX9_fails := ⟨tw_1379, ts_45⟩
set_option maxRecDepth 100000 in
set_option maxHeartbeats 4000000 in
theorem ct_X9_fails {l : Launch} (hl : l.stackTraces = false) {t : gT} (hM : g_hM t) {o0 : Nat} {x1 : Int32} (v0 : o0 < 1) {M : gM} {K : Int32 → gM → Prop} (h : wp_X9_fails o0 x1 M K) : Met l yX9_fails (g_y yX9_fails cX9_fails 2 (some .int)) rm_X9_fails (va_Pc [.ref (gAd t 9 o0), .int x1] (g_Pre t M)) (va_Qi K (g_B t) (g_A t)) rm_X9_fails.cells rm_X9_fails.slots (g_A t) := by
  refine g_met hl rfl (Nat.le_of_ble_eq_true rfl) (fun X hlX cx hQ => ?_)
  subst hlX
  refine gg_aload_n (pc := 0) cx 0 rfl dX9_fails_0 rfl ?_
  refine gg_iload_n (pc := 1) cx 1 rfl dX9_fails_1 rfl ?_
  refine gp_Model_thrown (pc := 2) cx (hM 9 _ rfl v0) tw_1310 dX9_fails_2 ?_
  refine gg_mem (fun M2 eM2 => ?_)
  have h := h M2 eM2
  refine gg_iconst (pc := 5) cx (v := 0) dX9_fails_5 (by decide) ?_
  exact gg_iret (pc := 6) cx hQ h dX9_fails_6
theorem cal_X9_flow : g_Cal yX9_flow cX9_flow 1 (some .int) 1 := ⟨tw_17, tw_1298, by decide, by decide, by decide +kernel⟩
set_option maxRecDepth 100000 in
set_option maxHeartbeats 4000000 in
theorem ct_X9_flow {l : Launch} (hl : l.stackTraces = false) {t : gT} (hM : g_hM t) {x0 : Int32}  {M : gM} {K : Int32 → gM → Prop} (h : wp_X9_flow x0 M K) : Met l yX9_flow (g_y yX9_flow cX9_flow 1 (some .int)) rm_X9_flow (va_Pc [.int x0] (g_Pre t M)) (va_Qi K (g_B t) (g_A t)) rm_X9_flow.cells rm_X9_flow.slots (g_A t) := by
  refine g_met hl rfl (Nat.le_of_ble_eq_true rfl) (fun X hlX cx hQ => ?_)
  subst hlX
  refine gg_bipush (pc := 0) cx (v := 10) dX9_flow_0 (by decide) ?_
  refine gg_bipush (pc := 2) cx (v := 7) dX9_flow_2 (by decide) ?_
  refine gg_iload_n (pc := 4) cx 0 rfl dX9_flow_4 rfl ?_
  refine gg_imul (pc := 5) cx dX9_flow_5 ?_
  refine gg_iadd (pc := 6) cx dX9_flow_6 ?_
  exact gg_iret (pc := 7) cx hQ h dX9_flow_7
theorem cal_X9_node : g_Cal yX9_node cX9_node 1 (some .int) 1 := ⟨tw_17, tw_1301, by decide, by decide, by decide +kernel⟩
set_option maxRecDepth 100000 in
set_option maxHeartbeats 4000000 in
theorem ct_X9_node {l : Launch} (hl : l.stackTraces = false) {t : gT} (hM : g_hM t) {x0 : Int32}  {M : gM} {K : Int32 → gM → Prop} (h : wp_X9_node x0 M K) : Met l yX9_node (g_y yX9_node cX9_node 1 (some .int)) rm_X9_node (va_Pc [.int x0] (g_Pre t M)) (va_Qi K (g_B t) (g_A t)) rm_X9_node.cells rm_X9_node.slots (g_A t) := by
  refine g_met hl rfl (Nat.le_of_ble_eq_true rfl) (fun X hlX cx hQ => ?_)
  subst hlX
  refine gg_sipush (pc := 0) cx (v := 130) dX9_node_0 (by decide) ?_
  refine gg_bipush (pc := 3) cx (v := 12) dX9_node_3 (by decide) ?_
  refine gg_iload_n (pc := 5) cx 0 rfl dX9_node_5 rfl ?_
  refine gg_imul (pc := 6) cx dX9_node_6 ?_
  refine gg_iadd (pc := 7) cx dX9_node_7 ?_
  exact gg_iret (pc := 8) cx hQ h dX9_node_8
theorem cal_X9_packet : g_Cal yX9_packet cX9_packet 1 (some .int) 1 := ⟨tw_17, tw_1473, by decide, by decide, by decide +kernel⟩
set_option maxRecDepth 100000 in
set_option maxHeartbeats 4000000 in
theorem ct_X9_packet {l : Launch} (hl : l.stackTraces = false) {t : gT} (hM : g_hM t) {x0 : Int32}  {M : gM} {K : Int32 → gM → Prop} (h : wp_X9_packet x0 M K) : Met l yX9_packet (g_y yX9_packet cX9_packet 1 (some .int)) rm_X9_packet (va_Pc [.int x0] (g_Pre t M)) (va_Qi K (g_B t) (g_A t)) rm_X9_packet.cells rm_X9_packet.slots (g_A t) := by
  refine g_met hl rfl (Nat.le_of_ble_eq_true rfl) (fun X hlX cx hQ => ?_)
  subst hlX
  refine gg_sipush (pc := 0) cx (v := 640) dX9_packet_0 (by decide) ?_
  refine gg_bipush (pc := 3) cx (v := 7) dX9_packet_3 (by decide) ?_
  refine gg_iload_n (pc := 5) cx 0 rfl dX9_packet_5 rfl ?_
  refine gg_imul (pc := 6) cx dX9_packet_6 ?_
  refine gg_iadd (pc := 7) cx dX9_packet_7 ?_
  exact gg_iret (pc := 8) cx hQ h dX9_packet_8
theorem cal_X9_element : g_Cal yX9_element cX9_element 2 (some .int) 2 := ⟨tw_17, tw_1495, by decide, by decide, by decide +kernel⟩
set_option maxRecDepth 100000 in
set_option maxHeartbeats 4000000 in
theorem ct_X9_element {l : Launch} (hl : l.stackTraces = false) {t : gT} (hM : g_hM t) {x0 : Int32} {x1 : Int32}  {M : gM} {K : Int32 → gM → Prop} (h : wp_X9_element x0 x1 M K) : Met l yX9_element (g_y yX9_element cX9_element 2 (some .int)) rm_X9_element (va_Pc [.int x0, .int x1] (g_Pre t M)) (va_Qi K (g_B t) (g_A t)) rm_X9_element.cells rm_X9_element.slots (g_A t) := by
  refine g_met hl rfl (Nat.le_of_ble_eq_true rfl) (fun X hlX cx hQ => ?_)
  subst hlX
  refine gg_sipush (pc := 0) cx (v := 4150) dX9_element_0 (by decide) ?_
  refine gg_iconst (pc := 3) cx (v := 4) dX9_element_3 (by decide) ?_
  refine gg_bipush (pc := 4) cx (v := 64) dX9_element_4 (by decide) ?_
  refine gg_iload_n (pc := 6) cx 0 rfl dX9_element_6 rfl ?_
  refine gg_imul (pc := 7) cx dX9_element_7 ?_
  refine gg_iload_n (pc := 8) cx 1 rfl dX9_element_8 rfl ?_
  refine gg_iadd (pc := 9) cx dX9_element_9 ?_
  refine gg_imul (pc := 10) cx dX9_element_10 ?_
  refine gg_iadd (pc := 11) cx dX9_element_11 ?_
  exact gg_iret (pc := 12) cx hQ h dX9_element_12
theorem cal_X9_hold : g_Cal yX9_hold cX9_hold 1 (some .int) 1 := ⟨tw_17, tw_1507, by decide, by decide, by decide +kernel⟩
set_option maxRecDepth 100000 in
set_option maxHeartbeats 4000000 in
theorem ct_X9_hold {l : Launch} (hl : l.stackTraces = false) {t : gT} (hM : g_hM t) {x0 : Int32}  {M : gM} {K : Int32 → gM → Prop} (h : wp_X9_hold x0 M K) : Met l yX9_hold (g_y yX9_hold cX9_hold 1 (some .int)) rm_X9_hold (va_Pc [.int x0] (g_Pre t M)) (va_Qi K (g_B t) (g_A t)) rm_X9_hold.cells rm_X9_hold.slots (g_A t) := by
  refine g_met hl rfl (Nat.le_of_ble_eq_true rfl) (fun X hlX cx hQ => ?_)
  subst hlX
  refine gg_sipush (pc := 0) cx (v := 7230) dX9_hold_0 (by decide) ?_
  refine gg_iconst (pc := 3) cx (v := 4) dX9_hold_3 (by decide) ?_
  refine gg_iload_n (pc := 4) cx 0 rfl dX9_hold_4 rfl ?_
  refine gg_imul (pc := 5) cx dX9_hold_5 ?_
  refine gg_iadd (pc := 6) cx dX9_hold_6 ?_
  exact gg_iret (pc := 7) cx hQ h dX9_hold_7
set_option maxRecDepth 100000 in
set_option maxHeartbeats 4000000 in
theorem wk_X9_takesText_L2 {t : gT} {X : gX} (cx : g_Cx t X cX9_takesText 2 RX9 (none)) (hM : g_hM t) {K : gM → Prop} (hQ : gXQ X = MQ (gXb X) (va_Qv K (g_B t) (g_A t)) (gXa X) (gXs X) rm_X9_takesText.cells rm_X9_takesText.slots (g_A t)) (f : Nat) : ∀ (o0 : Nat) (x1 : Int32) (M : gM), o0 < 1 → wp_X9_takesText_L2 K f o0 x1 M → G t rm_X9_takesText X 2 0 0 M [(0, .ref (gAd t 9 o0)), (1, .int x1)] [] 2 := by
  induction f with
  | zero => intro _ _ _ _ _; exact False.elim (by assumption)
  | succ f ih =>
    intro o0 x1 M v0 h
    refine gg_iload_n (pc := 2) cx 1 rfl dX9_takesText_2 rfl ?_
    refine gg_aload_n (pc := 3) cx 0 rfl dX9_takesText_3 rfl ?_
    refine gf_Model_typed (pc := 4) cx (hM 9 _ rfl v0) tw_1313 dX9_takesText_4 ?_
    refine gg_icmp_ge (pc := 7) cx (tgt := 28) dX9_takesText_7 (by decide) (fun c7 => ?_) (fun c7 => ?_)
    · have h := g_it c7 h
      refine gg_aload_n (pc := 28) cx 0 rfl dX9_takesText_28 rfl ?_
      refine gg_aload_n (pc := 29) cx 0 rfl dX9_takesText_29 rfl ?_
      refine gf_Model_typed (pc := 30) cx (hM 9 _ rfl v0) tw_1313 dX9_takesText_30 ?_
      refine gp_Model_length (pc := 33) cx (hM 9 _ rfl v0) tw_1316 dX9_takesText_33 ?_
      refine gg_mem (fun M33 eM33 => ?_)
      have h := h M33 eM33
      exact gg_vret (pc := 36) cx hQ h dX9_takesText_36
    · have h := g_if c7 h
      refine gg_aload_n (pc := 10) cx 0 rfl dX9_takesText_10 rfl ?_
      refine gf_Model_source (pc := 11) cx (hM 9 _ rfl v0) tw_1315 dX9_takesText_11 ?_
      refine gg_iload_n (pc := 14) cx 1 rfl dX9_takesText_14 rfl ?_
      refine gg_aload_n (pc := 15) cx 0 rfl dX9_takesText_15 rfl ?_
      refine gf_Model_text (pc := 16) cx (hM 9 _ rfl v0) tw_1312 dX9_takesText_16 ?_
      refine gg_iload_n (pc := 19) cx 1 rfl dX9_takesText_19 rfl ?_
      have q20 := h.1
      have h := h.2
      refine gg_iald (pc := 20) cx (hM 51 _ rfl v0) rfl q20 dX9_takesText_20 ?_
      have q21 := h.1
      have h := h.2
      refine gg_iast (pc := 21) cx (hM 53 _ rfl v0) (fun _ _ => rfl) q21 dX9_takesText_21 ?_
      refine gg_mem (fun M21 eM21 => ?_)
      have h := h M21 eM21
      obtain ⟨n22, en22⟩ : ∃ z : Int32, z = x1 + Int32.ofInt (1) := ⟨_, rfl⟩
      have h := h n22 en22
      refine gg_iinc (pc := 22) cx 1 [(1, .int n22), (0, .ref (gAd t 9 o0))] dX9_takesText_22 rfl en22.symm (by decide) rfl ?_
      refine gg_goto (pc := 25) cx (tgt := 2) dX9_takesText_25 (by decide) ?_
      refine gg_lv (lv' := [(0, .ref (gAd t 9 o0)), (1, .int n22)]) [1, 0] rfl ?_
      exact ih o0 n22 M21 v0 h
theorem cal_X9_takesText : g_Cal yX9_takesText cX9_takesText 2 (none) 0 := ⟨tw_17, tw_1392, by decide, by decide, by decide +kernel⟩
theorem calv_X9_takesText : g_CalV yX9_takesText := ⟨tw_1391, ts_46⟩
set_option maxRecDepth 100000 in
set_option maxHeartbeats 4000000 in
theorem ct_X9_takesText {l : Launch} (hl : l.stackTraces = false) {t : gT} (hM : g_hM t) {o0 : Nat} (v0 : o0 < 1) {M : gM} {K : gM → Prop} (h : wp_X9_takesText o0 M K) : Met l yX9_takesText (g_y yX9_takesText cX9_takesText 2 (none)) rm_X9_takesText (va_Pc [.ref (gAd t 9 o0)] (g_Pre t M)) (va_Qv K (g_B t) (g_A t)) rm_X9_takesText.cells rm_X9_takesText.slots (g_A t) := by
  refine g_met hl rfl (Nat.le_of_ble_eq_true rfl) (fun X hlX cx hQ => ?_)
  subst hlX
  refine gg_iconst (pc := 0) cx (v := 0) dX9_takesText_0 (by decide) ?_
  refine gg_istore_n (pc := 1) cx [(1, .int 0), (0, .ref (gAd t 9 o0))] dX9_takesText_1 rfl (by decide) rfl ?_
  refine gg_lv (lv' := [(0, .ref (gAd t 9 o0)), (1, .int 0)]) [1, 0] rfl ?_
  obtain ⟨f2, h⟩ := h
  exact wk_X9_takesText_L2 cx hM hQ f2 o0 0 M v0 h
set_option maxRecDepth 100000 in
set_option maxHeartbeats 4000000 in
theorem wk_X9_takesTemplate_L9 {t : gT} {X : gX} (cx : g_Cx t X cX9_takesTemplate 4 RX9 (none)) (hM : g_hM t) {K : gM → Prop} (hQ : gXQ X = MQ (gXb X) (va_Qv K (g_B t) (g_A t)) (gXa X) (gXs X) rm_X9_takesTemplate.cells rm_X9_takesTemplate.slots (g_A t)) (f : Nat) : ∀ (o0 : Nat) (x1 : Int32) (x2 : Int32) (x3 : Int32) (M : gM), o0 < 1 → wp_X9_takesTemplate_L9 K f o0 x1 x2 x3 M → G t rm_X9_takesTemplate X 4 0 0 M [(0, .ref (gAd t 9 o0)), (1, .int x1), (2, .int x2), (3, .int x3)] [] 9 := by
  induction f with
  | zero => intro _ _ _ _ _ _ _; exact False.elim (by assumption)
  | succ f ih =>
    intro o0 x1 x2 x3 M v0 h
    refine gg_iload_n (pc := 9) cx 3 rfl dX9_takesTemplate_9 rfl ?_
    refine gg_aload_n (pc := 10) cx 0 rfl dX9_takesTemplate_10 rfl ?_
    refine gf_Model_templates (pc := 11) cx (hM 9 _ rfl v0) tw_1311 dX9_takesTemplate_11 ?_
    refine gg_alen (pc := 14) cx (ca := 2) (v := 93) (hM 50 _ rfl v0) rfl rfl rfl dX9_takesTemplate_14 ?_
    refine gg_icmp_ge (pc := 15) cx (tgt := 71) dX9_takesTemplate_15 (by decide) (fun c15 => ?_) (fun c15 => ?_)
    · have h := g_it c15 h
      exact gg_vret (pc := 71) cx hQ h dX9_takesTemplate_71
    · have h := g_if c15 h
      refine gg_aload_n (pc := 18) cx 0 rfl dX9_takesTemplate_18 rfl ?_
      refine gf_Model_templates (pc := 19) cx (hM 9 _ rfl v0) tw_1311 dX9_takesTemplate_19 ?_
      refine gg_iload_n (pc := 22) cx 3 rfl dX9_takesTemplate_22 rfl ?_
      have q23 := h.1
      have h := h.2
      refine gg_cald (pc := 23) cx (hM 50 _ rfl v0) rfl q23 dX9_takesTemplate_23 ?_
      refine gg_bipush (pc := 24) cx (v := 32) dX9_takesTemplate_24 (by decide) ?_
      refine gg_icmp_ne (pc := 26) cx (tgt := 35) dX9_takesTemplate_26 (by decide) (fun c26 => ?_) (fun c26 => ?_)
      · have h := g_if c26 h
        refine gg_iload_n (pc := 35) cx 2 rfl dX9_takesTemplate_35 rfl ?_
        refine gg_iload_n (pc := 36) cx 1 rfl dX9_takesTemplate_36 rfl ?_
        refine gg_icmp_ne (pc := 37) cx (tgt := 65) dX9_takesTemplate_37 (by decide) (fun c37 => ?_) (fun c37 => ?_)
        · have h := g_if c37 h
          obtain ⟨n65, en65⟩ : ∃ z : Int32, z = x3 + Int32.ofInt (1) := ⟨_, rfl⟩
          have h := h n65 en65
          refine gg_iinc (pc := 65) cx 3 [(3, .int n65), (0, .ref (gAd t 9 o0)), (1, .int x1), (2, .int x2)] dX9_takesTemplate_65 rfl en65.symm (by decide) rfl ?_
          refine gg_goto (pc := 68) cx (tgt := 9) dX9_takesTemplate_68 (by decide) ?_
          refine gg_lv (lv' := [(0, .ref (gAd t 9 o0)), (1, .int x1), (2, .int x2), (3, .int n65)]) [1, 2, 3, 0] rfl ?_
          exact ih o0 x1 x2 n65 M v0 h
        · have h := g_it c37 h
          refine gg_aload_n (pc := 40) cx 0 rfl dX9_takesTemplate_40 rfl ?_
          refine gf_Model_source (pc := 41) cx (hM 9 _ rfl v0) tw_1315 dX9_takesTemplate_41 ?_
          refine gg_aload_n (pc := 44) cx 0 rfl dX9_takesTemplate_44 rfl ?_
          refine gf_Model_length (pc := 45) cx (hM 9 _ rfl v0) tw_1316 dX9_takesTemplate_45 ?_
          refine gg_aload_n (pc := 48) cx 0 rfl dX9_takesTemplate_48 rfl ?_
          refine gf_Model_templates (pc := 49) cx (hM 9 _ rfl v0) tw_1311 dX9_takesTemplate_49 ?_
          refine gg_iload_n (pc := 52) cx 3 rfl dX9_takesTemplate_52 rfl ?_
          have q53 := h.1
          have h := h.2
          refine gg_cald (pc := 53) cx (hM 50 _ rfl v0) rfl q53 dX9_takesTemplate_53 ?_
          have q54 := h.1
          have h := h.2
          refine gg_iast (pc := 54) cx (hM 53 _ rfl v0) (fun _ _ => rfl) q54 dX9_takesTemplate_54 ?_
          refine gg_mem (fun M54 eM54 => ?_)
          have h := h M54 eM54
          refine gg_aload_n (pc := 55) cx 0 rfl dX9_takesTemplate_55 rfl ?_
          refine gg_dup (pc := 56) cx dX9_takesTemplate_56 rfl ?_
          refine gf_Model_length (pc := 57) cx (hM 9 _ rfl v0) tw_1316 dX9_takesTemplate_57 ?_
          refine gg_iconst (pc := 60) cx (v := 1) dX9_takesTemplate_60 (by decide) ?_
          refine gg_iadd (pc := 61) cx dX9_takesTemplate_61 ?_
          refine gp_Model_length (pc := 62) cx (hM 9 _ rfl v0) tw_1316 dX9_takesTemplate_62 ?_
          refine gg_mem (fun M62 eM62 => ?_)
          have h := h M62 eM62
          obtain ⟨n65, en65⟩ : ∃ z : Int32, z = x3 + Int32.ofInt (1) := ⟨_, rfl⟩
          have h := h n65 en65
          refine gg_iinc (pc := 65) cx 3 [(3, .int n65), (0, .ref (gAd t 9 o0)), (1, .int x1), (2, .int x2)] dX9_takesTemplate_65 rfl en65.symm (by decide) rfl ?_
          refine gg_goto (pc := 68) cx (tgt := 9) dX9_takesTemplate_68 (by decide) ?_
          refine gg_lv (lv' := [(0, .ref (gAd t 9 o0)), (1, .int x1), (2, .int x2), (3, .int n65)]) [1, 2, 3, 0] rfl ?_
          exact ih o0 x1 x2 n65 M62 v0 h
      · have h := g_it c26 h
        obtain ⟨n29, en29⟩ : ∃ z : Int32, z = x2 + Int32.ofInt (1) := ⟨_, rfl⟩
        have h := h n29 en29
        refine gg_iinc (pc := 29) cx 2 [(2, .int n29), (0, .ref (gAd t 9 o0)), (1, .int x1), (3, .int x3)] dX9_takesTemplate_29 rfl en29.symm (by decide) rfl ?_
        refine gg_goto (pc := 32) cx (tgt := 65) dX9_takesTemplate_32 (by decide) ?_
        obtain ⟨n65, en65⟩ : ∃ z : Int32, z = x3 + Int32.ofInt (1) := ⟨_, rfl⟩
        have h := h n65 en65
        refine gg_iinc (pc := 65) cx 3 [(3, .int n65), (2, .int n29), (0, .ref (gAd t 9 o0)), (1, .int x1)] dX9_takesTemplate_65 rfl en65.symm (by decide) rfl ?_
        refine gg_goto (pc := 68) cx (tgt := 9) dX9_takesTemplate_68 (by decide) ?_
        refine gg_lv (lv' := [(0, .ref (gAd t 9 o0)), (1, .int x1), (2, .int n29), (3, .int n65)]) [2, 3, 1, 0] rfl ?_
        exact ih o0 x1 n29 n65 M v0 h
theorem cal_X9_takesTemplate : g_Cal yX9_takesTemplate cX9_takesTemplate 4 (none) 1 := ⟨tw_17, tw_1197, by decide, by decide, by decide +kernel⟩
theorem calv_X9_takesTemplate : g_CalV yX9_takesTemplate := ⟨tw_1196, ts_25⟩
set_option maxRecDepth 100000 in
set_option maxHeartbeats 4000000 in
theorem ct_X9_takesTemplate {l : Launch} (hl : l.stackTraces = false) {t : gT} (hM : g_hM t) {o0 : Nat} {x1 : Int32} (v0 : o0 < 1) {M : gM} {K : gM → Prop} (h : wp_X9_takesTemplate o0 x1 M K) : Met l yX9_takesTemplate (g_y yX9_takesTemplate cX9_takesTemplate 4 (none)) rm_X9_takesTemplate (va_Pc [.ref (gAd t 9 o0), .int x1] (g_Pre t M)) (va_Qv K (g_B t) (g_A t)) rm_X9_takesTemplate.cells rm_X9_takesTemplate.slots (g_A t) := by
  refine g_met hl rfl (Nat.le_of_ble_eq_true rfl) (fun X hlX cx hQ => ?_)
  subst hlX
  refine gg_iconst (pc := 0) cx (v := 0) dX9_takesTemplate_0 (by decide) ?_
  refine gg_istore_n (pc := 1) cx [(2, .int 0), (0, .ref (gAd t 9 o0)), (1, .int x1)] dX9_takesTemplate_1 rfl (by decide) rfl ?_
  refine gg_aload_n (pc := 2) cx 1 rfl dX9_takesTemplate_2 rfl ?_
  refine gg_iconst (pc := 3) cx (v := 0) dX9_takesTemplate_3 (by decide) ?_
  refine gp_Model_length (pc := 4) cx (hM 9 _ rfl v0) tw_1316 dX9_takesTemplate_4 ?_
  refine gg_mem (fun M4 eM4 => ?_)
  have h := h M4 eM4
  refine gg_iconst (pc := 7) cx (v := 0) dX9_takesTemplate_7 (by decide) ?_
  refine gg_istore_n (pc := 8) cx [(3, .int 0), (2, .int 0), (0, .ref (gAd t 9 o0)), (1, .int x1)] dX9_takesTemplate_8 rfl (by decide) rfl ?_
  refine gg_lv (lv' := [(0, .ref (gAd t 9 o0)), (1, .int x1), (2, .int 0), (3, .int 0)]) [2, 3, 1, 0] rfl ?_
  obtain ⟨f9, h⟩ := h
  exact wk_X9_takesTemplate_L9 cx hM hQ f9 o0 x1 0 0 M4 v0 h
theorem cal_X9_letter : g_Cal yX9_letter cX9_letter 2 (some .int) 1 := ⟨tw_17, tw_1221, by decide, by decide, by decide +kernel⟩
theorem calv_X9_letter : g_CalV yX9_letter := ⟨tw_1220, ts_31⟩
set_option maxRecDepth 100000 in
set_option maxHeartbeats 4000000 in
theorem ct_X9_letter {l : Launch} (hl : l.stackTraces = false) {t : gT} (hM : g_hM t) {o0 : Nat} {x1 : Int32} (v0 : o0 < 1) {M : gM} {K : Int32 → gM → Prop} (h : wp_X9_letter o0 x1 M K) : Met l yX9_letter (g_y yX9_letter cX9_letter 2 (some .int)) rm_X9_letter (va_Pc [.ref (gAd t 9 o0), .int x1] (g_Pre t M)) (va_Qi K (g_B t) (g_A t)) rm_X9_letter.cells rm_X9_letter.slots (g_A t) := by
  refine g_met hl rfl (Nat.le_of_ble_eq_true rfl) (fun X hlX cx hQ => ?_)
  subst hlX
  refine gg_iload_n (pc := 0) cx 1 rfl dX9_letter_0 rfl ?_
  refine gg_aload_n (pc := 1) cx 0 rfl dX9_letter_1 rfl ?_
  refine gf_Model_length (pc := 2) cx (hM 9 _ rfl v0) tw_1316 dX9_letter_2 ?_
  refine gg_icmp_ge (pc := 5) cx (tgt := 17) dX9_letter_5 (by decide) (fun c5 => ?_) (fun c5 => ?_)
  · have h := g_it c5 h
    refine gg_iconst (pc := 17) cx (v := (-1)) dX9_letter_17 (by decide) ?_
    exact gg_iret (pc := 18) cx hQ h dX9_letter_18
  · have h := g_if c5 h
    refine gg_aload_n (pc := 8) cx 0 rfl dX9_letter_8 rfl ?_
    refine gf_Model_source (pc := 9) cx (hM 9 _ rfl v0) tw_1315 dX9_letter_9 ?_
    refine gg_iload_n (pc := 12) cx 1 rfl dX9_letter_12 rfl ?_
    have q13 := h.1
    have h := h.2
    refine gg_iald (pc := 13) cx (hM 53 _ rfl v0) rfl q13 dX9_letter_13 ?_
    refine gg_goto (pc := 14) cx (tgt := 18) dX9_letter_14 (by decide) ?_
    exact gg_iret (pc := 18) cx hQ h dX9_letter_18
theorem cal_X9_isDigit : g_Cal yX9_isDigit cX9_isDigit 2 (some .boolean) 1 := ⟨tw_17, tw_1217, by decide, by decide, by decide +kernel⟩
theorem calv_X9_isDigit : g_CalV yX9_isDigit := ⟨tw_1216, ts_30⟩
set_option maxRecDepth 100000 in
set_option maxHeartbeats 4000000 in
theorem ct_X9_isDigit {l : Launch} (hl : l.stackTraces = false) {t : gT} (hM : g_hM t) {o0 : Nat} {x1 : Int32} (v0 : o0 < 1) {M : gM} {K : Int32 → gM → Prop} (h : wp_X9_isDigit o0 x1 M K) : Met l yX9_isDigit (g_y yX9_isDigit cX9_isDigit 2 (some .boolean)) rm_X9_isDigit (va_Pc [.ref (gAd t 9 o0), .int x1] (g_Pre t M)) (va_Qi K (g_B t) (g_A t)) rm_X9_isDigit.cells rm_X9_isDigit.slots (g_A t) := by
  refine g_met hl rfl (Nat.le_of_ble_eq_true rfl) (fun X hlX cx hQ => ?_)
  subst hlX
  refine gg_aload_n (pc := 0) cx 0 rfl dX9_isDigit_0 rfl ?_
  refine gg_iload_n (pc := 1) cx 1 rfl dX9_isDigit_1 rfl ?_
  refine gg_callVi (pc := 2) cx cal_X9_letter calv_X9_letter (ct_X9_letter cx.tr hM v0 h) tw_1218 (hM 9 _ rfl v0) rfl rfl rfl (st := []) rfl (Nat.le_of_ble_eq_true rfl) ⟨Nat.le_of_ble_eq_true rfl, Nat.le_of_ble_eq_true rfl⟩ ⟨Nat.le_of_ble_eq_true rfl, Nat.le_of_ble_eq_true rfl⟩ dX9_isDigit_2 (fun r2 M2 h => ?_)
  refine gg_i2l (pc := 5) cx dX9_isDigit_5 ?_
  refine gg_ldc2 (pc := 6) cx (v := 48) tw_1222 dX9_isDigit_6 ?_
  refine gg_ldc2 (pc := 9) cx (v := 57) tw_1223 dX9_isDigit_9 ?_
  refine gg_callSi (pc := 12) cx cal_X9_in tw_1225 (ct_X9_in cx.tr hM  h) tw_1224 rfl (st := []) rfl (Nat.le_of_ble_eq_true rfl) ⟨Nat.le_of_ble_eq_true rfl, Nat.le_of_ble_eq_true rfl⟩ ⟨Nat.le_of_ble_eq_true rfl, Nat.le_of_ble_eq_true rfl⟩ dX9_isDigit_12 (fun r12 M12 h => ?_)
  exact gg_zret (pc := 15) cx hQ h.1 h.2 dX9_isDigit_15
theorem cal_X9_wrong : g_Cal yX9_wrong cX9_wrong 4 (some .int) 3 := ⟨tw_17, tw_1209, by decide, by decide, by decide +kernel⟩
theorem calv_X9_wrong : g_CalV yX9_wrong := ⟨tw_1208, ts_28⟩
set_option maxRecDepth 100000 in
set_option maxHeartbeats 4000000 in
theorem ct_X9_wrong {l : Launch} (hl : l.stackTraces = false) {t : gT} (hM : g_hM t) {o0 : Nat} {x1 : Int32} {x2 : Int32} {x3 : Int32} (v0 : o0 < 1) {M : gM} {K : Int32 → gM → Prop} (h : wp_X9_wrong o0 x1 x2 x3 M K) : Met l yX9_wrong (g_y yX9_wrong cX9_wrong 4 (some .int)) rm_X9_wrong (va_Pc [.ref (gAd t 9 o0), .int x1, .int x2, .int x3] (g_Pre t M)) (va_Qi K (g_B t) (g_A t)) rm_X9_wrong.cells rm_X9_wrong.slots (g_A t) := by
  refine g_met hl rfl (Nat.le_of_ble_eq_true rfl) (fun X hlX cx hQ => ?_)
  subst hlX
  refine gg_aload_n (pc := 0) cx 0 rfl dX9_wrong_0 rfl ?_
  refine gf_Model_errors (pc := 1) cx (hM 9 _ rfl v0) tw_1314 dX9_wrong_1 ?_
  refine gg_iconst (pc := 4) cx (v := 0) dX9_wrong_4 (by decide) ?_
  refine gg_iload_n (pc := 5) cx 1 rfl dX9_wrong_5 rfl ?_
  have q6 := h.1
  have h := h.2
  refine gg_iast (pc := 6) cx (hM 52 _ rfl v0) (fun _ _ => rfl) q6 dX9_wrong_6 ?_
  refine gg_mem (fun M6 eM6 => ?_)
  have h := h M6 eM6
  refine gg_aload_n (pc := 7) cx 0 rfl dX9_wrong_7 rfl ?_
  refine gf_Model_errors (pc := 8) cx (hM 9 _ rfl v0) tw_1314 dX9_wrong_8 ?_
  refine gg_iconst (pc := 11) cx (v := 1) dX9_wrong_11 (by decide) ?_
  refine gg_iload_n (pc := 12) cx 2 rfl dX9_wrong_12 rfl ?_
  have q13 := h.1
  have h := h.2
  refine gg_iast (pc := 13) cx (hM 52 _ rfl v0) (fun _ _ => rfl) q13 dX9_wrong_13 ?_
  refine gg_mem (fun M13 eM13 => ?_)
  have h := h M13 eM13
  refine gg_aload_n (pc := 14) cx 0 rfl dX9_wrong_14 rfl ?_
  refine gf_Model_errors (pc := 15) cx (hM 9 _ rfl v0) tw_1314 dX9_wrong_15 ?_
  refine gg_iconst (pc := 18) cx (v := 2) dX9_wrong_18 (by decide) ?_
  refine gg_iload_n (pc := 19) cx 3 rfl dX9_wrong_19 rfl ?_
  have q20 := h.1
  have h := h.2
  refine gg_iast (pc := 20) cx (hM 52 _ rfl v0) (fun _ _ => rfl) q20 dX9_wrong_20 ?_
  refine gg_mem (fun M20 eM20 => ?_)
  have h := h M20 eM20
  refine gg_iconst (pc := 21) cx (v := (-1)) dX9_wrong_21 (by decide) ?_
  exact gg_iret (pc := 22) cx hQ h dX9_wrong_22
theorem cal_X9_emits : g_Cal yX9_emits cX9_emits 3 (none) 1 := ⟨tw_17, tw_1243, by decide, by decide, by decide +kernel⟩
theorem calv_X9_emits : g_CalV yX9_emits := ⟨tw_1242, ts_35⟩
set_option maxRecDepth 100000 in
set_option maxHeartbeats 4000000 in
theorem ct_X9_emits {l : Launch} (hl : l.stackTraces = false) {t : gT} (hM : g_hM t) {o0 : Nat} {y1 : Int64} (v0 : o0 < 1) {M : gM} {K : gM → Prop} (h : wp_X9_emits o0 y1 M K) : Met l yX9_emits (g_y yX9_emits cX9_emits 3 (none)) rm_X9_emits (va_Pc [.ref (gAd t 9 o0), .long y1] (g_Pre t M)) (va_Qv K (g_B t) (g_A t)) rm_X9_emits.cells rm_X9_emits.slots (g_A t) := by
  refine g_met hl rfl (Nat.le_of_ble_eq_true rfl) (fun X hlX cx hQ => ?_)
  subst hlX
  refine gg_aload_n (pc := 0) cx 0 rfl dX9_emits_0 rfl ?_
  refine gf_Model_steps (pc := 1) cx (hM 9 _ rfl v0) tw_1320 dX9_emits_1 ?_
  refine gg_aload_n (pc := 4) cx 0 rfl dX9_emits_4 rfl ?_
  refine gf_Model_stepMany (pc := 5) cx (hM 9 _ rfl v0) tw_1321 dX9_emits_5 ?_
  refine gg_lload_n (pc := 8) cx 1 rfl dX9_emits_8 rfl ?_
  have q9 := h.1
  have h := h.2
  refine gg_last (pc := 9) cx (hM 55 _ rfl v0) (fun _ _ => rfl) q9 dX9_emits_9 ?_
  refine gg_mem (fun M9 eM9 => ?_)
  have h := h M9 eM9
  refine gg_aload_n (pc := 10) cx 0 rfl dX9_emits_10 rfl ?_
  refine gg_dup (pc := 11) cx dX9_emits_11 rfl ?_
  refine gf_Model_stepMany (pc := 12) cx (hM 9 _ rfl v0) tw_1321 dX9_emits_12 ?_
  refine gg_iconst (pc := 15) cx (v := 1) dX9_emits_15 (by decide) ?_
  refine gg_iadd (pc := 16) cx dX9_emits_16 ?_
  refine gp_Model_stepMany (pc := 17) cx (hM 9 _ rfl v0) tw_1321 dX9_emits_17 ?_
  refine gg_mem (fun M17 eM17 => ?_)
  have h := h M17 eM17
  exact gg_vret (pc := 20) cx hQ h dX9_emits_20
theorem cal_X9_isOpen : g_Cal yX9_isOpen cX9_isOpen 1 (some .boolean) 1 := ⟨tw_17, tw_1258, by decide, by decide, by decide +kernel⟩
set_option maxRecDepth 100000 in
set_option maxHeartbeats 4000000 in
theorem ct_X9_isOpen {l : Launch} (hl : l.stackTraces = false) {t : gT} (hM : g_hM t) {x0 : Int32}  {M : gM} {K : Int32 → gM → Prop} (h : wp_X9_isOpen x0 M K) : Met l yX9_isOpen (g_y yX9_isOpen cX9_isOpen 1 (some .boolean)) rm_X9_isOpen (va_Pc [.int x0] (g_Pre t M)) (va_Qi K (g_B t) (g_A t)) rm_X9_isOpen.cells rm_X9_isOpen.slots (g_A t) := by
  refine g_met hl rfl (Nat.le_of_ble_eq_true rfl) (fun X hlX cx hQ => ?_)
  subst hlX
  refine gg_iload_n (pc := 0) cx 0 rfl dX9_isOpen_0 rfl ?_
  refine gg_bipush (pc := 1) cx (v := 40) dX9_isOpen_1 (by decide) ?_
  refine gg_icmp_eq (pc := 3) cx (tgt := 30) dX9_isOpen_3 (by decide) (fun c3 => ?_) (fun c3 => ?_)
  · have h := g_it c3 h
    refine gg_iconst (pc := 30) cx (v := 1) dX9_isOpen_30 (by decide) ?_
    refine gg_goto (pc := 31) cx (tgt := 35) dX9_isOpen_31 (by decide) ?_
    exact gg_zret (pc := 35) cx hQ rfl h dX9_isOpen_35
  · have h := g_if c3 h
    refine gg_iload_n (pc := 6) cx 0 rfl dX9_isOpen_6 rfl ?_
    refine gg_bipush (pc := 7) cx (v := 77) dX9_isOpen_7 (by decide) ?_
    refine gg_icmp_eq (pc := 9) cx (tgt := 30) dX9_isOpen_9 (by decide) (fun c9 => ?_) (fun c9 => ?_)
    · have h := g_it c9 h
      refine gg_iconst (pc := 30) cx (v := 1) dX9_isOpen_30 (by decide) ?_
      refine gg_goto (pc := 31) cx (tgt := 35) dX9_isOpen_31 (by decide) ?_
      exact gg_zret (pc := 35) cx hQ rfl h dX9_isOpen_35
    · have h := g_if c9 h
      refine gg_iload_n (pc := 12) cx 0 rfl dX9_isOpen_12 rfl ?_
      refine gg_bipush (pc := 13) cx (v := 109) dX9_isOpen_13 (by decide) ?_
      refine gg_icmp_eq (pc := 15) cx (tgt := 30) dX9_isOpen_15 (by decide) (fun c15 => ?_) (fun c15 => ?_)
      · have h := g_it c15 h
        refine gg_iconst (pc := 30) cx (v := 1) dX9_isOpen_30 (by decide) ?_
        refine gg_goto (pc := 31) cx (tgt := 35) dX9_isOpen_31 (by decide) ?_
        exact gg_zret (pc := 35) cx hQ rfl h dX9_isOpen_35
      · have h := g_if c15 h
        refine gg_iload_n (pc := 18) cx 0 rfl dX9_isOpen_18 rfl ?_
        refine gg_bipush (pc := 19) cx (v := 88) dX9_isOpen_19 (by decide) ?_
        refine gg_icmp_eq (pc := 21) cx (tgt := 30) dX9_isOpen_21 (by decide) (fun c21 => ?_) (fun c21 => ?_)
        · have h := g_it c21 h
          refine gg_iconst (pc := 30) cx (v := 1) dX9_isOpen_30 (by decide) ?_
          refine gg_goto (pc := 31) cx (tgt := 35) dX9_isOpen_31 (by decide) ?_
          exact gg_zret (pc := 35) cx hQ rfl h dX9_isOpen_35
        · have h := g_if c21 h
          refine gg_iload_n (pc := 24) cx 0 rfl dX9_isOpen_24 rfl ?_
          refine gg_bipush (pc := 25) cx (v := 120) dX9_isOpen_25 (by decide) ?_
          refine gg_icmp_ne (pc := 27) cx (tgt := 34) dX9_isOpen_27 (by decide) (fun c27 => ?_) (fun c27 => ?_)
          · have h := g_if c27 h
            refine gg_iconst (pc := 34) cx (v := 0) dX9_isOpen_34 (by decide) ?_
            exact gg_zret (pc := 35) cx hQ rfl h dX9_isOpen_35
          · have h := g_it c27 h
            refine gg_iconst (pc := 30) cx (v := 1) dX9_isOpen_30 (by decide) ?_
            refine gg_goto (pc := 31) cx (tgt := 35) dX9_isOpen_31 (by decide) ?_
            exact gg_zret (pc := 35) cx hQ rfl h dX9_isOpen_35
theorem cal_X9_strength : g_Cal yX9_strength cX9_strength 1 (some .int) 1 := ⟨tw_17, tw_1261, by decide, by decide, by decide +kernel⟩
set_option maxRecDepth 100000 in
set_option maxHeartbeats 4000000 in
theorem ct_X9_strength {l : Launch} (hl : l.stackTraces = false) {t : gT} (hM : g_hM t) {x0 : Int32}  {M : gM} {K : Int32 → gM → Prop} (h : wp_X9_strength x0 M K) : Met l yX9_strength (g_y yX9_strength cX9_strength 1 (some .int)) rm_X9_strength (va_Pc [.int x0] (g_Pre t M)) (va_Qi K (g_B t) (g_A t)) rm_X9_strength.cells rm_X9_strength.slots (g_A t) := by
  refine g_met hl rfl (Nat.le_of_ble_eq_true rfl) (fun X hlX cx hQ => ?_)
  subst hlX
  refine gg_iload_n (pc := 0) cx 0 rfl dX9_strength_0 rfl ?_
  refine gg_bipush (pc := 1) cx (v := 43) dX9_strength_1 (by decide) ?_
  refine gg_icmp_eq (pc := 3) cx (tgt := 12) dX9_strength_3 (by decide) (fun c3 => ?_) (fun c3 => ?_)
  · have h := g_it c3 h
    refine gg_iconst (pc := 12) cx (v := 1) dX9_strength_12 (by decide) ?_
    refine gg_goto (pc := 13) cx (tgt := 17) dX9_strength_13 (by decide) ?_
    exact gg_iret (pc := 17) cx hQ h dX9_strength_17
  · have h := g_if c3 h
    refine gg_iload_n (pc := 6) cx 0 rfl dX9_strength_6 rfl ?_
    refine gg_bipush (pc := 7) cx (v := 45) dX9_strength_7 (by decide) ?_
    refine gg_icmp_ne (pc := 9) cx (tgt := 16) dX9_strength_9 (by decide) (fun c9 => ?_) (fun c9 => ?_)
    · have h := g_if c9 h
      refine gg_iconst (pc := 16) cx (v := 2) dX9_strength_16 (by decide) ?_
      exact gg_iret (pc := 17) cx hQ h dX9_strength_17
    · have h := g_it c9 h
      refine gg_iconst (pc := 12) cx (v := 1) dX9_strength_12 (by decide) ?_
      refine gg_goto (pc := 13) cx (tgt := 17) dX9_strength_13 (by decide) ?_
      exact gg_iret (pc := 17) cx hQ h dX9_strength_17
theorem cal_X9_stepOf : g_Cal yX9_stepOf cX9_stepOf 1 (some .long) 1 := ⟨tw_17, tw_1272, by decide, by decide, by decide +kernel⟩
set_option maxRecDepth 100000 in
set_option maxHeartbeats 4000000 in
theorem ct_X9_stepOf {l : Launch} (hl : l.stackTraces = false) {t : gT} (hM : g_hM t) {x0 : Int32}  {M : gM} {K : Int64 → gM → Prop} (h : wp_X9_stepOf x0 M K) : Met l yX9_stepOf (g_y yX9_stepOf cX9_stepOf 1 (some .long)) rm_X9_stepOf (va_Pc [.int x0] (g_Pre t M)) (va_Ql K (g_B t) (g_A t)) rm_X9_stepOf.cells rm_X9_stepOf.slots (g_A t) := by
  refine g_met hl rfl (Nat.le_of_ble_eq_true rfl) (fun X hlX cx hQ => ?_)
  subst hlX
  refine gg_iload_n (pc := 0) cx 0 rfl dX9_stepOf_0 rfl ?_
  refine gg_bipush (pc := 1) cx (v := 43) dX9_stepOf_1 (by decide) ?_
  refine gg_icmp_ne (pc := 3) cx (tgt := 12) dX9_stepOf_3 (by decide) (fun c3 => ?_) (fun c3 => ?_)
  · have h := g_if c3 h
    refine gg_iload_n (pc := 12) cx 0 rfl dX9_stepOf_12 rfl ?_
    refine gg_bipush (pc := 13) cx (v := 45) dX9_stepOf_13 (by decide) ?_
    refine gg_icmp_ne (pc := 15) cx (tgt := 24) dX9_stepOf_15 (by decide) (fun c15 => ?_) (fun c15 => ?_)
    · have h := g_if c15 h
      refine gg_iload_n (pc := 24) cx 0 rfl dX9_stepOf_24 rfl ?_
      refine gg_bipush (pc := 25) cx (v := 42) dX9_stepOf_25 (by decide) ?_
      refine gg_icmp_ne (pc := 27) cx (tgt := 36) dX9_stepOf_27 (by decide) (fun c27 => ?_) (fun c27 => ?_)
      · have h := g_if c27 h
        refine gg_iload_n (pc := 36) cx 0 rfl dX9_stepOf_36 rfl ?_
        refine gg_bipush (pc := 37) cx (v := 47) dX9_stepOf_37 (by decide) ?_
        refine gg_icmp_ne (pc := 39) cx (tgt := 48) dX9_stepOf_39 (by decide) (fun c39 => ?_) (fun c39 => ?_)
        · have h := g_if c39 h
          refine gg_iload_n (pc := 48) cx 0 rfl dX9_stepOf_48 rfl ?_
          refine gg_bipush (pc := 49) cx (v := 117) dX9_stepOf_49 (by decide) ?_
          refine gg_icmp_ne (pc := 51) cx (tgt := 60) dX9_stepOf_51 (by decide) (fun c51 => ?_) (fun c51 => ?_)
          · have h := g_if c51 h
            refine gg_iload_n (pc := 60) cx 0 rfl dX9_stepOf_60 rfl ?_
            refine gg_bipush (pc := 61) cx (v := 88) dX9_stepOf_61 (by decide) ?_
            refine gg_icmp_ne (pc := 63) cx (tgt := 72) dX9_stepOf_63 (by decide) (fun c63 => ?_) (fun c63 => ?_)
            · have h := g_if c63 h
              refine gg_ldc2 (pc := 72) cx (v := (-7)) tw_1279 dX9_stepOf_72 ?_
              exact gg_lret (pc := 75) cx hQ h dX9_stepOf_75
            · have h := g_it c63 h
              refine gg_ldc2 (pc := 66) cx (v := (-6)) tw_1278 dX9_stepOf_66 ?_
              refine gg_goto (pc := 69) cx (tgt := 75) dX9_stepOf_69 (by decide) ?_
              exact gg_lret (pc := 75) cx hQ h dX9_stepOf_75
          · have h := g_it c51 h
            refine gg_ldc2 (pc := 54) cx (v := (-5)) tw_1277 dX9_stepOf_54 ?_
            refine gg_goto (pc := 57) cx (tgt := 75) dX9_stepOf_57 (by decide) ?_
            exact gg_lret (pc := 75) cx hQ h dX9_stepOf_75
        · have h := g_it c39 h
          refine gg_ldc2 (pc := 42) cx (v := (-4)) tw_1276 dX9_stepOf_42 ?_
          refine gg_goto (pc := 45) cx (tgt := 75) dX9_stepOf_45 (by decide) ?_
          exact gg_lret (pc := 75) cx hQ h dX9_stepOf_75
      · have h := g_it c27 h
        refine gg_ldc2 (pc := 30) cx (v := (-3)) tw_1275 dX9_stepOf_30 ?_
        refine gg_goto (pc := 33) cx (tgt := 75) dX9_stepOf_33 (by decide) ?_
        exact gg_lret (pc := 75) cx hQ h dX9_stepOf_75
    · have h := g_it c15 h
      refine gg_ldc2 (pc := 18) cx (v := (-2)) tw_1274 dX9_stepOf_18 ?_
      refine gg_goto (pc := 21) cx (tgt := 75) dX9_stepOf_21 (by decide) ?_
      exact gg_lret (pc := 75) cx hQ h dX9_stepOf_75
  · have h := g_it c3 h
    refine gg_ldc2 (pc := 6) cx (v := (-1)) tw_1273 dX9_stepOf_6 ?_
    refine gg_goto (pc := 9) cx (tgt := 75) dX9_stepOf_9 (by decide) ?_
    exact gg_lret (pc := 75) cx hQ h dX9_stepOf_75
theorem cal_X9_top : g_Cal yX9_top cX9_top 1 (some .int) 0 := ⟨tw_17, tw_1269, by decide, by decide, by decide +kernel⟩
theorem calv_X9_top : g_CalV yX9_top := ⟨tw_1268, ts_39⟩
set_option maxRecDepth 100000 in
set_option maxHeartbeats 4000000 in
theorem ct_X9_top {l : Launch} (hl : l.stackTraces = false) {t : gT} (hM : g_hM t) {o0 : Nat} (v0 : o0 < 1) {M : gM} {K : Int32 → gM → Prop} (h : wp_X9_top o0 M K) : Met l yX9_top (g_y yX9_top cX9_top 1 (some .int)) rm_X9_top (va_Pc [.ref (gAd t 9 o0)] (g_Pre t M)) (va_Qi K (g_B t) (g_A t)) rm_X9_top.cells rm_X9_top.slots (g_A t) := by
  refine g_met hl rfl (Nat.le_of_ble_eq_true rfl) (fun X hlX cx hQ => ?_)
  subst hlX
  refine gg_aload_n (pc := 0) cx 0 rfl dX9_top_0 rfl ?_
  refine gf_Model_signMany (pc := 1) cx (hM 9 _ rfl v0) tw_1323 dX9_top_1 ?_
  refine gg_if_ne (pc := 4) cx (tgt := 11) dX9_top_4 (by decide) (fun c4 => ?_) (fun c4 => ?_)
  · have h := g_if c4 h
    refine gg_aload_n (pc := 11) cx 0 rfl dX9_top_11 rfl ?_
    refine gf_Model_signs (pc := 12) cx (hM 9 _ rfl v0) tw_1322 dX9_top_12 ?_
    refine gg_aload_n (pc := 15) cx 0 rfl dX9_top_15 rfl ?_
    refine gf_Model_signMany (pc := 16) cx (hM 9 _ rfl v0) tw_1323 dX9_top_16 ?_
    refine gg_iconst (pc := 19) cx (v := 1) dX9_top_19 (by decide) ?_
    refine gg_isub (pc := 20) cx dX9_top_20 ?_
    have q21 := h.1
    have h := h.2
    refine gg_iald (pc := 21) cx (hM 56 _ rfl v0) rfl q21 dX9_top_21 ?_
    exact gg_iret (pc := 22) cx hQ h dX9_top_22
  · have h := g_it c4 h
    refine gg_iconst (pc := 7) cx (v := 0) dX9_top_7 (by decide) ?_
    refine gg_goto (pc := 8) cx (tgt := 22) dX9_top_8 (by decide) ?_
    exact gg_iret (pc := 22) cx hQ h dX9_top_22
set_option maxRecDepth 100000 in
set_option maxHeartbeats 4000000 in
theorem wk_X9_settles_L0 {t : gT} {X : gX} (cx : g_Cx t X cX9_settles 2 RX9 (none)) (hM : g_hM t) {K : gM → Prop} (hQ : gXQ X = MQ (gXb X) (va_Qv K (g_B t) (g_A t)) (gXa X) (gXs X) rm_X9_settles.cells rm_X9_settles.slots (g_A t)) (f : Nat) : ∀ (o0 : Nat) (x1 : Int32) (M : gM), o0 < 1 → wp_X9_settles_L0 K f o0 x1 M → G t rm_X9_settles X 2 0 0 M [(0, .ref (gAd t 9 o0)), (1, .int x1)] [] 0 := by
  induction f with
  | zero => intro _ _ _ _ _; exact False.elim (by assumption)
  | succ f ih =>
    intro o0 x1 M v0 h
    refine gg_aload_n (pc := 0) cx 0 rfl dX9_settles_0 rfl ?_
    refine gf_Model_signMany (pc := 1) cx (hM 9 _ rfl v0) tw_1323 dX9_settles_1 ?_
    refine gg_if_le (pc := 4) cx (tgt := 57) dX9_settles_4 (by decide) (fun c4 => ?_) (fun c4 => ?_)
    · have h := g_it c4 h
      exact gg_vret (pc := 57) cx hQ h dX9_settles_57
    · have h := g_if c4 h
      refine gg_aload_n (pc := 7) cx 0 rfl dX9_settles_7 rfl ?_
      refine gg_callVi (pc := 8) cx cal_X9_top calv_X9_top (ct_X9_top cx.tr hM v0 h) tw_1266 (hM 9 _ rfl v0) rfl rfl rfl (st := []) rfl (Nat.le_of_ble_eq_true rfl) ⟨Nat.le_of_ble_eq_true rfl, Nat.le_of_ble_eq_true rfl⟩ ⟨Nat.le_of_ble_eq_true rfl, Nat.le_of_ble_eq_true rfl⟩ dX9_settles_8 (fun r8 M8 h => ?_)
      refine gg_callSi (pc := 11) cx cal_X9_isOpen tw_1257 (ct_X9_isOpen cx.tr hM  h) tw_1256 rfl (st := []) rfl (Nat.le_of_ble_eq_true rfl) ⟨Nat.le_of_ble_eq_true rfl, Nat.le_of_ble_eq_true rfl⟩ ⟨Nat.le_of_ble_eq_true rfl, Nat.le_of_ble_eq_true rfl⟩ dX9_settles_11 (fun r11 M11 h => ?_)
      refine gg_if_ne (pc := 14) cx (tgt := 57) dX9_settles_14 (by decide) (fun c14 => ?_) (fun c14 => ?_)
      · have h := g_if c14 h
        exact gg_vret (pc := 57) cx hQ h dX9_settles_57
      · have h := g_it c14 h
        refine gg_aload_n (pc := 17) cx 0 rfl dX9_settles_17 rfl ?_
        refine gg_callVi (pc := 18) cx cal_X9_top calv_X9_top (ct_X9_top cx.tr hM v0 h) tw_1266 (hM 9 _ rfl v0) rfl rfl rfl (st := []) rfl (Nat.le_of_ble_eq_true rfl) ⟨Nat.le_of_ble_eq_true rfl, Nat.le_of_ble_eq_true rfl⟩ ⟨Nat.le_of_ble_eq_true rfl, Nat.le_of_ble_eq_true rfl⟩ dX9_settles_18 (fun r18 M18 h => ?_)
        refine gg_callSi (pc := 21) cx cal_X9_strength tw_1260 (ct_X9_strength cx.tr hM  h) tw_1259 rfl (st := []) rfl (Nat.le_of_ble_eq_true rfl) ⟨Nat.le_of_ble_eq_true rfl, Nat.le_of_ble_eq_true rfl⟩ ⟨Nat.le_of_ble_eq_true rfl, Nat.le_of_ble_eq_true rfl⟩ dX9_settles_21 (fun r21 M21 h => ?_)
        refine gg_iload_n (pc := 24) cx 1 rfl dX9_settles_24 rfl ?_
        refine gg_icmp_lt (pc := 25) cx (tgt := 57) dX9_settles_25 (by decide) (fun c25 => ?_) (fun c25 => ?_)
        · have h := g_it c25 h
          exact gg_vret (pc := 57) cx hQ h dX9_settles_57
        · have h := g_if c25 h
          refine gg_aload_n (pc := 28) cx 0 rfl dX9_settles_28 rfl ?_
          refine gg_dup (pc := 29) cx dX9_settles_29 rfl ?_
          refine gf_Model_signMany (pc := 30) cx (hM 9 _ rfl v0) tw_1323 dX9_settles_30 ?_
          refine gg_iconst (pc := 33) cx (v := 1) dX9_settles_33 (by decide) ?_
          refine gg_isub (pc := 34) cx dX9_settles_34 ?_
          refine gp_Model_signMany (pc := 35) cx (hM 9 _ rfl v0) tw_1323 dX9_settles_35 ?_
          refine gg_mem (fun M35 eM35 => ?_)
          have h := h M35 eM35
          refine gg_aload_n (pc := 38) cx 0 rfl dX9_settles_38 rfl ?_
          refine gg_aload_n (pc := 39) cx 0 rfl dX9_settles_39 rfl ?_
          refine gf_Model_signs (pc := 40) cx (hM 9 _ rfl v0) tw_1322 dX9_settles_40 ?_
          refine gg_aload_n (pc := 43) cx 0 rfl dX9_settles_43 rfl ?_
          refine gf_Model_signMany (pc := 44) cx (hM 9 _ rfl v0) tw_1323 dX9_settles_44 ?_
          have q47 := h.1
          have h := h.2
          refine gg_iald (pc := 47) cx (hM 56 _ rfl v0) rfl q47 dX9_settles_47 ?_
          refine gg_callSl (pc := 48) cx cal_X9_stepOf tw_1271 (ct_X9_stepOf cx.tr hM  h) tw_1270 rfl (st := [.ref (gAd t 9 o0)]) rfl (Nat.le_of_ble_eq_true rfl) ⟨Nat.le_of_ble_eq_true rfl, Nat.le_of_ble_eq_true rfl⟩ ⟨Nat.le_of_ble_eq_true rfl, Nat.le_of_ble_eq_true rfl⟩ dX9_settles_48 (fun r48 M48 h => ?_)
          refine gg_callVv (pc := 51) cx cal_X9_emits calv_X9_emits (ct_X9_emits cx.tr hM v0 h) tw_1240 (hM 9 _ rfl v0) rfl rfl rfl (st := []) rfl (Nat.le_of_ble_eq_true rfl) ⟨Nat.le_of_ble_eq_true rfl, Nat.le_of_ble_eq_true rfl⟩ ⟨Nat.le_of_ble_eq_true rfl, Nat.le_of_ble_eq_true rfl⟩ dX9_settles_51 (fun M51 h => ?_)
          refine gg_goto (pc := 54) cx (tgt := 0) dX9_settles_54 (by decide) ?_
          exact ih o0 x1 M51 v0 h
theorem cal_X9_settles : g_Cal yX9_settles cX9_settles 2 (none) 1 := ⟨tw_17, tw_1265, by decide, by decide, by decide +kernel⟩
theorem calv_X9_settles : g_CalV yX9_settles := ⟨tw_1264, ts_38⟩
set_option maxRecDepth 100000 in
set_option maxHeartbeats 4000000 in
theorem ct_X9_settles {l : Launch} (hl : l.stackTraces = false) {t : gT} (hM : g_hM t) {o0 : Nat} {x1 : Int32} (v0 : o0 < 1) {M : gM} {K : gM → Prop} (h : wp_X9_settles o0 x1 M K) : Met l yX9_settles (g_y yX9_settles cX9_settles 2 (none)) rm_X9_settles (va_Pc [.ref (gAd t 9 o0), .int x1] (g_Pre t M)) (va_Qv K (g_B t) (g_A t)) rm_X9_settles.cells rm_X9_settles.slots (g_A t) := by
  refine g_met hl rfl (Nat.le_of_ble_eq_true rfl) (fun X hlX cx hQ => ?_)
  subst hlX
  obtain ⟨f0, h⟩ := h
  exact wk_X9_settles_L0 cx hM hQ f0 o0 x1 M v0 h
set_option maxRecDepth 100000 in
set_option maxHeartbeats 4000000 in
theorem wk_X9_isWhole_L0 {t : gT} {X : gX} (cx : g_Cx t X cX9_isWhole 1 RX9 (none)) (hM : g_hM t) {K : gM → Prop} (hQ : gXQ X = MQ (gXb X) (va_Qv K (g_B t) (g_A t)) (gXa X) (gXs X) rm_X9_isWhole.cells rm_X9_isWhole.slots (g_A t)) (f : Nat) : ∀ (o0 : Nat) (M : gM), o0 < 1 → wp_X9_isWhole_L0 K f o0 M → G t rm_X9_isWhole X 1 0 0 M [(0, .ref (gAd t 9 o0))] [] 0 := by
  induction f with
  | zero => intro _ _ _ _; exact False.elim (by assumption)
  | succ f ih =>
    intro o0 M v0 h
    refine gg_aload_n (pc := 0) cx 0 rfl dX9_isWhole_0 rfl ?_
    refine gg_callVi (pc := 1) cx cal_X9_top calv_X9_top (ct_X9_top cx.tr hM v0 h) tw_1266 (hM 9 _ rfl v0) rfl rfl rfl (st := []) rfl (Nat.le_of_ble_eq_true rfl) ⟨Nat.le_of_ble_eq_true rfl, Nat.le_of_ble_eq_true rfl⟩ ⟨Nat.le_of_ble_eq_true rfl, Nat.le_of_ble_eq_true rfl⟩ dX9_isWhole_1 (fun r1 M1 h => ?_)
    refine gg_bipush (pc := 4) cx (v := 117) dX9_isWhole_4 (by decide) ?_
    refine gg_icmp_ne (pc := 6) cx (tgt := 31) dX9_isWhole_6 (by decide) (fun c6 => ?_) (fun c6 => ?_)
    · have h := g_if c6 h
      exact gg_vret (pc := 31) cx hQ h dX9_isWhole_31
    · have h := g_it c6 h
      refine gg_aload_n (pc := 9) cx 0 rfl dX9_isWhole_9 rfl ?_
      refine gg_dup (pc := 10) cx dX9_isWhole_10 rfl ?_
      refine gf_Model_signMany (pc := 11) cx (hM 9 _ rfl v0) tw_1323 dX9_isWhole_11 ?_
      refine gg_iconst (pc := 14) cx (v := 1) dX9_isWhole_14 (by decide) ?_
      refine gg_isub (pc := 15) cx dX9_isWhole_15 ?_
      refine gp_Model_signMany (pc := 16) cx (hM 9 _ rfl v0) tw_1323 dX9_isWhole_16 ?_
      refine gg_mem (fun M16 eM16 => ?_)
      have h := h M16 eM16
      refine gg_aload_n (pc := 19) cx 0 rfl dX9_isWhole_19 rfl ?_
      refine gg_bipush (pc := 20) cx (v := 117) dX9_isWhole_20 (by decide) ?_
      refine gg_callSl (pc := 22) cx cal_X9_stepOf tw_1271 (ct_X9_stepOf cx.tr hM  h) tw_1270 rfl (st := [.ref (gAd t 9 o0)]) rfl (Nat.le_of_ble_eq_true rfl) ⟨Nat.le_of_ble_eq_true rfl, Nat.le_of_ble_eq_true rfl⟩ ⟨Nat.le_of_ble_eq_true rfl, Nat.le_of_ble_eq_true rfl⟩ dX9_isWhole_22 (fun r22 M22 h => ?_)
      refine gg_callVv (pc := 25) cx cal_X9_emits calv_X9_emits (ct_X9_emits cx.tr hM v0 h) tw_1240 (hM 9 _ rfl v0) rfl rfl rfl (st := []) rfl (Nat.le_of_ble_eq_true rfl) ⟨Nat.le_of_ble_eq_true rfl, Nat.le_of_ble_eq_true rfl⟩ ⟨Nat.le_of_ble_eq_true rfl, Nat.le_of_ble_eq_true rfl⟩ dX9_isWhole_25 (fun M25 h => ?_)
      refine gg_goto (pc := 28) cx (tgt := 0) dX9_isWhole_28 (by decide) ?_
      exact ih o0 M25 v0 h
theorem cal_X9_isWhole : g_Cal yX9_isWhole cX9_isWhole 1 (none) 0 := ⟨tw_17, tw_1283, by decide, by decide, by decide +kernel⟩
theorem calv_X9_isWhole : g_CalV yX9_isWhole := ⟨tw_1282, ts_40⟩
set_option maxRecDepth 100000 in
set_option maxHeartbeats 4000000 in
theorem ct_X9_isWhole {l : Launch} (hl : l.stackTraces = false) {t : gT} (hM : g_hM t) {o0 : Nat} (v0 : o0 < 1) {M : gM} {K : gM → Prop} (h : wp_X9_isWhole o0 M K) : Met l yX9_isWhole (g_y yX9_isWhole cX9_isWhole 1 (none)) rm_X9_isWhole (va_Pc [.ref (gAd t 9 o0)] (g_Pre t M)) (va_Qv K (g_B t) (g_A t)) rm_X9_isWhole.cells rm_X9_isWhole.slots (g_A t) := by
  refine g_met hl rfl (Nat.le_of_ble_eq_true rfl) (fun X hlX cx hQ => ?_)
  subst hlX
  obtain ⟨f0, h⟩ := h
  exact wk_X9_isWhole_L0 cx hM hQ f0 o0 M v0 h
set_option maxRecDepth 100000 in
set_option maxHeartbeats 4000000 in
theorem wk_X9_innermost_L7 {t : gT} {X : gX} (cx : g_Cx t X cX9_innermost 2 RX9 (some .int)) (hM : g_hM t) {K : Int32 → gM → Prop} (hQ : gXQ X = MQ (gXb X) (va_Qi K (g_B t) (g_A t)) (gXa X) (gXs X) rm_X9_innermost.cells rm_X9_innermost.slots (g_A t)) (f : Nat) : ∀ (o0 : Nat) (x1 : Int32) (M : gM), o0 < 1 → wp_X9_innermost_L7 K f o0 x1 M → G t rm_X9_innermost X 2 0 0 M [(0, .ref (gAd t 9 o0)), (1, .int x1)] [] 7 := by
  induction f with
  | zero => intro _ _ _ _ _; exact False.elim (by assumption)
  | succ f ih =>
    intro o0 x1 M v0 h
    refine gg_iload_n (pc := 7) cx 1 rfl dX9_innermost_7 rfl ?_
    refine gg_if_lt (pc := 8) cx (tgt := 36) dX9_innermost_8 (by decide) (fun c8 => ?_) (fun c8 => ?_)
    · have h := g_it c8 h
      refine gg_iconst (pc := 36) cx (v := 0) dX9_innermost_36 (by decide) ?_
      exact gg_iret (pc := 37) cx hQ h dX9_innermost_37
    · have h := g_if c8 h
      refine gg_aload_n (pc := 11) cx 0 rfl dX9_innermost_11 rfl ?_
      refine gf_Model_signs (pc := 12) cx (hM 9 _ rfl v0) tw_1322 dX9_innermost_12 ?_
      refine gg_iload_n (pc := 15) cx 1 rfl dX9_innermost_15 rfl ?_
      have q16 := h.1
      have h := h.2
      refine gg_iald (pc := 16) cx (hM 56 _ rfl v0) rfl q16 dX9_innermost_16 ?_
      refine gg_callSi (pc := 17) cx cal_X9_isOpen tw_1257 (ct_X9_isOpen cx.tr hM  h) tw_1256 rfl (st := []) rfl (Nat.le_of_ble_eq_true rfl) ⟨Nat.le_of_ble_eq_true rfl, Nat.le_of_ble_eq_true rfl⟩ ⟨Nat.le_of_ble_eq_true rfl, Nat.le_of_ble_eq_true rfl⟩ dX9_innermost_17 (fun r17 M17 h => ?_)
      refine gg_if_eq (pc := 20) cx (tgt := 30) dX9_innermost_20 (by decide) (fun c20 => ?_) (fun c20 => ?_)
      · have h := g_it c20 h
        obtain ⟨n30, en30⟩ : ∃ z : Int32, z = x1 + Int32.ofInt (-1) := ⟨_, rfl⟩
        have h := h n30 en30
        refine gg_iinc (pc := 30) cx 1 [(1, .int n30), (0, .ref (gAd t 9 o0))] dX9_innermost_30 rfl en30.symm (by decide) rfl ?_
        refine gg_goto (pc := 33) cx (tgt := 7) dX9_innermost_33 (by decide) ?_
        refine gg_lv (lv' := [(0, .ref (gAd t 9 o0)), (1, .int n30)]) [1, 0] rfl ?_
        exact ih o0 n30 M17 v0 h
      · have h := g_if c20 h
        refine gg_aload_n (pc := 23) cx 0 rfl dX9_innermost_23 rfl ?_
        refine gf_Model_signs (pc := 24) cx (hM 9 _ rfl v0) tw_1322 dX9_innermost_24 ?_
        refine gg_iload_n (pc := 27) cx 1 rfl dX9_innermost_27 rfl ?_
        have q28 := h.1
        have h := h.2
        refine gg_iald (pc := 28) cx (hM 56 _ rfl v0) rfl q28 dX9_innermost_28 ?_
        exact gg_iret (pc := 29) cx hQ h dX9_innermost_29
theorem cal_X9_innermost : g_Cal yX9_innermost cX9_innermost 2 (some .int) 0 := ⟨tw_17, tw_1255, by decide, by decide, by decide +kernel⟩
theorem calv_X9_innermost : g_CalV yX9_innermost := ⟨tw_1254, ts_37⟩
set_option maxRecDepth 100000 in
set_option maxHeartbeats 4000000 in
theorem ct_X9_innermost {l : Launch} (hl : l.stackTraces = false) {t : gT} (hM : g_hM t) {o0 : Nat} (v0 : o0 < 1) {M : gM} {K : Int32 → gM → Prop} (h : wp_X9_innermost o0 M K) : Met l yX9_innermost (g_y yX9_innermost cX9_innermost 2 (some .int)) rm_X9_innermost (va_Pc [.ref (gAd t 9 o0)] (g_Pre t M)) (va_Qi K (g_B t) (g_A t)) rm_X9_innermost.cells rm_X9_innermost.slots (g_A t) := by
  refine g_met hl rfl (Nat.le_of_ble_eq_true rfl) (fun X hlX cx hQ => ?_)
  subst hlX
  refine gg_aload_n (pc := 0) cx 0 rfl dX9_innermost_0 rfl ?_
  refine gf_Model_signMany (pc := 1) cx (hM 9 _ rfl v0) tw_1323 dX9_innermost_1 ?_
  refine gg_iconst (pc := 4) cx (v := 1) dX9_innermost_4 (by decide) ?_
  refine gg_isub (pc := 5) cx dX9_innermost_5 ?_
  refine gg_topi (fun n6 en6 => ?_)
  have h := h n6 en6
  refine gg_istore_n (pc := 6) cx [(1, .int n6), (0, .ref (gAd t 9 o0))] dX9_innermost_6 rfl (by decide) rfl ?_
  refine gg_lv (lv' := [(0, .ref (gAd t 9 o0)), (1, .int n6)]) [1, 0] rfl ?_
  obtain ⟨f7, h⟩ := h
  exact wk_X9_innermost_L7 cx hM hQ f7 o0 n6 M v0 h
theorem cal_X9_variable : g_Cal yX9_variable cX9_variable 1 (some .int) 1 := ⟨tw_17, tw_1246, by decide, by decide, by decide +kernel⟩
set_option maxRecDepth 100000 in
set_option maxHeartbeats 4000000 in
theorem ct_X9_variable {l : Launch} (hl : l.stackTraces = false) {t : gT} (hM : g_hM t) {x0 : Int32}  {M : gM} {K : Int32 → gM → Prop} (h : wp_X9_variable x0 M K) : Met l yX9_variable (g_y yX9_variable cX9_variable 1 (some .int)) rm_X9_variable (va_Pc [.int x0] (g_Pre t M)) (va_Qi K (g_B t) (g_A t)) rm_X9_variable.cells rm_X9_variable.slots (g_A t) := by
  refine g_met hl rfl (Nat.le_of_ble_eq_true rfl) (fun X hlX cx hQ => ?_)
  subst hlX
  refine gg_iload_n (pc := 0) cx 0 rfl dX9_variable_0 rfl ?_
  by_cases c1_97 : x0 = 97
  · have h := g_it c1_97 h
    refine gg_swv c1_97 ?_
    refine gg_tableIn (pc := 1) cx (off := 117) (tgt := 118) dX9_variable_1 (by decide) (by decide) rfl (by decide) ?_
    refine gg_iconst (pc := 118) cx (v := 5) dX9_variable_118 (by decide) ?_
    exact gg_iret (pc := 119) cx hQ h dX9_variable_119
  have h := g_if c1_97 h
  by_cases c1_98 : x0 = 98
  · have h := g_it c1_98 h
    refine gg_swv c1_98 ?_
    refine gg_tableIn (pc := 1) cx (off := 131) (tgt := 132) dX9_variable_1 (by decide) (by decide) rfl (by decide) ?_
    refine gg_iconst (pc := 132) cx (v := (-1)) dX9_variable_132 (by decide) ?_
    exact gg_iret (pc := 133) cx hQ h dX9_variable_133
  have h := g_if c1_98 h
  by_cases c1_99 : x0 = 99
  · have h := g_it c1_99 h
    refine gg_swv c1_99 ?_
    refine gg_tableIn (pc := 1) cx (off := 131) (tgt := 132) dX9_variable_1 (by decide) (by decide) rfl (by decide) ?_
    refine gg_iconst (pc := 132) cx (v := (-1)) dX9_variable_132 (by decide) ?_
    exact gg_iret (pc := 133) cx hQ h dX9_variable_133
  have h := g_if c1_99 h
  by_cases c1_100 : x0 = 100
  · have h := g_it c1_100 h
    refine gg_swv c1_100 ?_
    refine gg_tableIn (pc := 1) cx (off := 111) (tgt := 112) dX9_variable_1 (by decide) (by decide) rfl (by decide) ?_
    refine gg_iconst (pc := 112) cx (v := 2) dX9_variable_112 (by decide) ?_
    exact gg_iret (pc := 113) cx hQ h dX9_variable_113
  have h := g_if c1_100 h
  by_cases c1_101 : x0 = 101
  · have h := g_it c1_101 h
    refine gg_swv c1_101 ?_
    refine gg_tableIn (pc := 1) cx (off := 131) (tgt := 132) dX9_variable_1 (by decide) (by decide) rfl (by decide) ?_
    refine gg_iconst (pc := 132) cx (v := (-1)) dX9_variable_132 (by decide) ?_
    exact gg_iret (pc := 133) cx hQ h dX9_variable_133
  have h := g_if c1_101 h
  by_cases c1_102 : x0 = 102
  · have h := g_it c1_102 h
    refine gg_swv c1_102 ?_
    refine gg_tableIn (pc := 1) cx (off := 113) (tgt := 114) dX9_variable_1 (by decide) (by decide) rfl (by decide) ?_
    refine gg_iconst (pc := 114) cx (v := 3) dX9_variable_114 (by decide) ?_
    exact gg_iret (pc := 115) cx hQ h dX9_variable_115
  have h := g_if c1_102 h
  by_cases c1_103 : x0 = 103
  · have h := g_it c1_103 h
    refine gg_swv c1_103 ?_
    refine gg_tableIn (pc := 1) cx (off := 131) (tgt := 132) dX9_variable_1 (by decide) (by decide) rfl (by decide) ?_
    refine gg_iconst (pc := 132) cx (v := (-1)) dX9_variable_132 (by decide) ?_
    exact gg_iret (pc := 133) cx hQ h dX9_variable_133
  have h := g_if c1_103 h
  by_cases c1_104 : x0 = 104
  · have h := g_it c1_104 h
    refine gg_swv c1_104 ?_
    refine gg_tableIn (pc := 1) cx (off := 131) (tgt := 132) dX9_variable_1 (by decide) (by decide) rfl (by decide) ?_
    refine gg_iconst (pc := 132) cx (v := (-1)) dX9_variable_132 (by decide) ?_
    exact gg_iret (pc := 133) cx hQ h dX9_variable_133
  have h := g_if c1_104 h
  by_cases c1_105 : x0 = 105
  · have h := g_it c1_105 h
    refine gg_swv c1_105 ?_
    refine gg_tableIn (pc := 1) cx (off := 131) (tgt := 132) dX9_variable_1 (by decide) (by decide) rfl (by decide) ?_
    refine gg_iconst (pc := 132) cx (v := (-1)) dX9_variable_132 (by decide) ?_
    exact gg_iret (pc := 133) cx hQ h dX9_variable_133
  have h := g_if c1_105 h
  by_cases c1_106 : x0 = 106
  · have h := g_it c1_106 h
    refine gg_swv c1_106 ?_
    refine gg_tableIn (pc := 1) cx (off := 131) (tgt := 132) dX9_variable_1 (by decide) (by decide) rfl (by decide) ?_
    refine gg_iconst (pc := 132) cx (v := (-1)) dX9_variable_132 (by decide) ?_
    exact gg_iret (pc := 133) cx hQ h dX9_variable_133
  have h := g_if c1_106 h
  by_cases c1_107 : x0 = 107
  · have h := g_it c1_107 h
    refine gg_swv c1_107 ?_
    refine gg_tableIn (pc := 1) cx (off := 131) (tgt := 132) dX9_variable_1 (by decide) (by decide) rfl (by decide) ?_
    refine gg_iconst (pc := 132) cx (v := (-1)) dX9_variable_132 (by decide) ?_
    exact gg_iret (pc := 133) cx hQ h dX9_variable_133
  have h := g_if c1_107 h
  by_cases c1_108 : x0 = 108
  · have h := g_it c1_108 h
    refine gg_swv c1_108 ?_
    refine gg_tableIn (pc := 1) cx (off := 109) (tgt := 110) dX9_variable_1 (by decide) (by decide) rfl (by decide) ?_
    refine gg_iconst (pc := 110) cx (v := 1) dX9_variable_110 (by decide) ?_
    exact gg_iret (pc := 111) cx hQ h dX9_variable_111
  have h := g_if c1_108 h
  by_cases c1_109 : x0 = 109
  · have h := g_it c1_109 h
    refine gg_swv c1_109 ?_
    refine gg_tableIn (pc := 1) cx (off := 131) (tgt := 132) dX9_variable_1 (by decide) (by decide) rfl (by decide) ?_
    refine gg_iconst (pc := 132) cx (v := (-1)) dX9_variable_132 (by decide) ?_
    exact gg_iret (pc := 133) cx hQ h dX9_variable_133
  have h := g_if c1_109 h
  by_cases c1_110 : x0 = 110
  · have h := g_it c1_110 h
    refine gg_swv c1_110 ?_
    refine gg_tableIn (pc := 1) cx (off := 125) (tgt := 126) dX9_variable_1 (by decide) (by decide) rfl (by decide) ?_
    refine gg_bipush (pc := 126) cx (v := 8) dX9_variable_126 (by decide) ?_
    exact gg_iret (pc := 128) cx hQ h dX9_variable_128
  have h := g_if c1_110 h
  by_cases c1_111 : x0 = 111
  · have h := g_it c1_111 h
    refine gg_swv c1_111 ?_
    refine gg_tableIn (pc := 1) cx (off := 131) (tgt := 132) dX9_variable_1 (by decide) (by decide) rfl (by decide) ?_
    refine gg_iconst (pc := 132) cx (v := (-1)) dX9_variable_132 (by decide) ?_
    exact gg_iret (pc := 133) cx hQ h dX9_variable_133
  have h := g_if c1_111 h
  by_cases c1_112 : x0 = 112
  · have h := g_it c1_112 h
    refine gg_swv c1_112 ?_
    refine gg_tableIn (pc := 1) cx (off := 107) (tgt := 108) dX9_variable_1 (by decide) (by decide) rfl (by decide) ?_
    refine gg_iconst (pc := 108) cx (v := 0) dX9_variable_108 (by decide) ?_
    exact gg_iret (pc := 109) cx hQ h dX9_variable_109
  have h := g_if c1_112 h
  by_cases c1_113 : x0 = 113
  · have h := g_it c1_113 h
    refine gg_swv c1_113 ?_
    refine gg_tableIn (pc := 1) cx (off := 131) (tgt := 132) dX9_variable_1 (by decide) (by decide) rfl (by decide) ?_
    refine gg_iconst (pc := 132) cx (v := (-1)) dX9_variable_132 (by decide) ?_
    exact gg_iret (pc := 133) cx hQ h dX9_variable_133
  have h := g_if c1_113 h
  by_cases c1_114 : x0 = 114
  · have h := g_it c1_114 h
    refine gg_swv c1_114 ?_
    refine gg_tableIn (pc := 1) cx (off := 128) (tgt := 129) dX9_variable_1 (by decide) (by decide) rfl (by decide) ?_
    refine gg_bipush (pc := 129) cx (v := 9) dX9_variable_129 (by decide) ?_
    exact gg_iret (pc := 131) cx hQ h dX9_variable_131
  have h := g_if c1_114 h
  by_cases c1_115 : x0 = 115
  · have h := g_it c1_115 h
    refine gg_swv c1_115 ?_
    refine gg_tableIn (pc := 1) cx (off := 131) (tgt := 132) dX9_variable_1 (by decide) (by decide) rfl (by decide) ?_
    refine gg_iconst (pc := 132) cx (v := (-1)) dX9_variable_132 (by decide) ?_
    exact gg_iret (pc := 133) cx hQ h dX9_variable_133
  have h := g_if c1_115 h
  by_cases c1_116 : x0 = 116
  · have h := g_it c1_116 h
    refine gg_swv c1_116 ?_
    refine gg_tableIn (pc := 1) cx (off := 119) (tgt := 120) dX9_variable_1 (by decide) (by decide) rfl (by decide) ?_
    refine gg_bipush (pc := 120) cx (v := 6) dX9_variable_120 (by decide) ?_
    exact gg_iret (pc := 122) cx hQ h dX9_variable_122
  have h := g_if c1_116 h
  by_cases c1_117 : x0 = 117
  · have h := g_it c1_117 h
    refine gg_swv c1_117 ?_
    refine gg_tableIn (pc := 1) cx (off := 131) (tgt := 132) dX9_variable_1 (by decide) (by decide) rfl (by decide) ?_
    refine gg_iconst (pc := 132) cx (v := (-1)) dX9_variable_132 (by decide) ?_
    exact gg_iret (pc := 133) cx hQ h dX9_variable_133
  have h := g_if c1_117 h
  by_cases c1_118 : x0 = 118
  · have h := g_it c1_118 h
    refine gg_swv c1_118 ?_
    refine gg_tableIn (pc := 1) cx (off := 122) (tgt := 123) dX9_variable_1 (by decide) (by decide) rfl (by decide) ?_
    refine gg_bipush (pc := 123) cx (v := 7) dX9_variable_123 (by decide) ?_
    exact gg_iret (pc := 125) cx hQ h dX9_variable_125
  have h := g_if c1_118 h
  by_cases c1_119 : x0 = 119
  · have h := g_it c1_119 h
    refine gg_swv c1_119 ?_
    refine gg_tableIn (pc := 1) cx (off := 115) (tgt := 116) dX9_variable_1 (by decide) (by decide) rfl (by decide) ?_
    refine gg_iconst (pc := 116) cx (v := 4) dX9_variable_116 (by decide) ?_
    exact gg_iret (pc := 117) cx hQ h dX9_variable_117
  have h := g_if c1_119 h
  refine gg_tableOut (pc := 1) cx (tgt := 132) dX9_variable_1 (g_tout_X9_variable c1_97 c1_98 c1_99 c1_100 c1_101 c1_102 c1_103 c1_104 c1_105 c1_106 c1_107 c1_108 c1_109 c1_110 c1_111 c1_112 c1_113 c1_114 c1_115 c1_116 c1_117 c1_118 c1_119) (by decide) ?_
  refine gg_iconst (pc := 132) cx (v := (-1)) dX9_variable_132 (by decide) ?_
  exact gg_iret (pc := 133) cx hQ h dX9_variable_133
set_option maxRecDepth 100000 in
set_option maxHeartbeats 4000000 in
theorem wk_X9_begins_b242 {t : gT} {X : gX} (cx : g_Cx t X cX9_begins 6 RX9 (some .int)) (hM : g_hM t) {K : Int32 → gM → Prop} (hQ : gXQ X = MQ (gXb X) (va_Qi K (g_B t) (g_A t)) (gXa X) (gXs X) rm_X9_begins.cells rm_X9_begins.slots (g_A t)) {o0 : Nat} {x3 : Int32} {M : gM} (v0 : o0 < 1) (h : wp_X9_begins_b242 K o0 x3 M) : G t rm_X9_begins X 6 0 0 M [(0, .ref (gAd t 9 o0)), (3, .int x3)] [] 242 := by
  refine gg_aload_n (pc := 242) cx 0 rfl dX9_begins_242 rfl ?_
  refine gg_ldc2 (pc := 243) cx (v := (-10)) tw_1247 dX9_begins_243 ?_
  refine gg_iload_n (pc := 246) cx 1 rfl dX9_begins_246 rfl ?_
  refine gg_i2l (pc := 247) cx dX9_begins_247 ?_
  refine gg_lsub (pc := 248) cx dX9_begins_248 ?_
  refine gg_callVv (pc := 249) cx cal_X9_emits calv_X9_emits (ct_X9_emits cx.tr hM v0 h) tw_1240 (hM 9 _ rfl v0) rfl rfl rfl (st := []) rfl (Nat.le_of_ble_eq_true rfl) ⟨Nat.le_of_ble_eq_true rfl, Nat.le_of_ble_eq_true rfl⟩ ⟨Nat.le_of_ble_eq_true rfl, Nat.le_of_ble_eq_true rfl⟩ dX9_begins_249 (fun M249 h => ?_)
  refine gg_aload_n (pc := 252) cx 0 rfl dX9_begins_252 rfl ?_
  refine gg_dup (pc := 253) cx dX9_begins_253 rfl ?_
  refine gf_Model_at (pc := 254) cx (hM 9 _ rfl v0) tw_1317 dX9_begins_254 ?_
  refine gg_iconst (pc := 257) cx (v := 1) dX9_begins_257 (by decide) ?_
  refine gg_iadd (pc := 258) cx dX9_begins_258 ?_
  refine gp_Model_at (pc := 259) cx (hM 9 _ rfl v0) tw_1317 dX9_begins_259 ?_
  refine gg_mem (fun M259 eM259 => ?_)
  have h := h M259 eM259
  refine gg_iconst (pc := 262) cx (v := 1) dX9_begins_262 (by decide) ?_
  exact gg_iret (pc := 263) cx hQ h dX9_begins_263
set_option maxRecDepth 100000 in
set_option maxHeartbeats 4000000 in
theorem wk_X9_begins_b164 {t : gT} {X : gX} (cx : g_Cx t X cX9_begins 6 RX9 (some .int)) (hM : g_hM t) {K : Int32 → gM → Prop} (hQ : gXQ X = MQ (gXb X) (va_Qi K (g_B t) (g_A t)) (gXa X) (gXs X) rm_X9_begins.cells rm_X9_begins.slots (g_A t)) {o0 : Nat} {x2 : Int32} {M : gM} (v0 : o0 < 1) (h : wp_X9_begins_b164 K o0 x2 M) : G t rm_X9_begins X 6 0 0 M [(0, .ref (gAd t 9 o0)), (2, .int x2)] [] 164 := by
  refine gg_aload_n (pc := 164) cx 0 rfl dX9_begins_164 rfl ?_
  refine gg_dup (pc := 165) cx dX9_begins_165 rfl ?_
  refine gf_Model_at (pc := 166) cx (hM 9 _ rfl v0) tw_1317 dX9_begins_166 ?_
  refine gg_iconst (pc := 169) cx (v := 1) dX9_begins_169 (by decide) ?_
  refine gg_iadd (pc := 170) cx dX9_begins_170 ?_
  refine gp_Model_at (pc := 171) cx (hM 9 _ rfl v0) tw_1317 dX9_begins_171 ?_
  refine gg_mem (fun M171 eM171 => ?_)
  have h := h M171 eM171
  refine gg_aload_n (pc := 174) cx 0 rfl dX9_begins_174 rfl ?_
  refine gg_aload_n (pc := 175) cx 0 rfl dX9_begins_175 rfl ?_
  refine gf_Model_at (pc := 176) cx (hM 9 _ rfl v0) tw_1317 dX9_begins_176 ?_
  refine gg_callVi (pc := 179) cx cal_X9_letter calv_X9_letter (ct_X9_letter cx.tr hM v0 h) tw_1218 (hM 9 _ rfl v0) rfl rfl rfl (st := []) rfl (Nat.le_of_ble_eq_true rfl) ⟨Nat.le_of_ble_eq_true rfl, Nat.le_of_ble_eq_true rfl⟩ ⟨Nat.le_of_ble_eq_true rfl, Nat.le_of_ble_eq_true rfl⟩ dX9_begins_179 (fun r179 M179 h => ?_)
  refine gg_bipush (pc := 182) cx (v := 40) dX9_begins_182 (by decide) ?_
  refine gg_icmp_eq (pc := 184) cx (tgt := 189) dX9_begins_184 (by decide) (fun c184 => ?_) (fun c184 => ?_)
  · have h := g_it c184 h
    refine gg_aload_n (pc := 189) cx 0 rfl dX9_begins_189 rfl ?_
    refine gf_Model_signs (pc := 190) cx (hM 9 _ rfl v0) tw_1322 dX9_begins_190 ?_
    refine gg_aload_n (pc := 193) cx 0 rfl dX9_begins_193 rfl ?_
    refine gf_Model_signMany (pc := 194) cx (hM 9 _ rfl v0) tw_1323 dX9_begins_194 ?_
    refine gg_iload_n (pc := 197) cx 1 rfl dX9_begins_197 rfl ?_
    have q198 := h.1
    have h := h.2
    refine gg_iast (pc := 198) cx (hM 56 _ rfl v0) (fun _ _ => rfl) q198 dX9_begins_198 ?_
    refine gg_mem (fun M198 eM198 => ?_)
    have h := h M198 eM198
    refine gg_aload_n (pc := 199) cx 0 rfl dX9_begins_199 rfl ?_
    refine gg_dup (pc := 200) cx dX9_begins_200 rfl ?_
    refine gf_Model_signMany (pc := 201) cx (hM 9 _ rfl v0) tw_1323 dX9_begins_201 ?_
    refine gg_iconst (pc := 204) cx (v := 1) dX9_begins_204 (by decide) ?_
    refine gg_iadd (pc := 205) cx dX9_begins_205 ?_
    refine gp_Model_signMany (pc := 206) cx (hM 9 _ rfl v0) tw_1323 dX9_begins_206 ?_
    refine gg_mem (fun M206 eM206 => ?_)
    have h := h M206 eM206
    refine gg_aload_n (pc := 209) cx 0 rfl dX9_begins_209 rfl ?_
    refine gg_dup (pc := 210) cx dX9_begins_210 rfl ?_
    refine gf_Model_at (pc := 211) cx (hM 9 _ rfl v0) tw_1317 dX9_begins_211 ?_
    refine gg_iconst (pc := 214) cx (v := 1) dX9_begins_214 (by decide) ?_
    refine gg_iadd (pc := 215) cx dX9_begins_215 ?_
    refine gp_Model_at (pc := 216) cx (hM 9 _ rfl v0) tw_1317 dX9_begins_216 ?_
    refine gg_mem (fun M216 eM216 => ?_)
    have h := h M216 eM216
    refine gg_iconst (pc := 219) cx (v := 0) dX9_begins_219 (by decide) ?_
    exact gg_iret (pc := 220) cx hQ h dX9_begins_220
  · have h := g_if c184 h
    refine gg_iconst (pc := 187) cx (v := (-1)) dX9_begins_187 (by decide) ?_
    exact gg_iret (pc := 188) cx hQ h dX9_begins_188
set_option maxRecDepth 100000 in
set_option maxHeartbeats 4000000 in
theorem wk_X9_begins_b129 {t : gT} {X : gX} (cx : g_Cx t X cX9_begins 6 RX9 (some .int)) (hM : g_hM t) {K : Int32 → gM → Prop} (hQ : gXQ X = MQ (gXb X) (va_Qi K (g_B t) (g_A t)) (gXa X) (gXs X) rm_X9_begins.cells rm_X9_begins.slots (g_A t)) {o0 : Nat} {os0 : Nat} {xs1 : Int32} {xs2 : Int32} {M : gM} (v0 : o0 < 1) (vs0 : os0 < 1) (h : wp_X9_begins_b129 K o0 os0 xs1 xs2 M) : G t rm_X9_begins X 6 0 0 M [(0, .ref (gAd t 9 o0))] [.int xs2, .int xs1, .ref (gAd t 56 os0)] 129 := by
  have q129 := h.1
  have h := h.2
  refine gg_iast (pc := 129) cx (hM 56 _ rfl vs0) (fun _ _ => rfl) q129 dX9_begins_129 ?_
  refine gg_mem (fun M129 eM129 => ?_)
  have h := h M129 eM129
  refine gg_aload_n (pc := 130) cx 0 rfl dX9_begins_130 rfl ?_
  refine gg_dup (pc := 131) cx dX9_begins_131 rfl ?_
  refine gf_Model_signMany (pc := 132) cx (hM 9 _ rfl v0) tw_1323 dX9_begins_132 ?_
  refine gg_iconst (pc := 135) cx (v := 1) dX9_begins_135 (by decide) ?_
  refine gg_iadd (pc := 136) cx dX9_begins_136 ?_
  refine gp_Model_signMany (pc := 137) cx (hM 9 _ rfl v0) tw_1323 dX9_begins_137 ?_
  refine gg_mem (fun M137 eM137 => ?_)
  have h := h M137 eM137
  refine gg_aload_n (pc := 140) cx 0 rfl dX9_begins_140 rfl ?_
  refine gg_dup (pc := 141) cx dX9_begins_141 rfl ?_
  refine gf_Model_at (pc := 142) cx (hM 9 _ rfl v0) tw_1317 dX9_begins_142 ?_
  refine gg_iconst (pc := 145) cx (v := 1) dX9_begins_145 (by decide) ?_
  refine gg_iadd (pc := 146) cx dX9_begins_146 ?_
  refine gp_Model_at (pc := 147) cx (hM 9 _ rfl v0) tw_1317 dX9_begins_147 ?_
  refine gg_mem (fun M147 eM147 => ?_)
  have h := h M147 eM147
  refine gg_iconst (pc := 150) cx (v := 0) dX9_begins_150 (by decide) ?_
  exact gg_iret (pc := 151) cx hQ h dX9_begins_151
set_option maxRecDepth 100000 in
set_option maxHeartbeats 4000000 in
theorem wk_X9_begins_b108 {t : gT} {X : gX} (cx : g_Cx t X cX9_begins 6 RX9 (some .int)) (hM : g_hM t) {K : Int32 → gM → Prop} (hQ : gXQ X = MQ (gXb X) (va_Qi K (g_B t) (g_A t)) (gXa X) (gXs X) rm_X9_begins.cells rm_X9_begins.slots (g_A t)) {o0 : Nat} {x2 : Int32} {M : gM} (v0 : o0 < 1) (h : wp_X9_begins_b108 K o0 x2 M) : G t rm_X9_begins X 6 0 0 M [(0, .ref (gAd t 9 o0)), (2, .int x2)] [] 108 := by
  refine gg_aload_n (pc := 108) cx 0 rfl dX9_begins_108 rfl ?_
  refine gf_Model_signs (pc := 109) cx (hM 9 _ rfl v0) tw_1322 dX9_begins_109 ?_
  refine gg_aload_n (pc := 112) cx 0 rfl dX9_begins_112 rfl ?_
  refine gf_Model_signMany (pc := 113) cx (hM 9 _ rfl v0) tw_1323 dX9_begins_113 ?_
  refine gg_iload_n (pc := 116) cx 1 rfl dX9_begins_116 rfl ?_
  refine gg_bipush (pc := 117) cx (v := 45) dX9_begins_117 (by decide) ?_
  refine gg_icmp_ne (pc := 119) cx (tgt := 127) dX9_begins_119 (by decide) (fun c119 => ?_) (fun c119 => ?_)
  · have h := g_if c119 h
    refine gg_bipush (pc := 127) cx (v := 40) dX9_begins_127 (by decide) ?_
    refine gg_lv (lv' := [(0, .ref (gAd t 9 o0))]) [0] rfl ?_
    exact wk_X9_begins_b129 cx hM hQ v0 v0 h
  · have h := g_it c119 h
    refine gg_bipush (pc := 122) cx (v := 117) dX9_begins_122 (by decide) ?_
    refine gg_goto (pc := 124) cx (tgt := 129) dX9_begins_124 (by decide) ?_
    refine gg_lv (lv' := [(0, .ref (gAd t 9 o0))]) [0] rfl ?_
    exact wk_X9_begins_b129 cx hM hQ v0 v0 h
set_option maxRecDepth 100000 in
set_option maxHeartbeats 4000000 in
theorem wk_X9_begins_L28 {t : gT} {X : gX} (cx : g_Cx t X cX9_begins 6 RX9 (some .int)) (hM : g_hM t) {K : Int32 → gM → Prop} (hQ : gXQ X = MQ (gXb X) (va_Qi K (g_B t) (g_A t)) (gXa X) (gXs X) rm_X9_begins.cells rm_X9_begins.slots (g_A t)) (f : Nat) : ∀ (o0 : Nat) (x3 : Int32) (y4 : Int64) (M : gM), o0 < 1 → wp_X9_begins_L28 K f o0 x3 y4 M → G t rm_X9_begins X 6 0 0 M [(0, .ref (gAd t 9 o0)), (3, .int x3), (4, .long y4)] [] 28 := by
  induction f with
  | zero => intro _ _ _ _ _ _; exact False.elim (by assumption)
  | succ f ih =>
    intro o0 x3 y4 M v0 h
    refine gg_aload_n (pc := 28) cx 0 rfl dX9_begins_28 rfl ?_
    refine gg_aload_n (pc := 29) cx 0 rfl dX9_begins_29 rfl ?_
    refine gf_Model_at (pc := 30) cx (hM 9 _ rfl v0) tw_1317 dX9_begins_30 ?_
    refine gg_callVi (pc := 33) cx cal_X9_isDigit calv_X9_isDigit (ct_X9_isDigit cx.tr hM v0 h) tw_1214 (hM 9 _ rfl v0) rfl rfl rfl (st := []) rfl (Nat.le_of_ble_eq_true rfl) ⟨Nat.le_of_ble_eq_true rfl, Nat.le_of_ble_eq_true rfl⟩ ⟨Nat.le_of_ble_eq_true rfl, Nat.le_of_ble_eq_true rfl⟩ dX9_begins_33 (fun r33 M33 h => ?_)
    refine gg_if_eq (pc := 36) cx (tgt := 88) dX9_begins_36 (by decide) (fun c36 => ?_) (fun c36 => ?_)
    · have h := g_it c36 h
      refine gg_aload_n (pc := 88) cx 0 rfl dX9_begins_88 rfl ?_
      refine gg_lload (pc := 89) cx 2 rfl dX9_begins_89 ?_
      refine gg_callVv (pc := 91) cx cal_X9_emits calv_X9_emits (ct_X9_emits cx.tr hM v0 h) tw_1240 (hM 9 _ rfl v0) rfl rfl rfl (st := []) rfl (Nat.le_of_ble_eq_true rfl) ⟨Nat.le_of_ble_eq_true rfl, Nat.le_of_ble_eq_true rfl⟩ ⟨Nat.le_of_ble_eq_true rfl, Nat.le_of_ble_eq_true rfl⟩ dX9_begins_91 (fun M91 h => ?_)
      refine gg_iconst (pc := 94) cx (v := 1) dX9_begins_94 (by decide) ?_
      exact gg_iret (pc := 95) cx hQ h dX9_begins_95
    · have h := g_if c36 h
      refine gg_aload_n (pc := 39) cx 0 rfl dX9_begins_39 rfl ?_
      refine gf_Model_at (pc := 40) cx (hM 9 _ rfl v0) tw_1317 dX9_begins_40 ?_
      refine gg_iload_n (pc := 43) cx 1 rfl dX9_begins_43 rfl ?_
      refine gg_isub (pc := 44) cx dX9_begins_44 ?_
      refine gg_bipush (pc := 45) cx (v := 6) dX9_begins_45 (by decide) ?_
      refine gg_icmp_ne (pc := 47) cx (tgt := 52) dX9_begins_47 (by decide) (fun c47 => ?_) (fun c47 => ?_)
      · have h := g_if c47 h
        refine gg_ldc2 (pc := 52) cx (v := 10) tw_1239 dX9_begins_52 ?_
        refine gg_lload (pc := 55) cx 2 rfl dX9_begins_55 ?_
        refine gg_lmul (pc := 57) cx dX9_begins_57 ?_
        refine gg_aload_n (pc := 58) cx 0 rfl dX9_begins_58 rfl ?_
        refine gf_Model_source (pc := 59) cx (hM 9 _ rfl v0) tw_1315 dX9_begins_59 ?_
        refine gg_aload_n (pc := 62) cx 0 rfl dX9_begins_62 rfl ?_
        refine gf_Model_at (pc := 63) cx (hM 9 _ rfl v0) tw_1317 dX9_begins_63 ?_
        have q66 := h.1
        have h := h.2
        refine gg_iald (pc := 66) cx (hM 53 _ rfl v0) rfl q66 dX9_begins_66 ?_
        refine gg_i2l (pc := 67) cx dX9_begins_67 ?_
        refine gg_ladd (pc := 68) cx dX9_begins_68 ?_
        refine gg_ldc2 (pc := 69) cx (v := 48) tw_1222 dX9_begins_69 ?_
        refine gg_lsub (pc := 72) cx dX9_begins_72 ?_
        refine gg_topl (fun n73 en73 => ?_)
        have h := h n73 en73
        refine gg_lstore (pc := 73) cx [(4, .long n73), (0, .ref (gAd t 9 o0)), (3, .int x3)] dX9_begins_73 (by decide) rfl ?_
        refine gg_aload_n (pc := 75) cx 1 rfl dX9_begins_75 rfl ?_
        refine gg_dup (pc := 76) cx dX9_begins_76 rfl ?_
        refine gf_Model_at (pc := 77) cx (hM 9 _ rfl v0) tw_1317 dX9_begins_77 ?_
        refine gg_iconst (pc := 80) cx (v := 1) dX9_begins_80 (by decide) ?_
        refine gg_iadd (pc := 81) cx dX9_begins_81 ?_
        refine gp_Model_at (pc := 82) cx (hM 9 _ rfl v0) tw_1317 dX9_begins_82 ?_
        refine gg_mem (fun M82 eM82 => ?_)
        have h := h M82 eM82
        refine gg_goto (pc := 85) cx (tgt := 28) dX9_begins_85 (by decide) ?_
        refine gg_lv (lv' := [(0, .ref (gAd t 9 o0)), (3, .int x3), (4, .long n73)]) [1, 2, 0] rfl ?_
        exact ih o0 x3 n73 M82 v0 h
      · have h := g_it c47 h
        refine gg_iconst (pc := 50) cx (v := (-1)) dX9_begins_50 (by decide) ?_
        exact gg_iret (pc := 51) cx hQ h dX9_begins_51
theorem cal_X9_begins : g_Cal yX9_begins cX9_begins 6 (some .int) 1 := ⟨tw_17, tw_1238, by decide, by decide, by decide +kernel⟩
theorem calv_X9_begins : g_CalV yX9_begins := ⟨tw_1237, ts_34⟩
set_option maxRecDepth 100000 in
set_option maxHeartbeats 4000000 in
theorem ct_X9_begins {l : Launch} (hl : l.stackTraces = false) {t : gT} (hM : g_hM t) {o0 : Nat} {x1 : Int32} (v0 : o0 < 1) {M : gM} {K : Int32 → gM → Prop} (h : wp_X9_begins o0 x1 M K) : Met l yX9_begins (g_y yX9_begins cX9_begins 6 (some .int)) rm_X9_begins (va_Pc [.ref (gAd t 9 o0), .int x1] (g_Pre t M)) (va_Qi K (g_B t) (g_A t)) rm_X9_begins.cells rm_X9_begins.slots (g_A t) := by
  refine g_met hl rfl (Nat.le_of_ble_eq_true rfl) (fun X hlX cx hQ => ?_)
  subst hlX
  refine gg_aload_n (pc := 0) cx 0 rfl dX9_begins_0 rfl ?_
  refine gg_aload_n (pc := 1) cx 0 rfl dX9_begins_1 rfl ?_
  refine gf_Model_at (pc := 2) cx (hM 9 _ rfl v0) tw_1317 dX9_begins_2 ?_
  refine gg_callVi (pc := 5) cx cal_X9_letter calv_X9_letter (ct_X9_letter cx.tr hM v0 h) tw_1218 (hM 9 _ rfl v0) rfl rfl rfl (st := []) rfl (Nat.le_of_ble_eq_true rfl) ⟨Nat.le_of_ble_eq_true rfl, Nat.le_of_ble_eq_true rfl⟩ ⟨Nat.le_of_ble_eq_true rfl, Nat.le_of_ble_eq_true rfl⟩ dX9_begins_5 (fun r5 M5 h => ?_)
  refine gg_istore_n (pc := 8) cx [(2, .int r5), (0, .ref (gAd t 9 o0)), (1, .int x1)] dX9_begins_8 rfl (by decide) rfl ?_
  refine gg_aload_n (pc := 9) cx 1 rfl dX9_begins_9 rfl ?_
  refine gg_aload_n (pc := 10) cx 1 rfl dX9_begins_10 rfl ?_
  refine gf_Model_at (pc := 11) cx (hM 9 _ rfl v0) tw_1317 dX9_begins_11 ?_
  refine gg_callVi (pc := 14) cx cal_X9_isDigit calv_X9_isDigit (ct_X9_isDigit cx.tr hM v0 h) tw_1214 (hM 9 _ rfl v0) rfl rfl rfl (st := []) rfl (Nat.le_of_ble_eq_true rfl) ⟨Nat.le_of_ble_eq_true rfl, Nat.le_of_ble_eq_true rfl⟩ ⟨Nat.le_of_ble_eq_true rfl, Nat.le_of_ble_eq_true rfl⟩ dX9_begins_14 (fun r14 M14 h => ?_)
  refine gg_if_eq (pc := 17) cx (tgt := 96) dX9_begins_17 (by decide) (fun c17 => ?_) (fun c17 => ?_)
  · have h := g_it c17 h
    refine gg_iload_n (pc := 96) cx 0 rfl dX9_begins_96 rfl ?_
    refine gg_bipush (pc := 97) cx (v := 45) dX9_begins_97 (by decide) ?_
    refine gg_icmp_eq (pc := 99) cx (tgt := 108) dX9_begins_99 (by decide) (fun c99 => ?_) (fun c99 => ?_)
    · have h := g_it c99 h
      refine gg_lv (lv' := [(0, .ref (gAd t 9 o0)), (2, .int r5)]) [1, 0] rfl ?_
      exact wk_X9_begins_b108 cx hM hQ v0 h
    · have h := g_if c99 h
      refine gg_iload_n (pc := 102) cx 0 rfl dX9_begins_102 rfl ?_
      refine gg_bipush (pc := 103) cx (v := 40) dX9_begins_103 (by decide) ?_
      refine gg_icmp_ne (pc := 105) cx (tgt := 152) dX9_begins_105 (by decide) (fun c105 => ?_) (fun c105 => ?_)
      · have h := g_if c105 h
        refine gg_iload_n (pc := 152) cx 0 rfl dX9_begins_152 rfl ?_
        refine gg_bipush (pc := 153) cx (v := 77) dX9_begins_153 (by decide) ?_
        refine gg_icmp_eq (pc := 155) cx (tgt := 164) dX9_begins_155 (by decide) (fun c155 => ?_) (fun c155 => ?_)
        · have h := g_it c155 h
          refine gg_lv (lv' := [(0, .ref (gAd t 9 o0)), (2, .int r5)]) [1, 0] rfl ?_
          exact wk_X9_begins_b164 cx hM hQ v0 h
        · have h := g_if c155 h
          refine gg_iload_n (pc := 158) cx 0 rfl dX9_begins_158 rfl ?_
          refine gg_bipush (pc := 159) cx (v := 109) dX9_begins_159 (by decide) ?_
          refine gg_icmp_ne (pc := 161) cx (tgt := 221) dX9_begins_161 (by decide) (fun c161 => ?_) (fun c161 => ?_)
          · have h := g_if c161 h
            refine gg_iload_n (pc := 221) cx 0 rfl dX9_begins_221 rfl ?_
            refine gg_callSi (pc := 222) cx cal_X9_variable tw_1245 (ct_X9_variable cx.tr hM  h) tw_1244 rfl (st := []) rfl (Nat.le_of_ble_eq_true rfl) ⟨Nat.le_of_ble_eq_true rfl, Nat.le_of_ble_eq_true rfl⟩ ⟨Nat.le_of_ble_eq_true rfl, Nat.le_of_ble_eq_true rfl⟩ dX9_begins_222 (fun r222 M222 h => ?_)
            refine gg_istore_n (pc := 225) cx [(3, .int r222), (2, .int r5), (0, .ref (gAd t 9 o0)), (1, .int x1)] dX9_begins_225 rfl (by decide) rfl ?_
            refine gg_iload_n (pc := 226) cx 0 rfl dX9_begins_226 rfl ?_
            refine gg_if_lt (pc := 227) cx (tgt := 240) dX9_begins_227 (by decide) (fun c227 => ?_) (fun c227 => ?_)
            · have h := g_it c227 h
              refine gg_iconst (pc := 240) cx (v := (-1)) dX9_begins_240 (by decide) ?_
              exact gg_iret (pc := 241) cx hQ h dX9_begins_241
            · have h := g_if c227 h
              refine gg_iload_n (pc := 230) cx 0 rfl dX9_begins_230 rfl ?_
              refine gg_bipush (pc := 231) cx (v := 9) dX9_begins_231 (by decide) ?_
              refine gg_icmp_ne (pc := 233) cx (tgt := 242) dX9_begins_233 (by decide) (fun c233 => ?_) (fun c233 => ?_)
              · have h := g_if c233 h
                refine gg_lv (lv' := [(0, .ref (gAd t 9 o0)), (3, .int r222)]) [2, 0] rfl ?_
                exact wk_X9_begins_b242 cx hM hQ v0 h
              · have h := g_it c233 h
                refine gg_iload_n (pc := 236) cx 3 rfl dX9_begins_236 rfl ?_
                refine gg_if_ne (pc := 237) cx (tgt := 242) dX9_begins_237 (by decide) (fun c237 => ?_) (fun c237 => ?_)
                · have h := g_if c237 h
                  refine gg_lv (lv' := [(0, .ref (gAd t 9 o0)), (3, .int r222)]) [2, 0] rfl ?_
                  exact wk_X9_begins_b242 cx hM hQ v0 h
                · have h := g_it c237 h
                  refine gg_iconst (pc := 240) cx (v := (-1)) dX9_begins_240 (by decide) ?_
                  exact gg_iret (pc := 241) cx hQ h dX9_begins_241
          · have h := g_it c161 h
            refine gg_lv (lv' := [(0, .ref (gAd t 9 o0)), (2, .int r5)]) [1, 0] rfl ?_
            exact wk_X9_begins_b164 cx hM hQ v0 h
      · have h := g_it c105 h
        refine gg_lv (lv' := [(0, .ref (gAd t 9 o0)), (2, .int r5)]) [1, 0] rfl ?_
        exact wk_X9_begins_b108 cx hM hQ v0 h
  · have h := g_if c17 h
    refine gg_aload_n (pc := 20) cx 1 rfl dX9_begins_20 rfl ?_
    refine gf_Model_at (pc := 21) cx (hM 9 _ rfl v0) tw_1317 dX9_begins_21 ?_
    refine gg_topi (fun n24 en24 => ?_)
    have h := h n24 en24
    refine gg_istore_n (pc := 24) cx [(3, .int n24), (2, .int r5), (0, .ref (gAd t 9 o0)), (1, .int x1)] dX9_begins_24 rfl (by decide) rfl ?_
    refine gg_lconst (pc := 25) cx (v := 0) dX9_begins_25 (by decide) ?_
    refine gg_lstore (pc := 26) cx [(4, .long 0), (3, .int n24), (2, .int r5), (0, .ref (gAd t 9 o0)), (1, .int x1)] dX9_begins_26 (by decide) rfl ?_
    refine gg_lv (lv' := [(0, .ref (gAd t 9 o0)), (3, .int n24), (4, .long 0)]) [3, 1, 0] rfl ?_
    obtain ⟨f28, h⟩ := h
    exact wk_X9_begins_L28 cx hM hQ f28 o0 n24 0 M14 v0 h
set_option maxRecDepth 100000 in
set_option maxHeartbeats 4000000 in
theorem wk_X9_goesOn_b190 {t : gT} {X : gX} (cx : g_Cx t X cX9_goesOn 3 RX9 (some .int)) (hM : g_hM t) {K : Int32 → gM → Prop} (hQ : gXQ X = MQ (gXb X) (va_Qi K (g_B t) (g_A t)) (gXa X) (gXs X) rm_X9_goesOn.cells rm_X9_goesOn.slots (g_A t)) {o0 : Nat} {M : gM} (v0 : o0 < 1) (h : wp_X9_goesOn_b190 K o0 M) : G t rm_X9_goesOn X 3 0 0 M [(0, .ref (gAd t 9 o0))] [] 190 := by
  refine gg_aload_n (pc := 190) cx 0 rfl dX9_goesOn_190 rfl ?_
  refine gg_dup (pc := 191) cx dX9_goesOn_191 rfl ?_
  refine gf_Model_at (pc := 192) cx (hM 9 _ rfl v0) tw_1317 dX9_goesOn_192 ?_
  refine gg_iconst (pc := 195) cx (v := 1) dX9_goesOn_195 (by decide) ?_
  refine gg_iadd (pc := 196) cx dX9_goesOn_196 ?_
  refine gp_Model_at (pc := 197) cx (hM 9 _ rfl v0) tw_1317 dX9_goesOn_197 ?_
  refine gg_mem (fun M197 eM197 => ?_)
  have h := h M197 eM197
  refine gg_iconst (pc := 200) cx (v := 2) dX9_goesOn_200 (by decide) ?_
  exact gg_iret (pc := 201) cx hQ h dX9_goesOn_201
set_option maxRecDepth 100000 in
set_option maxHeartbeats 4000000 in
theorem wk_X9_goesOn_b143 {t : gT} {X : gX} (cx : g_Cx t X cX9_goesOn 3 RX9 (some .int)) (hM : g_hM t) {K : Int32 → gM → Prop} (hQ : gXQ X = MQ (gXb X) (va_Qi K (g_B t) (g_A t)) (gXa X) (gXs X) rm_X9_goesOn.cells rm_X9_goesOn.slots (g_A t)) {o0 : Nat} {x1 : Int32} {x2 : Int32} {M : gM} (v0 : o0 < 1) (h : wp_X9_goesOn_b143 K o0 x1 x2 M) : G t rm_X9_goesOn X 3 0 0 M [(0, .ref (gAd t 9 o0)), (1, .int x1), (2, .int x2)] [] 143 := by
  refine gg_iload_n (pc := 143) cx 1 rfl dX9_goesOn_143 rfl ?_
  refine gg_bipush (pc := 144) cx (v := 41) dX9_goesOn_144 (by decide) ?_
  refine gg_icmp_ne (pc := 146) cx (tgt := 202) dX9_goesOn_146 (by decide) (fun c146 => ?_) (fun c146 => ?_)
  · have h := g_if c146 h
    refine gg_iconst (pc := 202) cx (v := (-1)) dX9_goesOn_202 (by decide) ?_
    exact gg_iret (pc := 203) cx hQ h dX9_goesOn_203
  · have h := g_it c146 h
    refine gg_iload_n (pc := 149) cx 2 rfl dX9_goesOn_149 rfl ?_
    refine gg_bipush (pc := 150) cx (v := 77) dX9_goesOn_150 (by decide) ?_
    refine gg_icmp_eq (pc := 152) cx (tgt := 202) dX9_goesOn_152 (by decide) (fun c152 => ?_) (fun c152 => ?_)
    · have h := g_it c152 h
      refine gg_iconst (pc := 202) cx (v := (-1)) dX9_goesOn_202 (by decide) ?_
      exact gg_iret (pc := 203) cx hQ h dX9_goesOn_203
    · have h := g_if c152 h
      refine gg_iload_n (pc := 155) cx 2 rfl dX9_goesOn_155 rfl ?_
      refine gg_bipush (pc := 156) cx (v := 109) dX9_goesOn_156 (by decide) ?_
      refine gg_icmp_eq (pc := 158) cx (tgt := 202) dX9_goesOn_158 (by decide) (fun c158 => ?_) (fun c158 => ?_)
      · have h := g_it c158 h
        refine gg_iconst (pc := 202) cx (v := (-1)) dX9_goesOn_202 (by decide) ?_
        exact gg_iret (pc := 203) cx hQ h dX9_goesOn_203
      · have h := g_if c158 h
        refine gg_aload_n (pc := 161) cx 0 rfl dX9_goesOn_161 rfl ?_
        refine gg_iconst (pc := 162) cx (v := 1) dX9_goesOn_162 (by decide) ?_
        refine gg_callVv (pc := 163) cx cal_X9_settles calv_X9_settles (ct_X9_settles cx.tr hM v0 h) tw_1262 (hM 9 _ rfl v0) rfl rfl rfl (st := []) rfl (Nat.le_of_ble_eq_true rfl) ⟨Nat.le_of_ble_eq_true rfl, Nat.le_of_ble_eq_true rfl⟩ ⟨Nat.le_of_ble_eq_true rfl, Nat.le_of_ble_eq_true rfl⟩ dX9_goesOn_163 (fun M163 h => ?_)
        refine gg_aload_n (pc := 166) cx 0 rfl dX9_goesOn_166 rfl ?_
        refine gg_dup (pc := 167) cx dX9_goesOn_167 rfl ?_
        refine gf_Model_signMany (pc := 168) cx (hM 9 _ rfl v0) tw_1323 dX9_goesOn_168 ?_
        refine gg_iconst (pc := 171) cx (v := 1) dX9_goesOn_171 (by decide) ?_
        refine gg_isub (pc := 172) cx dX9_goesOn_172 ?_
        refine gp_Model_signMany (pc := 173) cx (hM 9 _ rfl v0) tw_1323 dX9_goesOn_173 ?_
        refine gg_mem (fun M173 eM173 => ?_)
        have h := h M173 eM173
        refine gg_iload_n (pc := 176) cx 2 rfl dX9_goesOn_176 rfl ?_
        refine gg_bipush (pc := 177) cx (v := 40) dX9_goesOn_177 (by decide) ?_
        refine gg_icmp_eq (pc := 179) cx (tgt := 190) dX9_goesOn_179 (by decide) (fun c179 => ?_) (fun c179 => ?_)
        · have h := g_it c179 h
          refine gg_lv (lv' := [(0, .ref (gAd t 9 o0))]) [0] rfl ?_
          exact wk_X9_goesOn_b190 cx hM hQ v0 h
        · have h := g_if c179 h
          refine gg_aload_n (pc := 182) cx 0 rfl dX9_goesOn_182 rfl ?_
          refine gg_iload_n (pc := 183) cx 2 rfl dX9_goesOn_183 rfl ?_
          refine gg_callSl (pc := 184) cx cal_X9_stepOf tw_1271 (ct_X9_stepOf cx.tr hM  h) tw_1270 rfl (st := [.ref (gAd t 9 o0)]) rfl (Nat.le_of_ble_eq_true rfl) ⟨Nat.le_of_ble_eq_true rfl, Nat.le_of_ble_eq_true rfl⟩ ⟨Nat.le_of_ble_eq_true rfl, Nat.le_of_ble_eq_true rfl⟩ dX9_goesOn_184 (fun r184 M184 h => ?_)
          refine gg_callVv (pc := 187) cx cal_X9_emits calv_X9_emits (ct_X9_emits cx.tr hM v0 h) tw_1240 (hM 9 _ rfl v0) rfl rfl rfl (st := []) rfl (Nat.le_of_ble_eq_true rfl) ⟨Nat.le_of_ble_eq_true rfl, Nat.le_of_ble_eq_true rfl⟩ ⟨Nat.le_of_ble_eq_true rfl, Nat.le_of_ble_eq_true rfl⟩ dX9_goesOn_187 (fun M187 h => ?_)
          refine gg_lv (lv' := [(0, .ref (gAd t 9 o0))]) [0] rfl ?_
          exact wk_X9_goesOn_b190 cx hM hQ v0 h
set_option maxRecDepth 100000 in
set_option maxHeartbeats 4000000 in
theorem wk_X9_goesOn_b130 {t : gT} {X : gX} (cx : g_Cx t X cX9_goesOn 3 RX9 (some .int)) (hM : g_hM t) {K : Int32 → gM → Prop} (hQ : gXQ X = MQ (gXb X) (va_Qi K (g_B t) (g_A t)) (gXa X) (gXs X) rm_X9_goesOn.cells rm_X9_goesOn.slots (g_A t)) {o0 : Nat} {os0 : Nat} {xs1 : Int32} {xs2 : Int32} {M : gM} (v0 : o0 < 1) (vs0 : os0 < 1) (h : wp_X9_goesOn_b130 K o0 os0 xs1 xs2 M) : G t rm_X9_goesOn X 3 0 0 M [(0, .ref (gAd t 9 o0))] [.int xs2, .int xs1, .ref (gAd t 56 os0)] 130 := by
  have q130 := h.1
  have h := h.2
  refine gg_iast (pc := 130) cx (hM 56 _ rfl vs0) (fun _ _ => rfl) q130 dX9_goesOn_130 ?_
  refine gg_mem (fun M130 eM130 => ?_)
  have h := h M130 eM130
  refine gg_aload_n (pc := 131) cx 0 rfl dX9_goesOn_131 rfl ?_
  refine gg_dup (pc := 132) cx dX9_goesOn_132 rfl ?_
  refine gf_Model_at (pc := 133) cx (hM 9 _ rfl v0) tw_1317 dX9_goesOn_133 ?_
  refine gg_iconst (pc := 136) cx (v := 1) dX9_goesOn_136 (by decide) ?_
  refine gg_iadd (pc := 137) cx dX9_goesOn_137 ?_
  refine gp_Model_at (pc := 138) cx (hM 9 _ rfl v0) tw_1317 dX9_goesOn_138 ?_
  refine gg_mem (fun M138 eM138 => ?_)
  have h := h M138 eM138
  refine gg_iconst (pc := 141) cx (v := 1) dX9_goesOn_141 (by decide) ?_
  exact gg_iret (pc := 142) cx hQ h dX9_goesOn_142
set_option maxRecDepth 100000 in
set_option maxHeartbeats 4000000 in
theorem wk_X9_goesOn_b102 {t : gT} {X : gX} (cx : g_Cx t X cX9_goesOn 3 RX9 (some .int)) (hM : g_hM t) {K : Int32 → gM → Prop} (hQ : gXQ X = MQ (gXb X) (va_Qi K (g_B t) (g_A t)) (gXa X) (gXs X) rm_X9_goesOn.cells rm_X9_goesOn.slots (g_A t)) {o0 : Nat} {x2 : Int32} {M : gM} (v0 : o0 < 1) (h : wp_X9_goesOn_b102 K o0 x2 M) : G t rm_X9_goesOn X 3 0 0 M [(0, .ref (gAd t 9 o0)), (2, .int x2)] [] 102 := by
  refine gg_aload_n (pc := 102) cx 0 rfl dX9_goesOn_102 rfl ?_
  refine gg_iconst (pc := 103) cx (v := 1) dX9_goesOn_103 (by decide) ?_
  refine gg_callVv (pc := 104) cx cal_X9_settles calv_X9_settles (ct_X9_settles cx.tr hM v0 h) tw_1262 (hM 9 _ rfl v0) rfl rfl rfl (st := []) rfl (Nat.le_of_ble_eq_true rfl) ⟨Nat.le_of_ble_eq_true rfl, Nat.le_of_ble_eq_true rfl⟩ ⟨Nat.le_of_ble_eq_true rfl, Nat.le_of_ble_eq_true rfl⟩ dX9_goesOn_104 (fun M104 h => ?_)
  refine gg_aload_n (pc := 107) cx 0 rfl dX9_goesOn_107 rfl ?_
  refine gf_Model_signs (pc := 108) cx (hM 9 _ rfl v0) tw_1322 dX9_goesOn_108 ?_
  refine gg_aload_n (pc := 111) cx 0 rfl dX9_goesOn_111 rfl ?_
  refine gf_Model_signMany (pc := 112) cx (hM 9 _ rfl v0) tw_1323 dX9_goesOn_112 ?_
  refine gg_iconst (pc := 115) cx (v := 1) dX9_goesOn_115 (by decide) ?_
  refine gg_isub (pc := 116) cx dX9_goesOn_116 ?_
  refine gg_iload_n (pc := 117) cx 1 rfl dX9_goesOn_117 rfl ?_
  refine gg_bipush (pc := 118) cx (v := 77) dX9_goesOn_118 (by decide) ?_
  refine gg_icmp_ne (pc := 120) cx (tgt := 128) dX9_goesOn_120 (by decide) (fun c120 => ?_) (fun c120 => ?_)
  · have h := g_if c120 h
    refine gg_bipush (pc := 128) cx (v := 120) dX9_goesOn_128 (by decide) ?_
    refine gg_lv (lv' := [(0, .ref (gAd t 9 o0))]) [0] rfl ?_
    exact wk_X9_goesOn_b130 cx hM hQ v0 v0 h
  · have h := g_it c120 h
    refine gg_bipush (pc := 123) cx (v := 88) dX9_goesOn_123 (by decide) ?_
    refine gg_goto (pc := 125) cx (tgt := 130) dX9_goesOn_125 (by decide) ?_
    refine gg_lv (lv' := [(0, .ref (gAd t 9 o0))]) [0] rfl ?_
    exact wk_X9_goesOn_b130 cx hM hQ v0 v0 h
set_option maxRecDepth 100000 in
set_option maxHeartbeats 4000000 in
theorem wk_X9_goesOn_b38 {t : gT} {X : gX} (cx : g_Cx t X cX9_goesOn 3 RX9 (some .int)) (hM : g_hM t) {K : Int32 → gM → Prop} (hQ : gXQ X = MQ (gXb X) (va_Qi K (g_B t) (g_A t)) (gXa X) (gXs X) rm_X9_goesOn.cells rm_X9_goesOn.slots (g_A t)) {o0 : Nat} {x1 : Int32} {M : gM} (v0 : o0 < 1) (h : wp_X9_goesOn_b38 K o0 x1 M) : G t rm_X9_goesOn X 3 0 0 M [(0, .ref (gAd t 9 o0)), (1, .int x1)] [] 38 := by
  refine gg_aload_n (pc := 38) cx 0 rfl dX9_goesOn_38 rfl ?_
  refine gg_iload_n (pc := 39) cx 1 rfl dX9_goesOn_39 rfl ?_
  refine gg_callSi (pc := 40) cx cal_X9_strength tw_1260 (ct_X9_strength cx.tr hM  h) tw_1259 rfl (st := [.ref (gAd t 9 o0)]) rfl (Nat.le_of_ble_eq_true rfl) ⟨Nat.le_of_ble_eq_true rfl, Nat.le_of_ble_eq_true rfl⟩ ⟨Nat.le_of_ble_eq_true rfl, Nat.le_of_ble_eq_true rfl⟩ dX9_goesOn_40 (fun r40 M40 h => ?_)
  refine gg_callVv (pc := 43) cx cal_X9_settles calv_X9_settles (ct_X9_settles cx.tr hM v0 h) tw_1262 (hM 9 _ rfl v0) rfl rfl rfl (st := []) rfl (Nat.le_of_ble_eq_true rfl) ⟨Nat.le_of_ble_eq_true rfl, Nat.le_of_ble_eq_true rfl⟩ ⟨Nat.le_of_ble_eq_true rfl, Nat.le_of_ble_eq_true rfl⟩ dX9_goesOn_43 (fun M43 h => ?_)
  refine gg_aload_n (pc := 46) cx 0 rfl dX9_goesOn_46 rfl ?_
  refine gf_Model_signs (pc := 47) cx (hM 9 _ rfl v0) tw_1322 dX9_goesOn_47 ?_
  refine gg_aload_n (pc := 50) cx 0 rfl dX9_goesOn_50 rfl ?_
  refine gf_Model_signMany (pc := 51) cx (hM 9 _ rfl v0) tw_1323 dX9_goesOn_51 ?_
  refine gg_iload_n (pc := 54) cx 1 rfl dX9_goesOn_54 rfl ?_
  have q55 := h.1
  have h := h.2
  refine gg_iast (pc := 55) cx (hM 56 _ rfl v0) (fun _ _ => rfl) q55 dX9_goesOn_55 ?_
  refine gg_mem (fun M55 eM55 => ?_)
  have h := h M55 eM55
  refine gg_aload_n (pc := 56) cx 0 rfl dX9_goesOn_56 rfl ?_
  refine gg_dup (pc := 57) cx dX9_goesOn_57 rfl ?_
  refine gf_Model_signMany (pc := 58) cx (hM 9 _ rfl v0) tw_1323 dX9_goesOn_58 ?_
  refine gg_iconst (pc := 61) cx (v := 1) dX9_goesOn_61 (by decide) ?_
  refine gg_iadd (pc := 62) cx dX9_goesOn_62 ?_
  refine gp_Model_signMany (pc := 63) cx (hM 9 _ rfl v0) tw_1323 dX9_goesOn_63 ?_
  refine gg_mem (fun M63 eM63 => ?_)
  have h := h M63 eM63
  refine gg_aload_n (pc := 66) cx 0 rfl dX9_goesOn_66 rfl ?_
  refine gg_dup (pc := 67) cx dX9_goesOn_67 rfl ?_
  refine gf_Model_at (pc := 68) cx (hM 9 _ rfl v0) tw_1317 dX9_goesOn_68 ?_
  refine gg_iconst (pc := 71) cx (v := 1) dX9_goesOn_71 (by decide) ?_
  refine gg_iadd (pc := 72) cx dX9_goesOn_72 ?_
  refine gp_Model_at (pc := 73) cx (hM 9 _ rfl v0) tw_1317 dX9_goesOn_73 ?_
  refine gg_mem (fun M73 eM73 => ?_)
  have h := h M73 eM73
  refine gg_iconst (pc := 76) cx (v := 1) dX9_goesOn_76 (by decide) ?_
  exact gg_iret (pc := 77) cx hQ h dX9_goesOn_77
theorem cal_X9_goesOn : g_Cal yX9_goesOn cX9_goesOn 3 (some .int) 0 := ⟨tw_17, tw_1251, by decide, by decide, by decide +kernel⟩
theorem calv_X9_goesOn : g_CalV yX9_goesOn := ⟨tw_1250, ts_36⟩
set_option maxRecDepth 100000 in
set_option maxHeartbeats 4000000 in
theorem ct_X9_goesOn {l : Launch} (hl : l.stackTraces = false) {t : gT} (hM : g_hM t) {o0 : Nat} (v0 : o0 < 1) {M : gM} {K : Int32 → gM → Prop} (h : wp_X9_goesOn o0 M K) : Met l yX9_goesOn (g_y yX9_goesOn cX9_goesOn 3 (some .int)) rm_X9_goesOn (va_Pc [.ref (gAd t 9 o0)] (g_Pre t M)) (va_Qi K (g_B t) (g_A t)) rm_X9_goesOn.cells rm_X9_goesOn.slots (g_A t) := by
  refine g_met hl rfl (Nat.le_of_ble_eq_true rfl) (fun X hlX cx hQ => ?_)
  subst hlX
  refine gg_aload_n (pc := 0) cx 0 rfl dX9_goesOn_0 rfl ?_
  refine gg_aload_n (pc := 1) cx 0 rfl dX9_goesOn_1 rfl ?_
  refine gf_Model_at (pc := 2) cx (hM 9 _ rfl v0) tw_1317 dX9_goesOn_2 ?_
  refine gg_callVi (pc := 5) cx cal_X9_letter calv_X9_letter (ct_X9_letter cx.tr hM v0 h) tw_1218 (hM 9 _ rfl v0) rfl rfl rfl (st := []) rfl (Nat.le_of_ble_eq_true rfl) ⟨Nat.le_of_ble_eq_true rfl, Nat.le_of_ble_eq_true rfl⟩ ⟨Nat.le_of_ble_eq_true rfl, Nat.le_of_ble_eq_true rfl⟩ dX9_goesOn_5 (fun r5 M5 h => ?_)
  refine gg_istore_n (pc := 8) cx [(1, .int r5), (0, .ref (gAd t 9 o0))] dX9_goesOn_8 rfl (by decide) rfl ?_
  refine gg_aload_n (pc := 9) cx 1 rfl dX9_goesOn_9 rfl ?_
  refine gg_callVi (pc := 10) cx cal_X9_innermost calv_X9_innermost (ct_X9_innermost cx.tr hM v0 h) tw_1252 (hM 9 _ rfl v0) rfl rfl rfl (st := []) rfl (Nat.le_of_ble_eq_true rfl) ⟨Nat.le_of_ble_eq_true rfl, Nat.le_of_ble_eq_true rfl⟩ ⟨Nat.le_of_ble_eq_true rfl, Nat.le_of_ble_eq_true rfl⟩ dX9_goesOn_10 (fun r10 M10 h => ?_)
  refine gg_istore_n (pc := 13) cx [(2, .int r10), (1, .int r5), (0, .ref (gAd t 9 o0))] dX9_goesOn_13 rfl (by decide) rfl ?_
  refine gg_iload_n (pc := 14) cx 1 rfl dX9_goesOn_14 rfl ?_
  refine gg_bipush (pc := 15) cx (v := 43) dX9_goesOn_15 (by decide) ?_
  refine gg_icmp_eq (pc := 17) cx (tgt := 38) dX9_goesOn_17 (by decide) (fun c17 => ?_) (fun c17 => ?_)
  · have h := g_it c17 h
    refine gg_lv (lv' := [(0, .ref (gAd t 9 o0)), (1, .int r5)]) [2, 1] rfl ?_
    exact wk_X9_goesOn_b38 cx hM hQ v0 h
  · have h := g_if c17 h
    refine gg_iload_n (pc := 20) cx 1 rfl dX9_goesOn_20 rfl ?_
    refine gg_bipush (pc := 21) cx (v := 45) dX9_goesOn_21 (by decide) ?_
    refine gg_icmp_eq (pc := 23) cx (tgt := 38) dX9_goesOn_23 (by decide) (fun c23 => ?_) (fun c23 => ?_)
    · have h := g_it c23 h
      refine gg_lv (lv' := [(0, .ref (gAd t 9 o0)), (1, .int r5)]) [2, 1] rfl ?_
      exact wk_X9_goesOn_b38 cx hM hQ v0 h
    · have h := g_if c23 h
      refine gg_iload_n (pc := 26) cx 1 rfl dX9_goesOn_26 rfl ?_
      refine gg_bipush (pc := 27) cx (v := 42) dX9_goesOn_27 (by decide) ?_
      refine gg_icmp_eq (pc := 29) cx (tgt := 38) dX9_goesOn_29 (by decide) (fun c29 => ?_) (fun c29 => ?_)
      · have h := g_it c29 h
        refine gg_lv (lv' := [(0, .ref (gAd t 9 o0)), (1, .int r5)]) [2, 1] rfl ?_
        exact wk_X9_goesOn_b38 cx hM hQ v0 h
      · have h := g_if c29 h
        refine gg_iload_n (pc := 32) cx 1 rfl dX9_goesOn_32 rfl ?_
        refine gg_bipush (pc := 33) cx (v := 47) dX9_goesOn_33 (by decide) ?_
        refine gg_icmp_ne (pc := 35) cx (tgt := 78) dX9_goesOn_35 (by decide) (fun c35 => ?_) (fun c35 => ?_)
        · have h := g_if c35 h
          refine gg_iload_n (pc := 78) cx 0 rfl dX9_goesOn_78 rfl ?_
          refine gg_if_ne (pc := 79) cx (tgt := 84) dX9_goesOn_79 (by decide) (fun c79 => ?_) (fun c79 => ?_)
          · have h := g_if c79 h
            refine gg_iload_n (pc := 84) cx 1 rfl dX9_goesOn_84 rfl ?_
            refine gg_bipush (pc := 85) cx (v := 44) dX9_goesOn_85 (by decide) ?_
            refine gg_icmp_ne (pc := 87) cx (tgt := 143) dX9_goesOn_87 (by decide) (fun c87 => ?_) (fun c87 => ?_)
            · have h := g_if c87 h
              refine gg_lv (lv' := [(0, .ref (gAd t 9 o0)), (1, .int r5), (2, .int r10)]) [2, 1, 0] rfl ?_
              exact wk_X9_goesOn_b143 cx hM hQ v0 h
            · have h := g_it c87 h
              refine gg_iload_n (pc := 90) cx 0 rfl dX9_goesOn_90 rfl ?_
              refine gg_bipush (pc := 91) cx (v := 77) dX9_goesOn_91 (by decide) ?_
              refine gg_icmp_eq (pc := 93) cx (tgt := 102) dX9_goesOn_93 (by decide) (fun c93 => ?_) (fun c93 => ?_)
              · have h := g_it c93 h
                refine gg_lv (lv' := [(0, .ref (gAd t 9 o0)), (2, .int r10)]) [2, 0] rfl ?_
                exact wk_X9_goesOn_b102 cx hM hQ v0 h
              · have h := g_if c93 h
                refine gg_iload_n (pc := 96) cx 0 rfl dX9_goesOn_96 rfl ?_
                refine gg_bipush (pc := 97) cx (v := 109) dX9_goesOn_97 (by decide) ?_
                refine gg_icmp_ne (pc := 99) cx (tgt := 143) dX9_goesOn_99 (by decide) (fun c99 => ?_) (fun c99 => ?_)
                · have h := g_if c99 h
                  refine gg_lv (lv' := [(0, .ref (gAd t 9 o0)), (1, .int r5), (2, .int r10)]) [2, 1, 0] rfl ?_
                  exact wk_X9_goesOn_b143 cx hM hQ v0 h
                · have h := g_it c99 h
                  refine gg_lv (lv' := [(0, .ref (gAd t 9 o0)), (2, .int r10)]) [2, 0] rfl ?_
                  exact wk_X9_goesOn_b102 cx hM hQ v0 h
          · have h := g_it c79 h
            refine gg_iconst (pc := 82) cx (v := 0) dX9_goesOn_82 (by decide) ?_
            exact gg_iret (pc := 83) cx hQ h dX9_goesOn_83
        · have h := g_it c35 h
          refine gg_lv (lv' := [(0, .ref (gAd t 9 o0)), (1, .int r5)]) [2, 1] rfl ?_
          exact wk_X9_goesOn_b38 cx hM hQ v0 h
set_option maxRecDepth 100000 in
set_option maxHeartbeats 4000000 in
theorem wk_X9_readsExpression_b76 {t : gT} {X : gX} (cx : g_Cx t X cX9_readsExpression 5 RX9 (some .boolean)) (hM : g_hM t) {K : Int32 → gM → Prop} (hQ : gXQ X = MQ (gXb X) (va_Qi K (g_B t) (g_A t)) (gXa X) (gXs X) rm_X9_readsExpression.cells rm_X9_readsExpression.slots (g_A t)) {R9 : Nat → Int32 → Int32 → Int32 → gM → Prop} (hR9 : ∀ (o0 : Nat) (x1 : Int32) (x2 : Int32) (x3 : Int32) (M : gM), o0 < 1 → R9 o0 x1 x2 x3 M → G t rm_X9_readsExpression X 5 0 0 M [(0, .ref (gAd t 9 o0)), (1, .int x1), (2, .int x2), (3, .int x3)] [] 9) {o0 : Nat} {x1 : Int32} {x2 : Int32} {x4 : Int32} {xs0 : Int32} {M : gM} (v0 : o0 < 1) (h : wp_X9_readsExpression_b76 R9 K o0 x1 x2 x4 xs0 M) : G t rm_X9_readsExpression X 5 0 0 M [(0, .ref (gAd t 9 o0)), (1, .int x1), (2, .int x2), (4, .int x4)] [.int xs0] 76 := by
  refine gg_istore_n (pc := 76) cx [(3, .int xs0), (0, .ref (gAd t 9 o0)), (1, .int x1), (2, .int x2), (4, .int x4)] dX9_readsExpression_76 rfl (by decide) rfl ?_
  refine gg_iload_n (pc := 77) cx 3 rfl dX9_readsExpression_77 rfl ?_
  refine gg_if_eq (pc := 78) cx (tgt := 94) dX9_readsExpression_78 (by decide) (fun c78 => ?_) (fun c78 => ?_)
  · have h := g_it c78 h
    refine gg_iload (pc := 94) cx 4 rfl dX9_readsExpression_94 ?_
    refine gg_iconst (pc := 96) cx (v := 1) dX9_readsExpression_96 (by decide) ?_
    refine gg_icmp_ne (pc := 97) cx (tgt := 104) dX9_readsExpression_97 (by decide) (fun c97 => ?_) (fun c97 => ?_)
    · have h := g_if c97 h
      refine gg_iconst (pc := 104) cx (v := 0) dX9_readsExpression_104 (by decide) ?_
      refine gg_istore_n (pc := 105) cx [(2, .int 0), (3, .int xs0), (0, .ref (gAd t 9 o0)), (1, .int x1), (4, .int x4)] dX9_readsExpression_105 rfl (by decide) rfl ?_
      refine gg_goto (pc := 106) cx (tgt := 9) dX9_readsExpression_106 (by decide) ?_
      refine gg_lv (lv' := [(0, .ref (gAd t 9 o0)), (1, .int x1), (2, .int 0), (3, .int xs0)]) [2, 3, 0, 1] rfl ?_
      exact hR9 o0 x1 0 xs0 M v0 h
    · have h := g_it c97 h
      refine gg_iconst (pc := 100) cx (v := 1) dX9_readsExpression_100 (by decide) ?_
      refine gg_goto (pc := 101) cx (tgt := 105) dX9_readsExpression_101 (by decide) ?_
      refine gg_istore_n (pc := 105) cx [(2, .int 1), (3, .int xs0), (0, .ref (gAd t 9 o0)), (1, .int x1), (4, .int x4)] dX9_readsExpression_105 rfl (by decide) rfl ?_
      refine gg_goto (pc := 106) cx (tgt := 9) dX9_readsExpression_106 (by decide) ?_
      refine gg_lv (lv' := [(0, .ref (gAd t 9 o0)), (1, .int x1), (2, .int 1), (3, .int xs0)]) [2, 3, 0, 1] rfl ?_
      exact hR9 o0 x1 1 xs0 M v0 h
  · have h := g_if c78 h
    refine gg_iload (pc := 81) cx 4 rfl dX9_readsExpression_81 ?_
    refine gg_if_ne (pc := 83) cx (tgt := 90) dX9_readsExpression_83 (by decide) (fun c83 => ?_) (fun c83 => ?_)
    · have h := g_if c83 h
      refine gg_iconst (pc := 90) cx (v := 0) dX9_readsExpression_90 (by decide) ?_
      refine gg_goto (pc := 91) cx (tgt := 105) dX9_readsExpression_91 (by decide) ?_
      refine gg_istore_n (pc := 105) cx [(2, .int 0), (3, .int xs0), (0, .ref (gAd t 9 o0)), (1, .int x1), (4, .int x4)] dX9_readsExpression_105 rfl (by decide) rfl ?_
      refine gg_goto (pc := 106) cx (tgt := 9) dX9_readsExpression_106 (by decide) ?_
      refine gg_lv (lv' := [(0, .ref (gAd t 9 o0)), (1, .int x1), (2, .int 0), (3, .int xs0)]) [2, 3, 0, 1] rfl ?_
      exact hR9 o0 x1 0 xs0 M v0 h
    · have h := g_it c83 h
      refine gg_iconst (pc := 86) cx (v := 1) dX9_readsExpression_86 (by decide) ?_
      refine gg_goto (pc := 87) cx (tgt := 105) dX9_readsExpression_87 (by decide) ?_
      refine gg_istore_n (pc := 105) cx [(2, .int 1), (3, .int xs0), (0, .ref (gAd t 9 o0)), (1, .int x1), (4, .int x4)] dX9_readsExpression_105 rfl (by decide) rfl ?_
      refine gg_goto (pc := 106) cx (tgt := 9) dX9_readsExpression_106 (by decide) ?_
      refine gg_lv (lv' := [(0, .ref (gAd t 9 o0)), (1, .int x1), (2, .int 1), (3, .int xs0)]) [2, 3, 0, 1] rfl ?_
      exact hR9 o0 x1 1 xs0 M v0 h
set_option maxRecDepth 100000 in
set_option maxHeartbeats 4000000 in
theorem wk_X9_readsExpression_b71 {t : gT} {X : gX} (cx : g_Cx t X cX9_readsExpression 5 RX9 (some .boolean)) (hM : g_hM t) {K : Int32 → gM → Prop} (hQ : gXQ X = MQ (gXb X) (va_Qi K (g_B t) (g_A t)) (gXa X) (gXs X) rm_X9_readsExpression.cells rm_X9_readsExpression.slots (g_A t)) {R9 : Nat → Int32 → Int32 → Int32 → gM → Prop} (hR9 : ∀ (o0 : Nat) (x1 : Int32) (x2 : Int32) (x3 : Int32) (M : gM), o0 < 1 → R9 o0 x1 x2 x3 M → G t rm_X9_readsExpression X 5 0 0 M [(0, .ref (gAd t 9 o0)), (1, .int x1), (2, .int x2), (3, .int x3)] [] 9) {o0 : Nat} {x1 : Int32} {x2 : Int32} {x4 : Int32} {M : gM} (v0 : o0 < 1) (h : wp_X9_readsExpression_b71 R9 K o0 x1 x2 x4 M) : G t rm_X9_readsExpression X 5 0 0 M [(0, .ref (gAd t 9 o0)), (1, .int x1), (2, .int x2), (4, .int x4)] [] 71 := by
  refine gg_iconst (pc := 71) cx (v := 1) dX9_readsExpression_71 (by decide) ?_
  refine gg_goto (pc := 72) cx (tgt := 76) dX9_readsExpression_72 (by decide) ?_
  exact wk_X9_readsExpression_b76 cx hM hQ hR9 v0 h
set_option maxRecDepth 100000 in
set_option maxHeartbeats 4000000 in
theorem wk_X9_readsExpression_b62 {t : gT} {X : gX} (cx : g_Cx t X cX9_readsExpression 5 RX9 (some .boolean)) (hM : g_hM t) {K : Int32 → gM → Prop} (hQ : gXQ X = MQ (gXb X) (va_Qi K (g_B t) (g_A t)) (gXa X) (gXs X) rm_X9_readsExpression.cells rm_X9_readsExpression.slots (g_A t)) {R9 : Nat → Int32 → Int32 → Int32 → gM → Prop} (hR9 : ∀ (o0 : Nat) (x1 : Int32) (x2 : Int32) (x3 : Int32) (M : gM), o0 < 1 → R9 o0 x1 x2 x3 M → G t rm_X9_readsExpression X 5 0 0 M [(0, .ref (gAd t 9 o0)), (1, .int x1), (2, .int x2), (3, .int x3)] [] 9) {o0 : Nat} {x1 : Int32} {x2 : Int32} {x4 : Int32} {M : gM} (v0 : o0 < 1) (h : wp_X9_readsExpression_b62 R9 K o0 x1 x2 x4 M) : G t rm_X9_readsExpression X 5 0 0 M [(0, .ref (gAd t 9 o0)), (1, .int x1), (2, .int x2), (4, .int x4)] [] 62 := by
  refine gg_iload_n (pc := 62) cx 2 rfl dX9_readsExpression_62 rfl ?_
  refine gg_if_ne (pc := 63) cx (tgt := 71) dX9_readsExpression_63 (by decide) (fun c63 => ?_) (fun c63 => ?_)
  · have h := g_if c63 h
    exact wk_X9_readsExpression_b71 cx hM hQ hR9 v0 h
  · have h := g_it c63 h
    refine gg_iload (pc := 66) cx 3 rfl dX9_readsExpression_66 ?_
    refine gg_if_eq (pc := 68) cx (tgt := 75) dX9_readsExpression_68 (by decide) (fun c68 => ?_) (fun c68 => ?_)
    · have h := g_it c68 h
      refine gg_iconst (pc := 75) cx (v := 0) dX9_readsExpression_75 (by decide) ?_
      exact wk_X9_readsExpression_b76 cx hM hQ hR9 v0 h
    · have h := g_if c68 h
      exact wk_X9_readsExpression_b71 cx hM hQ hR9 v0 h
set_option maxRecDepth 100000 in
set_option maxHeartbeats 4000000 in
theorem wk_X9_readsExpression_b58 {t : gT} {X : gX} (cx : g_Cx t X cX9_readsExpression 5 RX9 (some .boolean)) (hM : g_hM t) {K : Int32 → gM → Prop} (hQ : gXQ X = MQ (gXb X) (va_Qi K (g_B t) (g_A t)) (gXa X) (gXs X) rm_X9_readsExpression.cells rm_X9_readsExpression.slots (g_A t)) {R9 : Nat → Int32 → Int32 → Int32 → gM → Prop} (hR9 : ∀ (o0 : Nat) (x1 : Int32) (x2 : Int32) (x3 : Int32) (M : gM), o0 < 1 → R9 o0 x1 x2 x3 M → G t rm_X9_readsExpression X 5 0 0 M [(0, .ref (gAd t 9 o0)), (1, .int x1), (2, .int x2), (3, .int x3)] [] 9) {o0 : Nat} {x1 : Int32} {x2 : Int32} {x4 : Int32} {M : gM} (v0 : o0 < 1) (h : wp_X9_readsExpression_b58 R9 K o0 x1 x2 x4 M) : G t rm_X9_readsExpression X 5 0 0 M [(0, .ref (gAd t 9 o0)), (1, .int x1), (2, .int x2), (4, .int x4)] [] 58 := by
  refine gg_aload_n (pc := 58) cx 0 rfl dX9_readsExpression_58 rfl ?_
  refine gg_callVv (pc := 59) cx cal_X9_isWhole calv_X9_isWhole (ct_X9_isWhole cx.tr hM v0 h) tw_1280 (hM 9 _ rfl v0) rfl rfl rfl (st := []) rfl (Nat.le_of_ble_eq_true rfl) ⟨Nat.le_of_ble_eq_true rfl, Nat.le_of_ble_eq_true rfl⟩ ⟨Nat.le_of_ble_eq_true rfl, Nat.le_of_ble_eq_true rfl⟩ dX9_readsExpression_59 (fun M59 h => ?_)
  exact wk_X9_readsExpression_b62 cx hM hQ hR9 v0 h
set_option maxRecDepth 100000 in
set_option maxHeartbeats 4000000 in
theorem wk_X9_readsExpression_b48 {t : gT} {X : gX} (cx : g_Cx t X cX9_readsExpression 5 RX9 (some .boolean)) (hM : g_hM t) {K : Int32 → gM → Prop} (hQ : gXQ X = MQ (gXb X) (va_Qi K (g_B t) (g_A t)) (gXa X) (gXs X) rm_X9_readsExpression.cells rm_X9_readsExpression.slots (g_A t)) {R9 : Nat → Int32 → Int32 → Int32 → gM → Prop} (hR9 : ∀ (o0 : Nat) (x1 : Int32) (x2 : Int32) (x3 : Int32) (M : gM), o0 < 1 → R9 o0 x1 x2 x3 M → G t rm_X9_readsExpression X 5 0 0 M [(0, .ref (gAd t 9 o0)), (1, .int x1), (2, .int x2), (3, .int x3)] [] 9) {o0 : Nat} {x1 : Int32} {x2 : Int32} {x4 : Int32} {M : gM} (v0 : o0 < 1) (h : wp_X9_readsExpression_b48 R9 K o0 x1 x2 x4 M) : G t rm_X9_readsExpression X 5 0 0 M [(0, .ref (gAd t 9 o0)), (1, .int x1), (2, .int x2), (4, .int x4)] [] 48 := by
  refine gg_iload_n (pc := 48) cx 2 rfl dX9_readsExpression_48 rfl ?_
  refine gg_if_ne (pc := 49) cx (tgt := 62) dX9_readsExpression_49 (by decide) (fun c49 => ?_) (fun c49 => ?_)
  · have h := g_if c49 h
    exact wk_X9_readsExpression_b62 cx hM hQ hR9 v0 h
  · have h := g_it c49 h
    refine gg_iload (pc := 52) cx 3 rfl dX9_readsExpression_52 ?_
    refine gg_iconst (pc := 54) cx (v := 2) dX9_readsExpression_54 (by decide) ?_
    refine gg_icmp_ne (pc := 55) cx (tgt := 62) dX9_readsExpression_55 (by decide) (fun c55 => ?_) (fun c55 => ?_)
    · have h := g_if c55 h
      exact wk_X9_readsExpression_b62 cx hM hQ hR9 v0 h
    · have h := g_it c55 h
      exact wk_X9_readsExpression_b58 cx hM hQ hR9 v0 h
set_option maxRecDepth 100000 in
set_option maxHeartbeats 4000000 in
theorem wk_X9_readsExpression_b29 {t : gT} {X : gX} (cx : g_Cx t X cX9_readsExpression 5 RX9 (some .boolean)) (hM : g_hM t) {K : Int32 → gM → Prop} (hQ : gXQ X = MQ (gXb X) (va_Qi K (g_B t) (g_A t)) (gXa X) (gXs X) rm_X9_readsExpression.cells rm_X9_readsExpression.slots (g_A t)) {R9 : Nat → Int32 → Int32 → Int32 → gM → Prop} (hR9 : ∀ (o0 : Nat) (x1 : Int32) (x2 : Int32) (x3 : Int32) (M : gM), o0 < 1 → R9 o0 x1 x2 x3 M → G t rm_X9_readsExpression X 5 0 0 M [(0, .ref (gAd t 9 o0)), (1, .int x1), (2, .int x2), (3, .int x3)] [] 9) {o0 : Nat} {x1 : Int32} {x2 : Int32} {xs0 : Int32} {M : gM} (v0 : o0 < 1) (h : wp_X9_readsExpression_b29 R9 K o0 x1 x2 xs0 M) : G t rm_X9_readsExpression X 5 0 0 M [(0, .ref (gAd t 9 o0)), (1, .int x1), (2, .int x2)] [.int xs0] 29 := by
  refine gg_istore (pc := 29) cx [(4, .int xs0), (0, .ref (gAd t 9 o0)), (1, .int x1), (2, .int x2)] dX9_readsExpression_29 (by decide) rfl ?_
  refine gg_iload (pc := 31) cx 0 rfl dX9_readsExpression_31 ?_
  refine gg_if_ge (pc := 33) cx (tgt := 38) dX9_readsExpression_33 (by decide) (fun c33 => ?_) (fun c33 => ?_)
  · have h := g_it c33 h
    refine gg_iload_n (pc := 38) cx 3 rfl dX9_readsExpression_38 rfl ?_
    refine gg_if_eq (pc := 39) cx (tgt := 48) dX9_readsExpression_39 (by decide) (fun c39 => ?_) (fun c39 => ?_)
    · have h := g_it c39 h
      refine gg_lv (lv' := [(0, .ref (gAd t 9 o0)), (1, .int x1), (2, .int x2), (4, .int xs0)]) [1, 2, 3, 0] rfl ?_
      exact wk_X9_readsExpression_b48 cx hM hQ hR9 v0 h
    · have h := g_if c39 h
      refine gg_iload (pc := 42) cx 0 rfl dX9_readsExpression_42 ?_
      refine gg_iconst (pc := 44) cx (v := 1) dX9_readsExpression_44 (by decide) ?_
      refine gg_icmp_eq (pc := 45) cx (tgt := 58) dX9_readsExpression_45 (by decide) (fun c45 => ?_) (fun c45 => ?_)
      · have h := g_it c45 h
        refine gg_lv (lv' := [(0, .ref (gAd t 9 o0)), (1, .int x1), (2, .int x2), (4, .int xs0)]) [1, 2, 3, 0] rfl ?_
        exact wk_X9_readsExpression_b58 cx hM hQ hR9 v0 h
      · have h := g_if c45 h
        refine gg_lv (lv' := [(0, .ref (gAd t 9 o0)), (1, .int x1), (2, .int x2), (4, .int xs0)]) [1, 2, 3, 0] rfl ?_
        exact wk_X9_readsExpression_b48 cx hM hQ hR9 v0 h
  · have h := g_if c33 h
    refine gg_iconst (pc := 36) cx (v := 0) dX9_readsExpression_36 (by decide) ?_
    exact gg_zret (pc := 37) cx hQ rfl h dX9_readsExpression_37
set_option maxRecDepth 100000 in
set_option maxHeartbeats 4000000 in
theorem wk_X9_readsExpression_L9 {t : gT} {X : gX} (cx : g_Cx t X cX9_readsExpression 5 RX9 (some .boolean)) (hM : g_hM t) {K : Int32 → gM → Prop} (hQ : gXQ X = MQ (gXb X) (va_Qi K (g_B t) (g_A t)) (gXa X) (gXs X) rm_X9_readsExpression.cells rm_X9_readsExpression.slots (g_A t)) (f : Nat) : ∀ (o0 : Nat) (x1 : Int32) (x2 : Int32) (x3 : Int32) (M : gM), o0 < 1 → wp_X9_readsExpression_L9 K f o0 x1 x2 x3 M → G t rm_X9_readsExpression X 5 0 0 M [(0, .ref (gAd t 9 o0)), (1, .int x1), (2, .int x2), (3, .int x3)] [] 9 := by
  induction f with
  | zero => intro _ _ _ _ _ _ _; exact False.elim (by assumption)
  | succ f ih =>
    intro o0 x1 x2 x3 M v0 h
    refine gg_iload_n (pc := 9) cx 3 rfl dX9_readsExpression_9 rfl ?_
    refine gg_if_eq (pc := 10) cx (tgt := 109) dX9_readsExpression_10 (by decide) (fun c10 => ?_) (fun c10 => ?_)
    · have h := g_it c10 h
      refine gg_aload_n (pc := 109) cx 0 rfl dX9_readsExpression_109 rfl ?_
      refine gg_iconst (pc := 110) cx (v := 1) dX9_readsExpression_110 (by decide) ?_
      refine gg_callVv (pc := 111) cx cal_X9_settles calv_X9_settles (ct_X9_settles cx.tr hM v0 h) tw_1262 (hM 9 _ rfl v0) rfl rfl rfl (st := []) rfl (Nat.le_of_ble_eq_true rfl) ⟨Nat.le_of_ble_eq_true rfl, Nat.le_of_ble_eq_true rfl⟩ ⟨Nat.le_of_ble_eq_true rfl, Nat.le_of_ble_eq_true rfl⟩ dX9_readsExpression_111 (fun M111 h => ?_)
      refine gg_iconst (pc := 114) cx (v := 1) dX9_readsExpression_114 (by decide) ?_
      exact gg_zret (pc := 115) cx hQ rfl h dX9_readsExpression_115
    · have h := g_if c10 h
      refine gg_iload_n (pc := 13) cx 2 rfl dX9_readsExpression_13 rfl ?_
      refine gg_if_eq (pc := 14) cx (tgt := 25) dX9_readsExpression_14 (by decide) (fun c14 => ?_) (fun c14 => ?_)
      · have h := g_it c14 h
        refine gg_aload_n (pc := 25) cx 0 rfl dX9_readsExpression_25 rfl ?_
        refine gg_callVi (pc := 26) cx cal_X9_goesOn calv_X9_goesOn (ct_X9_goesOn cx.tr hM v0 h) tw_1248 (hM 9 _ rfl v0) rfl rfl rfl (st := []) rfl (Nat.le_of_ble_eq_true rfl) ⟨Nat.le_of_ble_eq_true rfl, Nat.le_of_ble_eq_true rfl⟩ ⟨Nat.le_of_ble_eq_true rfl, Nat.le_of_ble_eq_true rfl⟩ dX9_readsExpression_26 (fun r26 M26 h => ?_)
        refine gg_lv (lv' := [(0, .ref (gAd t 9 o0)), (1, .int x1), (2, .int x2)]) [0, 1, 2] rfl ?_
        exact wk_X9_readsExpression_b29 cx hM hQ ih v0 h
      · have h := g_if c14 h
        refine gg_aload_n (pc := 17) cx 0 rfl dX9_readsExpression_17 rfl ?_
        refine gg_iload_n (pc := 18) cx 1 rfl dX9_readsExpression_18 rfl ?_
        refine gg_callVi (pc := 19) cx cal_X9_begins calv_X9_begins (ct_X9_begins cx.tr hM v0 h) tw_1235 (hM 9 _ rfl v0) rfl rfl rfl (st := []) rfl (Nat.le_of_ble_eq_true rfl) ⟨Nat.le_of_ble_eq_true rfl, Nat.le_of_ble_eq_true rfl⟩ ⟨Nat.le_of_ble_eq_true rfl, Nat.le_of_ble_eq_true rfl⟩ dX9_readsExpression_19 (fun r19 M19 h => ?_)
        refine gg_goto (pc := 22) cx (tgt := 29) dX9_readsExpression_22 (by decide) ?_
        refine gg_lv (lv' := [(0, .ref (gAd t 9 o0)), (1, .int x1), (2, .int x2)]) [0, 1, 2] rfl ?_
        exact wk_X9_readsExpression_b29 cx hM hQ ih v0 h
theorem cal_X9_readsExpression : g_Cal yX9_readsExpression cX9_readsExpression 5 (some .boolean) 1 := ⟨tw_17, tw_1234, by decide, by decide, by decide +kernel⟩
theorem calv_X9_readsExpression : g_CalV yX9_readsExpression := ⟨tw_1233, ts_33⟩
set_option maxRecDepth 100000 in
set_option maxHeartbeats 4000000 in
theorem ct_X9_readsExpression {l : Launch} (hl : l.stackTraces = false) {t : gT} (hM : g_hM t) {o0 : Nat} {x1 : Int32} (v0 : o0 < 1) {M : gM} {K : Int32 → gM → Prop} (h : wp_X9_readsExpression o0 x1 M K) : Met l yX9_readsExpression (g_y yX9_readsExpression cX9_readsExpression 5 (some .boolean)) rm_X9_readsExpression (va_Pc [.ref (gAd t 9 o0), .int x1] (g_Pre t M)) (va_Qi K (g_B t) (g_A t)) rm_X9_readsExpression.cells rm_X9_readsExpression.slots (g_A t) := by
  refine g_met hl rfl (Nat.le_of_ble_eq_true rfl) (fun X hlX cx hQ => ?_)
  subst hlX
  refine gg_aload_n (pc := 0) cx 0 rfl dX9_readsExpression_0 rfl ?_
  refine gg_iconst (pc := 1) cx (v := 0) dX9_readsExpression_1 (by decide) ?_
  refine gp_Model_signMany (pc := 2) cx (hM 9 _ rfl v0) tw_1323 dX9_readsExpression_2 ?_
  refine gg_mem (fun M2 eM2 => ?_)
  have h := h M2 eM2
  refine gg_iconst (pc := 5) cx (v := 1) dX9_readsExpression_5 (by decide) ?_
  refine gg_istore_n (pc := 6) cx [(2, .int 1), (0, .ref (gAd t 9 o0)), (1, .int x1)] dX9_readsExpression_6 rfl (by decide) rfl ?_
  refine gg_iconst (pc := 7) cx (v := 1) dX9_readsExpression_7 (by decide) ?_
  refine gg_istore_n (pc := 8) cx [(3, .int 1), (2, .int 1), (0, .ref (gAd t 9 o0)), (1, .int x1)] dX9_readsExpression_8 rfl (by decide) rfl ?_
  refine gg_lv (lv' := [(0, .ref (gAd t 9 o0)), (1, .int x1), (2, .int 1), (3, .int 1)]) [2, 3, 1, 0] rfl ?_
  obtain ⟨f9, h⟩ := h
  exact wk_X9_readsExpression_L9 cx hM hQ f9 o0 x1 1 1 M2 v0 h
set_option maxRecDepth 100000 in
set_option maxHeartbeats 4000000 in
theorem wk_X9_readsProgram_b104 {t : gT} {X : gX} (cx : g_Cx t X cX9_readsProgram 2 RX9 (some .boolean)) (hM : g_hM t) {K : Int32 → gM → Prop} (hQ : gXQ X = MQ (gXb X) (va_Qi K (g_B t) (g_A t)) (gXa X) (gXs X) rm_X9_readsProgram.cells rm_X9_readsProgram.slots (g_A t)) {o0 : Nat} {x1 : Int32} {M : gM} (v0 : o0 < 1) (h : wp_X9_readsProgram_b104 K o0 x1 M) : G t rm_X9_readsProgram X 2 0 0 M [(0, .ref (gAd t 9 o0)), (1, .int x1)] [] 104 := by
  refine gg_aload_n (pc := 104) cx 0 rfl dX9_readsProgram_104 rfl ?_
  refine gf_Model_read (pc := 105) cx (hM 9 _ rfl v0) tw_1318 dX9_readsProgram_105 ?_
  refine gg_bipush (pc := 108) cx (v := 12) dX9_readsProgram_108 (by decide) ?_
  refine gg_iload_n (pc := 110) cx 1 rfl dX9_readsProgram_110 rfl ?_
  refine gg_imul (pc := 111) cx dX9_readsProgram_111 ?_
  refine gg_bipush (pc := 112) cx (v := 10) dX9_readsProgram_112 (by decide) ?_
  refine gg_iadd (pc := 114) cx dX9_readsProgram_114 ?_
  refine gg_aload_n (pc := 115) cx 0 rfl dX9_readsProgram_115 rfl ?_
  refine gf_Model_stepMany (pc := 116) cx (hM 9 _ rfl v0) tw_1321 dX9_readsProgram_116 ?_
  refine gg_aload_n (pc := 119) cx 0 rfl dX9_readsProgram_119 rfl ?_
  refine gf_Model_read (pc := 120) cx (hM 9 _ rfl v0) tw_1318 dX9_readsProgram_120 ?_
  refine gg_bipush (pc := 123) cx (v := 12) dX9_readsProgram_123 (by decide) ?_
  refine gg_iload_n (pc := 125) cx 1 rfl dX9_readsProgram_125 rfl ?_
  refine gg_imul (pc := 126) cx dX9_readsProgram_126 ?_
  refine gg_bipush (pc := 127) cx (v := 9) dX9_readsProgram_127 (by decide) ?_
  refine gg_iadd (pc := 129) cx dX9_readsProgram_129 ?_
  have q130 := h.1
  have h := h.2
  refine gg_iald (pc := 130) cx (hM 54 _ rfl v0) rfl q130 dX9_readsProgram_130 ?_
  refine gg_isub (pc := 131) cx dX9_readsProgram_131 ?_
  have q132 := h.1
  have h := h.2
  refine gg_iast (pc := 132) cx (hM 54 _ rfl v0) (fun _ _ => rfl) q132 dX9_readsProgram_132 ?_
  refine gg_mem (fun M132 eM132 => ?_)
  have h := h M132 eM132
  refine gg_iconst (pc := 133) cx (v := 1) dX9_readsProgram_133 (by decide) ?_
  exact gg_zret (pc := 134) cx hQ rfl h dX9_readsProgram_134
theorem cal_X9_readsProgram : g_Cal yX9_readsProgram cX9_readsProgram 2 (some .boolean) 1 := ⟨tw_17, tw_1230, by decide, by decide, by decide +kernel⟩
theorem calv_X9_readsProgram : g_CalV yX9_readsProgram := ⟨tw_1229, ts_32⟩
set_option maxRecDepth 100000 in
set_option maxHeartbeats 4000000 in
theorem ct_X9_readsProgram {l : Launch} (hl : l.stackTraces = false) {t : gT} (hM : g_hM t) {o0 : Nat} {x1 : Int32} (v0 : o0 < 1) {M : gM} {K : Int32 → gM → Prop} (h : wp_X9_readsProgram o0 x1 M K) : Met l yX9_readsProgram (g_y yX9_readsProgram cX9_readsProgram 2 (some .boolean)) rm_X9_readsProgram (va_Pc [.ref (gAd t 9 o0), .int x1] (g_Pre t M)) (va_Qi K (g_B t) (g_A t)) rm_X9_readsProgram.cells rm_X9_readsProgram.slots (g_A t) := by
  refine g_met hl rfl (Nat.le_of_ble_eq_true rfl) (fun X hlX cx hQ => ?_)
  subst hlX
  refine gg_aload_n (pc := 0) cx 0 rfl dX9_readsProgram_0 rfl ?_
  refine gf_Model_read (pc := 1) cx (hM 9 _ rfl v0) tw_1318 dX9_readsProgram_1 ?_
  refine gg_bipush (pc := 4) cx (v := 12) dX9_readsProgram_4 (by decide) ?_
  refine gg_iload_n (pc := 6) cx 1 rfl dX9_readsProgram_6 rfl ?_
  refine gg_imul (pc := 7) cx dX9_readsProgram_7 ?_
  refine gg_bipush (pc := 8) cx (v := 7) dX9_readsProgram_8 (by decide) ?_
  refine gg_iadd (pc := 10) cx dX9_readsProgram_10 ?_
  refine gg_aload_n (pc := 11) cx 0 rfl dX9_readsProgram_11 rfl ?_
  refine gf_Model_stepMany (pc := 12) cx (hM 9 _ rfl v0) tw_1321 dX9_readsProgram_12 ?_
  have q15 := h.1
  have h := h.2
  refine gg_iast (pc := 15) cx (hM 54 _ rfl v0) (fun _ _ => rfl) q15 dX9_readsProgram_15 ?_
  refine gg_mem (fun M15 eM15 => ?_)
  have h := h M15 eM15
  refine gg_aload_n (pc := 16) cx 0 rfl dX9_readsProgram_16 rfl ?_
  refine gg_iconst (pc := 17) cx (v := 0) dX9_readsProgram_17 (by decide) ?_
  refine gg_callVi (pc := 18) cx cal_X9_readsExpression calv_X9_readsExpression (ct_X9_readsExpression cx.tr hM v0 h) tw_1231 (hM 9 _ rfl v0) rfl rfl rfl (st := []) rfl (Nat.le_of_ble_eq_true rfl) ⟨Nat.le_of_ble_eq_true rfl, Nat.le_of_ble_eq_true rfl⟩ ⟨Nat.le_of_ble_eq_true rfl, Nat.le_of_ble_eq_true rfl⟩ dX9_readsProgram_18 (fun r18 M18 h => ?_)
  refine gg_if_ne (pc := 21) cx (tgt := 26) dX9_readsProgram_21 (by decide) (fun c21 => ?_) (fun c21 => ?_)
  · have h := g_if c21 h
    refine gg_aload_n (pc := 26) cx 0 rfl dX9_readsProgram_26 rfl ?_
    refine gf_Model_read (pc := 27) cx (hM 9 _ rfl v0) tw_1318 dX9_readsProgram_27 ?_
    refine gg_bipush (pc := 30) cx (v := 12) dX9_readsProgram_30 (by decide) ?_
    refine gg_iload_n (pc := 32) cx 1 rfl dX9_readsProgram_32 rfl ?_
    refine gg_imul (pc := 33) cx dX9_readsProgram_33 ?_
    refine gg_bipush (pc := 34) cx (v := 8) dX9_readsProgram_34 (by decide) ?_
    refine gg_iadd (pc := 36) cx dX9_readsProgram_36 ?_
    refine gg_aload_n (pc := 37) cx 0 rfl dX9_readsProgram_37 rfl ?_
    refine gf_Model_stepMany (pc := 38) cx (hM 9 _ rfl v0) tw_1321 dX9_readsProgram_38 ?_
    refine gg_aload_n (pc := 41) cx 0 rfl dX9_readsProgram_41 rfl ?_
    refine gf_Model_read (pc := 42) cx (hM 9 _ rfl v0) tw_1318 dX9_readsProgram_42 ?_
    refine gg_bipush (pc := 45) cx (v := 12) dX9_readsProgram_45 (by decide) ?_
    refine gg_iload_n (pc := 47) cx 1 rfl dX9_readsProgram_47 rfl ?_
    refine gg_imul (pc := 48) cx dX9_readsProgram_48 ?_
    refine gg_bipush (pc := 49) cx (v := 7) dX9_readsProgram_49 (by decide) ?_
    refine gg_iadd (pc := 51) cx dX9_readsProgram_51 ?_
    have q52 := h.1
    have h := h.2
    refine gg_iald (pc := 52) cx (hM 54 _ rfl v0) rfl q52 dX9_readsProgram_52 ?_
    refine gg_isub (pc := 53) cx dX9_readsProgram_53 ?_
    have q54 := h.1
    have h := h.2
    refine gg_iast (pc := 54) cx (hM 54 _ rfl v0) (fun _ _ => rfl) q54 dX9_readsProgram_54 ?_
    refine gg_mem (fun M54 eM54 => ?_)
    have h := h M54 eM54
    refine gg_aload_n (pc := 55) cx 0 rfl dX9_readsProgram_55 rfl ?_
    refine gf_Model_read (pc := 56) cx (hM 9 _ rfl v0) tw_1318 dX9_readsProgram_56 ?_
    refine gg_bipush (pc := 59) cx (v := 12) dX9_readsProgram_59 (by decide) ?_
    refine gg_iload_n (pc := 61) cx 1 rfl dX9_readsProgram_61 rfl ?_
    refine gg_imul (pc := 62) cx dX9_readsProgram_62 ?_
    refine gg_bipush (pc := 63) cx (v := 9) dX9_readsProgram_63 (by decide) ?_
    refine gg_iadd (pc := 65) cx dX9_readsProgram_65 ?_
    refine gg_aload_n (pc := 66) cx 0 rfl dX9_readsProgram_66 rfl ?_
    refine gf_Model_stepMany (pc := 67) cx (hM 9 _ rfl v0) tw_1321 dX9_readsProgram_67 ?_
    have q70 := h.1
    have h := h.2
    refine gg_iast (pc := 70) cx (hM 54 _ rfl v0) (fun _ _ => rfl) q70 dX9_readsProgram_70 ?_
    refine gg_mem (fun M70 eM70 => ?_)
    have h := h M70 eM70
    refine gg_aload_n (pc := 71) cx 0 rfl dX9_readsProgram_71 rfl ?_
    refine gg_aload_n (pc := 72) cx 0 rfl dX9_readsProgram_72 rfl ?_
    refine gf_Model_at (pc := 73) cx (hM 9 _ rfl v0) tw_1317 dX9_readsProgram_73 ?_
    refine gg_callVi (pc := 76) cx cal_X9_letter calv_X9_letter (ct_X9_letter cx.tr hM v0 h) tw_1218 (hM 9 _ rfl v0) rfl rfl rfl (st := []) rfl (Nat.le_of_ble_eq_true rfl) ⟨Nat.le_of_ble_eq_true rfl, Nat.le_of_ble_eq_true rfl⟩ ⟨Nat.le_of_ble_eq_true rfl, Nat.le_of_ble_eq_true rfl⟩ dX9_readsProgram_76 (fun r76 M76 h => ?_)
    refine gg_bipush (pc := 79) cx (v := 58) dX9_readsProgram_79 (by decide) ?_
    refine gg_icmp_ne (pc := 81) cx (tgt := 104) dX9_readsProgram_81 (by decide) (fun c81 => ?_) (fun c81 => ?_)
    · have h := g_if c81 h
      exact wk_X9_readsProgram_b104 cx hM hQ v0 h
    · have h := g_it c81 h
      refine gg_aload_n (pc := 84) cx 0 rfl dX9_readsProgram_84 rfl ?_
      refine gg_dup (pc := 85) cx dX9_readsProgram_85 rfl ?_
      refine gf_Model_at (pc := 86) cx (hM 9 _ rfl v0) tw_1317 dX9_readsProgram_86 ?_
      refine gg_iconst (pc := 89) cx (v := 1) dX9_readsProgram_89 (by decide) ?_
      refine gg_iadd (pc := 90) cx dX9_readsProgram_90 ?_
      refine gp_Model_at (pc := 91) cx (hM 9 _ rfl v0) tw_1317 dX9_readsProgram_91 ?_
      refine gg_mem (fun M91 eM91 => ?_)
      have h := h M91 eM91
      refine gg_aload_n (pc := 94) cx 0 rfl dX9_readsProgram_94 rfl ?_
      refine gg_iconst (pc := 95) cx (v := 1) dX9_readsProgram_95 (by decide) ?_
      refine gg_callVi (pc := 96) cx cal_X9_readsExpression calv_X9_readsExpression (ct_X9_readsExpression cx.tr hM v0 h) tw_1231 (hM 9 _ rfl v0) rfl rfl rfl (st := []) rfl (Nat.le_of_ble_eq_true rfl) ⟨Nat.le_of_ble_eq_true rfl, Nat.le_of_ble_eq_true rfl⟩ ⟨Nat.le_of_ble_eq_true rfl, Nat.le_of_ble_eq_true rfl⟩ dX9_readsProgram_96 (fun r96 M96 h => ?_)
      refine gg_if_ne (pc := 99) cx (tgt := 104) dX9_readsProgram_99 (by decide) (fun c99 => ?_) (fun c99 => ?_)
      · have h := g_if c99 h
        exact wk_X9_readsProgram_b104 cx hM hQ v0 h
      · have h := g_it c99 h
        refine gg_iconst (pc := 102) cx (v := 0) dX9_readsProgram_102 (by decide) ?_
        exact gg_zret (pc := 103) cx hQ rfl h dX9_readsProgram_103
  · have h := g_it c21 h
    refine gg_iconst (pc := 24) cx (v := 0) dX9_readsProgram_24 (by decide) ?_
    exact gg_zret (pc := 25) cx hQ rfl h dX9_readsProgram_25
set_option maxRecDepth 100000 in
set_option maxHeartbeats 4000000 in
theorem wk_X9_readsNumber_L7 {t : gT} {X : gX} (cx : g_Cx t X cX9_readsNumber 3 RX9 (some .int)) (hM : g_hM t) {K : Int32 → gM → Prop} (hQ : gXQ X = MQ (gXb X) (va_Qi K (g_B t) (g_A t)) (gXa X) (gXs X) rm_X9_readsNumber.cells rm_X9_readsNumber.slots (g_A t)) (f : Nat) : ∀ (o0 : Nat) (x1 : Int32) (x2 : Int32) (M : gM), o0 < 1 → wp_X9_readsNumber_L7 K f o0 x1 x2 M → G t rm_X9_readsNumber X 3 0 0 M [(0, .ref (gAd t 9 o0)), (1, .int x1), (2, .int x2)] [] 7 := by
  induction f with
  | zero => intro _ _ _ _ _ _; exact False.elim (by assumption)
  | succ f ih =>
    intro o0 x1 x2 M v0 h
    refine gg_aload_n (pc := 7) cx 0 rfl dX9_readsNumber_7 rfl ?_
    refine gg_aload_n (pc := 8) cx 0 rfl dX9_readsNumber_8 rfl ?_
    refine gf_Model_at (pc := 9) cx (hM 9 _ rfl v0) tw_1317 dX9_readsNumber_9 ?_
    refine gg_callVi (pc := 12) cx cal_X9_isDigit calv_X9_isDigit (ct_X9_isDigit cx.tr hM v0 h) tw_1214 (hM 9 _ rfl v0) rfl rfl rfl (st := []) rfl (Nat.le_of_ble_eq_true rfl) ⟨Nat.le_of_ble_eq_true rfl, Nat.le_of_ble_eq_true rfl⟩ ⟨Nat.le_of_ble_eq_true rfl, Nat.le_of_ble_eq_true rfl⟩ dX9_readsNumber_12 (fun r12 M12 h => ?_)
    refine gg_if_eq (pc := 15) cx (tgt := 61) dX9_readsNumber_15 (by decide) (fun c15 => ?_) (fun c15 => ?_)
    · have h := g_it c15 h
      refine gg_aload_n (pc := 61) cx 0 rfl dX9_readsNumber_61 rfl ?_
      refine gf_Model_at (pc := 62) cx (hM 9 _ rfl v0) tw_1317 dX9_readsNumber_62 ?_
      refine gg_iload_n (pc := 65) cx 1 rfl dX9_readsNumber_65 rfl ?_
      refine gg_icmp_ne (pc := 66) cx (tgt := 73) dX9_readsNumber_66 (by decide) (fun c66 => ?_) (fun c66 => ?_)
      · have h := g_if c66 h
        refine gg_iload_n (pc := 73) cx 2 rfl dX9_readsNumber_73 rfl ?_
        exact gg_iret (pc := 74) cx hQ h dX9_readsNumber_74
      · have h := g_it c66 h
        refine gg_iconst (pc := 69) cx (v := (-1)) dX9_readsNumber_69 (by decide) ?_
        refine gg_goto (pc := 70) cx (tgt := 74) dX9_readsNumber_70 (by decide) ?_
        exact gg_iret (pc := 74) cx hQ h dX9_readsNumber_74
    · have h := g_if c15 h
      refine gg_aload_n (pc := 18) cx 0 rfl dX9_readsNumber_18 rfl ?_
      refine gf_Model_at (pc := 19) cx (hM 9 _ rfl v0) tw_1317 dX9_readsNumber_19 ?_
      refine gg_iload_n (pc := 22) cx 1 rfl dX9_readsNumber_22 rfl ?_
      refine gg_isub (pc := 23) cx dX9_readsNumber_23 ?_
      refine gg_iconst (pc := 24) cx (v := 4) dX9_readsNumber_24 (by decide) ?_
      refine gg_icmp_ne (pc := 25) cx (tgt := 30) dX9_readsNumber_25 (by decide) (fun c25 => ?_) (fun c25 => ?_)
      · have h := g_if c25 h
        refine gg_bipush (pc := 30) cx (v := 10) dX9_readsNumber_30 (by decide) ?_
        refine gg_iload_n (pc := 32) cx 2 rfl dX9_readsNumber_32 rfl ?_
        refine gg_imul (pc := 33) cx dX9_readsNumber_33 ?_
        refine gg_aload_n (pc := 34) cx 0 rfl dX9_readsNumber_34 rfl ?_
        refine gf_Model_source (pc := 35) cx (hM 9 _ rfl v0) tw_1315 dX9_readsNumber_35 ?_
        refine gg_aload_n (pc := 38) cx 0 rfl dX9_readsNumber_38 rfl ?_
        refine gf_Model_at (pc := 39) cx (hM 9 _ rfl v0) tw_1317 dX9_readsNumber_39 ?_
        have q42 := h.1
        have h := h.2
        refine gg_iald (pc := 42) cx (hM 53 _ rfl v0) rfl q42 dX9_readsNumber_42 ?_
        refine gg_iadd (pc := 43) cx dX9_readsNumber_43 ?_
        refine gg_bipush (pc := 44) cx (v := 48) dX9_readsNumber_44 (by decide) ?_
        refine gg_isub (pc := 46) cx dX9_readsNumber_46 ?_
        refine gg_topi (fun n47 en47 => ?_)
        have h := h n47 en47
        refine gg_istore_n (pc := 47) cx [(2, .int n47), (0, .ref (gAd t 9 o0)), (1, .int x1)] dX9_readsNumber_47 rfl (by decide) rfl ?_
        refine gg_aload_n (pc := 48) cx 1 rfl dX9_readsNumber_48 rfl ?_
        refine gg_dup (pc := 49) cx dX9_readsNumber_49 rfl ?_
        refine gf_Model_at (pc := 50) cx (hM 9 _ rfl v0) tw_1317 dX9_readsNumber_50 ?_
        refine gg_iconst (pc := 53) cx (v := 1) dX9_readsNumber_53 (by decide) ?_
        refine gg_iadd (pc := 54) cx dX9_readsNumber_54 ?_
        refine gp_Model_at (pc := 55) cx (hM 9 _ rfl v0) tw_1317 dX9_readsNumber_55 ?_
        refine gg_mem (fun M55 eM55 => ?_)
        have h := h M55 eM55
        refine gg_goto (pc := 58) cx (tgt := 7) dX9_readsNumber_58 (by decide) ?_
        refine gg_lv (lv' := [(0, .ref (gAd t 9 o0)), (1, .int x1), (2, .int n47)]) [1, 2, 0] rfl ?_
        exact ih o0 x1 n47 M55 v0 h
      · have h := g_it c25 h
        refine gg_iconst (pc := 28) cx (v := (-1)) dX9_readsNumber_28 (by decide) ?_
        exact gg_iret (pc := 29) cx hQ h dX9_readsNumber_29
theorem cal_X9_readsNumber : g_Cal yX9_readsNumber cX9_readsNumber 3 (some .int) 0 := ⟨tw_17, tw_1291, by decide, by decide, by decide +kernel⟩
theorem calv_X9_readsNumber : g_CalV yX9_readsNumber := ⟨tw_1290, ts_42⟩
set_option maxRecDepth 100000 in
set_option maxHeartbeats 4000000 in
theorem ct_X9_readsNumber {l : Launch} (hl : l.stackTraces = false) {t : gT} (hM : g_hM t) {o0 : Nat} (v0 : o0 < 1) {M : gM} {K : Int32 → gM → Prop} (h : wp_X9_readsNumber o0 M K) : Met l yX9_readsNumber (g_y yX9_readsNumber cX9_readsNumber 3 (some .int)) rm_X9_readsNumber (va_Pc [.ref (gAd t 9 o0)] (g_Pre t M)) (va_Qi K (g_B t) (g_A t)) rm_X9_readsNumber.cells rm_X9_readsNumber.slots (g_A t) := by
  refine g_met hl rfl (Nat.le_of_ble_eq_true rfl) (fun X hlX cx hQ => ?_)
  subst hlX
  refine gg_aload_n (pc := 0) cx 0 rfl dX9_readsNumber_0 rfl ?_
  refine gf_Model_at (pc := 1) cx (hM 9 _ rfl v0) tw_1317 dX9_readsNumber_1 ?_
  refine gg_topi (fun n4 en4 => ?_)
  have h := h n4 en4
  refine gg_istore_n (pc := 4) cx [(1, .int n4), (0, .ref (gAd t 9 o0))] dX9_readsNumber_4 rfl (by decide) rfl ?_
  refine gg_iconst (pc := 5) cx (v := 0) dX9_readsNumber_5 (by decide) ?_
  refine gg_istore_n (pc := 6) cx [(2, .int 0), (1, .int n4), (0, .ref (gAd t 9 o0))] dX9_readsNumber_6 rfl (by decide) rfl ?_
  refine gg_lv (lv' := [(0, .ref (gAd t 9 o0)), (1, .int n4), (2, .int 0)]) [2, 1, 0] rfl ?_
  obtain ⟨f7, h⟩ := h
  exact wk_X9_readsNumber_L7 cx hM hQ f7 o0 n4 0 M v0 h
theorem cal_X9_readsShaper : g_Cal yX9_readsShaper cX9_readsShaper 5 (some .boolean) 1 := ⟨tw_17, tw_1287, by decide, by decide, by decide +kernel⟩
theorem calv_X9_readsShaper : g_CalV yX9_readsShaper := ⟨tw_1286, ts_41⟩
set_option maxRecDepth 100000 in
set_option maxHeartbeats 4000000 in
theorem ct_X9_readsShaper {l : Launch} (hl : l.stackTraces = false) {t : gT} (hM : g_hM t) {o0 : Nat} {x1 : Int32} (v0 : o0 < 1) {M : gM} {K : Int32 → gM → Prop} (h : wp_X9_readsShaper o0 x1 M K) : Met l yX9_readsShaper (g_y yX9_readsShaper cX9_readsShaper 5 (some .boolean)) rm_X9_readsShaper (va_Pc [.ref (gAd t 9 o0), .int x1] (g_Pre t M)) (va_Qi K (g_B t) (g_A t)) rm_X9_readsShaper.cells rm_X9_readsShaper.slots (g_A t) := by
  refine g_met hl rfl (Nat.le_of_ble_eq_true rfl) (fun X hlX cx hQ => ?_)
  subst hlX
  refine gg_aload_n (pc := 0) cx 0 rfl dX9_readsShaper_0 rfl ?_
  refine gg_dup (pc := 1) cx dX9_readsShaper_1 rfl ?_
  refine gf_Model_at (pc := 2) cx (hM 9 _ rfl v0) tw_1317 dX9_readsShaper_2 ?_
  refine gg_iconst (pc := 5) cx (v := 1) dX9_readsShaper_5 (by decide) ?_
  refine gg_iadd (pc := 6) cx dX9_readsShaper_6 ?_
  refine gp_Model_at (pc := 7) cx (hM 9 _ rfl v0) tw_1317 dX9_readsShaper_7 ?_
  refine gg_mem (fun M7 eM7 => ?_)
  have h := h M7 eM7
  refine gg_aload_n (pc := 10) cx 0 rfl dX9_readsShaper_10 rfl ?_
  refine gf_Model_at (pc := 11) cx (hM 9 _ rfl v0) tw_1317 dX9_readsShaper_11 ?_
  refine gg_topi (fun n14 en14 => ?_)
  have h := h n14 en14
  refine gg_istore_n (pc := 14) cx [(2, .int n14), (0, .ref (gAd t 9 o0)), (1, .int x1)] dX9_readsShaper_14 rfl (by decide) rfl ?_
  refine gg_aload_n (pc := 15) cx 1 rfl dX9_readsShaper_15 rfl ?_
  refine gg_callVi (pc := 16) cx cal_X9_readsNumber calv_X9_readsNumber (ct_X9_readsNumber cx.tr hM v0 h) tw_1288 (hM 9 _ rfl v0) rfl rfl rfl (st := []) rfl (Nat.le_of_ble_eq_true rfl) ⟨Nat.le_of_ble_eq_true rfl, Nat.le_of_ble_eq_true rfl⟩ ⟨Nat.le_of_ble_eq_true rfl, Nat.le_of_ble_eq_true rfl⟩ dX9_readsShaper_16 (fun r16 M16 h => ?_)
  refine gg_istore_n (pc := 19) cx [(3, .int r16), (2, .int n14), (0, .ref (gAd t 9 o0)), (1, .int x1)] dX9_readsShaper_19 rfl (by decide) rfl ?_
  refine gg_iload_n (pc := 20) cx 0 rfl dX9_readsShaper_20 rfl ?_
  refine gg_if_ge (pc := 21) cx (tgt := 26) dX9_readsShaper_21 (by decide) (fun c21 => ?_) (fun c21 => ?_)
  · have h := g_it c21 h
    refine gg_iload_n (pc := 26) cx 0 rfl dX9_readsShaper_26 rfl ?_
    refine gg_if_ne (pc := 27) cx (tgt := 37) dX9_readsShaper_27 (by decide) (fun c27 => ?_) (fun c27 => ?_)
    · have h := g_if c27 h
      refine gg_aload_n (pc := 37) cx 2 rfl dX9_readsShaper_37 rfl ?_
      refine gg_aload_n (pc := 38) cx 2 rfl dX9_readsShaper_38 rfl ?_
      refine gf_Model_at (pc := 39) cx (hM 9 _ rfl v0) tw_1317 dX9_readsShaper_39 ?_
      refine gg_callVi (pc := 42) cx cal_X9_letter calv_X9_letter (ct_X9_letter cx.tr hM v0 h) tw_1218 (hM 9 _ rfl v0) rfl rfl rfl (st := []) rfl (Nat.le_of_ble_eq_true rfl) ⟨Nat.le_of_ble_eq_true rfl, Nat.le_of_ble_eq_true rfl⟩ ⟨Nat.le_of_ble_eq_true rfl, Nat.le_of_ble_eq_true rfl⟩ dX9_readsShaper_42 (fun r42 M42 h => ?_)
      refine gg_bipush (pc := 45) cx (v := 44) dX9_readsShaper_45 (by decide) ?_
      refine gg_icmp_eq (pc := 47) cx (tgt := 52) dX9_readsShaper_47 (by decide) (fun c47 => ?_) (fun c47 => ?_)
      · have h := g_it c47 h
        refine gg_aload_n (pc := 52) cx 2 rfl dX9_readsShaper_52 rfl ?_
        refine gg_dup (pc := 53) cx dX9_readsShaper_53 rfl ?_
        refine gf_Model_at (pc := 54) cx (hM 9 _ rfl v0) tw_1317 dX9_readsShaper_54 ?_
        refine gg_iconst (pc := 57) cx (v := 1) dX9_readsShaper_57 (by decide) ?_
        refine gg_iadd (pc := 58) cx dX9_readsShaper_58 ?_
        refine gp_Model_at (pc := 59) cx (hM 9 _ rfl v0) tw_1317 dX9_readsShaper_59 ?_
        refine gg_mem (fun M59 eM59 => ?_)
        have h := h M59 eM59
        refine gg_aload_n (pc := 62) cx 2 rfl dX9_readsShaper_62 rfl ?_
        refine gg_callVi (pc := 63) cx cal_X9_readsNumber calv_X9_readsNumber (ct_X9_readsNumber cx.tr hM v0 h) tw_1288 (hM 9 _ rfl v0) rfl rfl rfl (st := []) rfl (Nat.le_of_ble_eq_true rfl) ⟨Nat.le_of_ble_eq_true rfl, Nat.le_of_ble_eq_true rfl⟩ ⟨Nat.le_of_ble_eq_true rfl, Nat.le_of_ble_eq_true rfl⟩ dX9_readsShaper_63 (fun r63 M63 h => ?_)
        refine gg_istore (pc := 66) cx [(4, .int r63), (3, .int r16), (2, .int n14), (0, .ref (gAd t 9 o0)), (1, .int x1)] dX9_readsShaper_66 (by decide) rfl ?_
        refine gg_aload_n (pc := 68) cx 3 rfl dX9_readsShaper_68 rfl ?_
        refine gf_Model_read (pc := 69) cx (hM 9 _ rfl v0) tw_1318 dX9_readsShaper_69 ?_
        refine gg_bipush (pc := 72) cx (v := 12) dX9_readsShaper_72 (by decide) ?_
        refine gg_iload_n (pc := 74) cx 4 rfl dX9_readsShaper_74 rfl ?_
        refine gg_imul (pc := 75) cx dX9_readsShaper_75 ?_
        refine gg_iconst (pc := 76) cx (v := 2) dX9_readsShaper_76 (by decide) ?_
        refine gg_iadd (pc := 77) cx dX9_readsShaper_77 ?_
        refine gg_iload_n (pc := 78) cx 1 rfl dX9_readsShaper_78 rfl ?_
        have q79 := h.1
        have h := h.2
        refine gg_iast (pc := 79) cx (hM 54 _ rfl v0) (fun _ _ => rfl) q79 dX9_readsShaper_79 ?_
        refine gg_mem (fun M79 eM79 => ?_)
        have h := h M79 eM79
        refine gg_aload_n (pc := 80) cx 3 rfl dX9_readsShaper_80 rfl ?_
        refine gf_Model_read (pc := 81) cx (hM 9 _ rfl v0) tw_1318 dX9_readsShaper_81 ?_
        refine gg_bipush (pc := 84) cx (v := 12) dX9_readsShaper_84 (by decide) ?_
        refine gg_iload_n (pc := 86) cx 4 rfl dX9_readsShaper_86 rfl ?_
        refine gg_imul (pc := 87) cx dX9_readsShaper_87 ?_
        refine gg_iconst (pc := 88) cx (v := 3) dX9_readsShaper_88 (by decide) ?_
        refine gg_iadd (pc := 89) cx dX9_readsShaper_89 ?_
        refine gg_iload (pc := 90) cx 0 rfl dX9_readsShaper_90 ?_
        have q92 := h.1
        have h := h.2
        refine gg_iast (pc := 92) cx (hM 54 _ rfl v0) (fun _ _ => rfl) q92 dX9_readsShaper_92 ?_
        refine gg_mem (fun M92 eM92 => ?_)
        have h := h M92 eM92
        refine gg_iload (pc := 93) cx 0 rfl dX9_readsShaper_93 ?_
        refine gg_if_lt (pc := 95) cx (tgt := 102) dX9_readsShaper_95 (by decide) (fun c95 => ?_) (fun c95 => ?_)
        · have h := g_it c95 h
          refine gg_iconst (pc := 102) cx (v := 0) dX9_readsShaper_102 (by decide) ?_
          exact gg_zret (pc := 103) cx hQ rfl h dX9_readsShaper_103
        · have h := g_if c95 h
          refine gg_iconst (pc := 98) cx (v := 1) dX9_readsShaper_98 (by decide) ?_
          refine gg_goto (pc := 99) cx (tgt := 103) dX9_readsShaper_99 (by decide) ?_
          exact gg_zret (pc := 103) cx hQ rfl h dX9_readsShaper_103
      · have h := g_if c47 h
        refine gg_iconst (pc := 50) cx (v := 0) dX9_readsShaper_50 (by decide) ?_
        exact gg_zret (pc := 51) cx hQ rfl h dX9_readsShaper_51
    · have h := g_it c27 h
      refine gg_aload_n (pc := 30) cx 2 rfl dX9_readsShaper_30 rfl ?_
      refine gg_iload_n (pc := 31) cx 1 rfl dX9_readsShaper_31 rfl ?_
      refine gp_Model_at (pc := 32) cx (hM 9 _ rfl v0) tw_1317 dX9_readsShaper_32 ?_
      refine gg_mem (fun M32 eM32 => ?_)
      have h := h M32 eM32
      refine gg_iconst (pc := 35) cx (v := 0) dX9_readsShaper_35 (by decide) ?_
      exact gg_zret (pc := 36) cx hQ rfl h dX9_readsShaper_36
  · have h := g_if c21 h
    refine gg_iconst (pc := 24) cx (v := 0) dX9_readsShaper_24 (by decide) ?_
    exact gg_zret (pc := 25) cx hQ rfl h dX9_readsShaper_25
set_option maxRecDepth 100000 in
set_option maxHeartbeats 4000000 in
theorem wk_X9_readsParent_b48 {t : gT} {X : gX} (cx : g_Cx t X cX9_readsParent 4 RX9 (some .int)) (hM : g_hM t) {K : Int32 → gM → Prop} (hQ : gXQ X = MQ (gXb X) (va_Qi K (g_B t) (g_A t)) (gXa X) (gXs X) rm_X9_readsParent.cells rm_X9_readsParent.slots (g_A t)) {o0 : Nat} {x1 : Int32} {x2 : Int32} {x3 : Int32} {M : gM} (v0 : o0 < 1) (h : wp_X9_readsParent_b48 K o0 x1 x2 x3 M) : G t rm_X9_readsParent X 4 0 0 M [(0, .ref (gAd t 9 o0)), (1, .int x1), (2, .int x2), (3, .int x3)] [] 48 := by
  refine gg_iload_n (pc := 48) cx 3 rfl dX9_readsParent_48 rfl ?_
  refine gg_if_eq (pc := 49) cx (tgt := 72) dX9_readsParent_49 (by decide) (fun c49 => ?_) (fun c49 => ?_)
  · have h := g_it c49 h
    refine gg_iconst (pc := 72) cx (v := (-1)) dX9_readsParent_72 (by decide) ?_
    exact gg_iret (pc := 73) cx hQ h dX9_readsParent_73
  · have h := g_if c49 h
    refine gg_aload_n (pc := 52) cx 0 rfl dX9_readsParent_52 rfl ?_
    refine gg_aload_n (pc := 53) cx 0 rfl dX9_readsParent_53 rfl ?_
    refine gf_Model_at (pc := 54) cx (hM 9 _ rfl v0) tw_1317 dX9_readsParent_54 ?_
    refine gg_iload_n (pc := 57) cx 3 rfl dX9_readsParent_57 rfl ?_
    refine gg_iadd (pc := 58) cx dX9_readsParent_58 ?_
    refine gg_callVi (pc := 59) cx cal_X9_letter calv_X9_letter (ct_X9_letter cx.tr hM v0 h) tw_1218 (hM 9 _ rfl v0) rfl rfl rfl (st := []) rfl (Nat.le_of_ble_eq_true rfl) ⟨Nat.le_of_ble_eq_true rfl, Nat.le_of_ble_eq_true rfl⟩ ⟨Nat.le_of_ble_eq_true rfl, Nat.le_of_ble_eq_true rfl⟩ dX9_readsParent_59 (fun r59 M59 h => ?_)
    refine gg_bipush (pc := 62) cx (v := 60) dX9_readsParent_62 (by decide) ?_
    refine gg_icmp_ne (pc := 64) cx (tgt := 72) dX9_readsParent_64 (by decide) (fun c64 => ?_) (fun c64 => ?_)
    · have h := g_if c64 h
      refine gg_iconst (pc := 72) cx (v := (-1)) dX9_readsParent_72 (by decide) ?_
      exact gg_iret (pc := 73) cx hQ h dX9_readsParent_73
    · have h := g_it c64 h
      refine gg_iload_n (pc := 67) cx 2 rfl dX9_readsParent_67 rfl ?_
      refine gg_iload_n (pc := 68) cx 1 rfl dX9_readsParent_68 rfl ?_
      refine gg_icmp_lt (pc := 69) cx (tgt := 74) dX9_readsParent_69 (by decide) (fun c69 => ?_) (fun c69 => ?_)
      · have h := g_it c69 h
        refine gg_aload_n (pc := 74) cx 0 rfl dX9_readsParent_74 rfl ?_
        refine gg_dup (pc := 75) cx dX9_readsParent_75 rfl ?_
        refine gf_Model_at (pc := 76) cx (hM 9 _ rfl v0) tw_1317 dX9_readsParent_76 ?_
        refine gg_iload_n (pc := 79) cx 3 rfl dX9_readsParent_79 rfl ?_
        refine gg_iconst (pc := 80) cx (v := 1) dX9_readsParent_80 (by decide) ?_
        refine gg_iadd (pc := 81) cx dX9_readsParent_81 ?_
        refine gg_iadd (pc := 82) cx dX9_readsParent_82 ?_
        refine gp_Model_at (pc := 83) cx (hM 9 _ rfl v0) tw_1317 dX9_readsParent_83 ?_
        refine gg_mem (fun M83 eM83 => ?_)
        have h := h M83 eM83
        refine gg_iload_n (pc := 86) cx 2 rfl dX9_readsParent_86 rfl ?_
        exact gg_iret (pc := 87) cx hQ h dX9_readsParent_87
      · have h := g_if c69 h
        refine gg_iconst (pc := 72) cx (v := (-1)) dX9_readsParent_72 (by decide) ?_
        exact gg_iret (pc := 73) cx hQ h dX9_readsParent_73
set_option maxRecDepth 100000 in
set_option maxHeartbeats 4000000 in
theorem wk_X9_readsParent_L4 {t : gT} {X : gX} (cx : g_Cx t X cX9_readsParent 4 RX9 (some .int)) (hM : g_hM t) {K : Int32 → gM → Prop} (hQ : gXQ X = MQ (gXb X) (va_Qi K (g_B t) (g_A t)) (gXa X) (gXs X) rm_X9_readsParent.cells rm_X9_readsParent.slots (g_A t)) (f : Nat) : ∀ (o0 : Nat) (x1 : Int32) (x2 : Int32) (x3 : Int32) (M : gM), o0 < 1 → wp_X9_readsParent_L4 K f o0 x1 x2 x3 M → G t rm_X9_readsParent X 4 0 0 M [(0, .ref (gAd t 9 o0)), (1, .int x1), (2, .int x2), (3, .int x3)] [] 4 := by
  induction f with
  | zero => intro _ _ _ _ _ _ _; exact False.elim (by assumption)
  | succ f ih =>
    intro o0 x1 x2 x3 M v0 h
    refine gg_iload_n (pc := 4) cx 3 rfl dX9_readsParent_4 rfl ?_
    refine gg_iconst (pc := 5) cx (v := 2) dX9_readsParent_5 (by decide) ?_
    refine gg_icmp_ge (pc := 6) cx (tgt := 48) dX9_readsParent_6 (by decide) (fun c6 => ?_) (fun c6 => ?_)
    · have h := g_it c6 h
      exact wk_X9_readsParent_b48 cx hM hQ v0 h
    · have h := g_if c6 h
      refine gg_aload_n (pc := 9) cx 0 rfl dX9_readsParent_9 rfl ?_
      refine gg_aload_n (pc := 10) cx 0 rfl dX9_readsParent_10 rfl ?_
      refine gf_Model_at (pc := 11) cx (hM 9 _ rfl v0) tw_1317 dX9_readsParent_11 ?_
      refine gg_iload_n (pc := 14) cx 3 rfl dX9_readsParent_14 rfl ?_
      refine gg_iadd (pc := 15) cx dX9_readsParent_15 ?_
      refine gg_callVi (pc := 16) cx cal_X9_isDigit calv_X9_isDigit (ct_X9_isDigit cx.tr hM v0 h) tw_1214 (hM 9 _ rfl v0) rfl rfl rfl (st := []) rfl (Nat.le_of_ble_eq_true rfl) ⟨Nat.le_of_ble_eq_true rfl, Nat.le_of_ble_eq_true rfl⟩ ⟨Nat.le_of_ble_eq_true rfl, Nat.le_of_ble_eq_true rfl⟩ dX9_readsParent_16 (fun r16 M16 h => ?_)
      refine gg_if_eq (pc := 19) cx (tgt := 48) dX9_readsParent_19 (by decide) (fun c19 => ?_) (fun c19 => ?_)
      · have h := g_it c19 h
        exact wk_X9_readsParent_b48 cx hM hQ v0 h
      · have h := g_if c19 h
        refine gg_bipush (pc := 22) cx (v := 10) dX9_readsParent_22 (by decide) ?_
        refine gg_iload_n (pc := 24) cx 2 rfl dX9_readsParent_24 rfl ?_
        refine gg_imul (pc := 25) cx dX9_readsParent_25 ?_
        refine gg_aload_n (pc := 26) cx 0 rfl dX9_readsParent_26 rfl ?_
        refine gf_Model_source (pc := 27) cx (hM 9 _ rfl v0) tw_1315 dX9_readsParent_27 ?_
        refine gg_aload_n (pc := 30) cx 0 rfl dX9_readsParent_30 rfl ?_
        refine gf_Model_at (pc := 31) cx (hM 9 _ rfl v0) tw_1317 dX9_readsParent_31 ?_
        refine gg_iload_n (pc := 34) cx 3 rfl dX9_readsParent_34 rfl ?_
        refine gg_iadd (pc := 35) cx dX9_readsParent_35 ?_
        have q36 := h.1
        have h := h.2
        refine gg_iald (pc := 36) cx (hM 53 _ rfl v0) rfl q36 dX9_readsParent_36 ?_
        refine gg_iadd (pc := 37) cx dX9_readsParent_37 ?_
        refine gg_bipush (pc := 38) cx (v := 48) dX9_readsParent_38 (by decide) ?_
        refine gg_isub (pc := 40) cx dX9_readsParent_40 ?_
        refine gg_topi (fun n41 en41 => ?_)
        have h := h n41 en41
        refine gg_istore_n (pc := 41) cx [(2, .int n41), (0, .ref (gAd t 9 o0)), (1, .int x1), (3, .int x3)] dX9_readsParent_41 rfl (by decide) rfl ?_
        obtain ⟨n42, en42⟩ : ∃ z : Int32, z = x3 + Int32.ofInt (1) := ⟨_, rfl⟩
        have h := h n42 en42
        refine gg_iinc (pc := 42) cx 3 [(3, .int n42), (2, .int n41), (0, .ref (gAd t 9 o0)), (1, .int x1)] dX9_readsParent_42 rfl en42.symm (by decide) rfl ?_
        refine gg_goto (pc := 45) cx (tgt := 4) dX9_readsParent_45 (by decide) ?_
        refine gg_lv (lv' := [(0, .ref (gAd t 9 o0)), (1, .int x1), (2, .int n41), (3, .int n42)]) [2, 3, 1, 0] rfl ?_
        exact ih o0 x1 n41 n42 M16 v0 h
theorem cal_X9_readsParent : g_Cal yX9_readsParent cX9_readsParent 4 (some .int) 1 := ⟨tw_17, tw_1213, by decide, by decide, by decide +kernel⟩
theorem calv_X9_readsParent : g_CalV yX9_readsParent := ⟨tw_1212, ts_29⟩
set_option maxRecDepth 100000 in
set_option maxHeartbeats 4000000 in
theorem ct_X9_readsParent {l : Launch} (hl : l.stackTraces = false) {t : gT} (hM : g_hM t) {o0 : Nat} {x1 : Int32} (v0 : o0 < 1) {M : gM} {K : Int32 → gM → Prop} (h : wp_X9_readsParent o0 x1 M K) : Met l yX9_readsParent (g_y yX9_readsParent cX9_readsParent 4 (some .int)) rm_X9_readsParent (va_Pc [.ref (gAd t 9 o0), .int x1] (g_Pre t M)) (va_Qi K (g_B t) (g_A t)) rm_X9_readsParent.cells rm_X9_readsParent.slots (g_A t) := by
  refine g_met hl rfl (Nat.le_of_ble_eq_true rfl) (fun X hlX cx hQ => ?_)
  subst hlX
  refine gg_iconst (pc := 0) cx (v := 0) dX9_readsParent_0 (by decide) ?_
  refine gg_istore_n (pc := 1) cx [(2, .int 0), (0, .ref (gAd t 9 o0)), (1, .int x1)] dX9_readsParent_1 rfl (by decide) rfl ?_
  refine gg_iconst (pc := 2) cx (v := 0) dX9_readsParent_2 (by decide) ?_
  refine gg_istore_n (pc := 3) cx [(3, .int 0), (2, .int 0), (0, .ref (gAd t 9 o0)), (1, .int x1)] dX9_readsParent_3 rfl (by decide) rfl ?_
  refine gg_lv (lv' := [(0, .ref (gAd t 9 o0)), (1, .int x1), (2, .int 0), (3, .int 0)]) [2, 3, 1, 0] rfl ?_
  obtain ⟨f4, h⟩ := h
  exact wk_X9_readsParent_L4 cx hM hQ f4 o0 x1 0 0 M v0 h
set_option maxRecDepth 100000 in
set_option maxHeartbeats 4000000 in
theorem wk_X9_readsNode_b272 {t : gT} {X : gX} (cx : g_Cx t X cX9_readsNode 5 RX9 (some .boolean)) (hM : g_hM t) {K : Int32 → gM → Prop} (hQ : gXQ X = MQ (gXb X) (va_Qi K (g_B t) (g_A t)) (gXa X) (gXs X) rm_X9_readsNode.cells rm_X9_readsNode.slots (g_A t)) {o0 : Nat} {x2 : Int32} {os0 : Nat} {xs1 : Int32} {xs2 : Int32} {M : gM} (v0 : o0 < 1) (vs0 : os0 < 1) (h : wp_X9_readsNode_b272 K o0 x2 os0 xs1 xs2 M) : G t rm_X9_readsNode X 5 0 0 M [(0, .ref (gAd t 9 o0)), (2, .int x2)] [.int xs2, .int xs1, .ref (gAd t 9 os0)] 272 := by
  refine gg_iadd (pc := 272) cx dX9_readsNode_272 ?_
  refine gp_Model_at (pc := 273) cx (hM 9 _ rfl vs0) tw_1317 dX9_readsNode_273 ?_
  refine gg_mem (fun M273 eM273 => ?_)
  have h := h M273 eM273
  refine gg_aload_n (pc := 276) cx 0 rfl dX9_readsNode_276 rfl ?_
  refine gf_Model_at (pc := 277) cx (hM 9 _ rfl v0) tw_1317 dX9_readsNode_277 ?_
  refine gg_aload_n (pc := 280) cx 0 rfl dX9_readsNode_280 rfl ?_
  refine gf_Model_length (pc := 281) cx (hM 9 _ rfl v0) tw_1316 dX9_readsNode_281 ?_
  refine gg_icmp_eq (pc := 284) cx (tgt := 313) dX9_readsNode_284 (by decide) (fun c284 => ?_) (fun c284 => ?_)
  · have h := g_it c284 h
    refine gg_iconst (pc := 313) cx (v := 1) dX9_readsNode_313 (by decide) ?_
    refine gg_goto (pc := 314) cx (tgt := 318) dX9_readsNode_314 (by decide) ?_
    exact gg_zret (pc := 318) cx hQ rfl h dX9_readsNode_318
  · have h := g_if c284 h
    refine gg_aload_n (pc := 287) cx 0 rfl dX9_readsNode_287 rfl ?_
    refine gg_aload_n (pc := 288) cx 0 rfl dX9_readsNode_288 rfl ?_
    refine gf_Model_at (pc := 289) cx (hM 9 _ rfl v0) tw_1317 dX9_readsNode_289 ?_
    refine gg_callVi (pc := 292) cx cal_X9_letter calv_X9_letter (ct_X9_letter cx.tr hM v0 h) tw_1218 (hM 9 _ rfl v0) rfl rfl rfl (st := []) rfl (Nat.le_of_ble_eq_true rfl) ⟨Nat.le_of_ble_eq_true rfl, Nat.le_of_ble_eq_true rfl⟩ ⟨Nat.le_of_ble_eq_true rfl, Nat.le_of_ble_eq_true rfl⟩ dX9_readsNode_292 (fun r292 M292 h => ?_)
    refine gg_bipush (pc := 295) cx (v := 59) dX9_readsNode_295 (by decide) ?_
    refine gg_icmp_eq (pc := 297) cx (tgt := 313) dX9_readsNode_297 (by decide) (fun c297 => ?_) (fun c297 => ?_)
    · have h := g_it c297 h
      refine gg_iconst (pc := 313) cx (v := 1) dX9_readsNode_313 (by decide) ?_
      refine gg_goto (pc := 314) cx (tgt := 318) dX9_readsNode_314 (by decide) ?_
      exact gg_zret (pc := 318) cx hQ rfl h dX9_readsNode_318
    · have h := g_if c297 h
      refine gg_aload_n (pc := 300) cx 0 rfl dX9_readsNode_300 rfl ?_
      refine gg_iload_n (pc := 301) cx 1 rfl dX9_readsNode_301 rfl ?_
      refine gg_aload_n (pc := 302) cx 0 rfl dX9_readsNode_302 rfl ?_
      refine gf_Model_at (pc := 303) cx (hM 9 _ rfl v0) tw_1317 dX9_readsNode_303 ?_
      refine gg_iconst (pc := 306) cx (v := (-1)) dX9_readsNode_306 (by decide) ?_
      refine gg_callVi (pc := 307) cx cal_X9_wrong calv_X9_wrong (ct_X9_wrong cx.tr hM v0 h) tw_1206 (hM 9 _ rfl v0) rfl rfl rfl (st := []) rfl (Nat.le_of_ble_eq_true rfl) ⟨Nat.le_of_ble_eq_true rfl, Nat.le_of_ble_eq_true rfl⟩ ⟨Nat.le_of_ble_eq_true rfl, Nat.le_of_ble_eq_true rfl⟩ dX9_readsNode_307 (fun r307 M307 h => ?_)
      refine gg_if_lt (pc := 310) cx (tgt := 317) dX9_readsNode_310 (by decide) (fun c310 => ?_) (fun c310 => ?_)
      · have h := g_it c310 h
        refine gg_iconst (pc := 317) cx (v := 0) dX9_readsNode_317 (by decide) ?_
        exact gg_zret (pc := 318) cx hQ rfl h dX9_readsNode_318
      · have h := g_if c310 h
        refine gg_iconst (pc := 313) cx (v := 1) dX9_readsNode_313 (by decide) ?_
        refine gg_goto (pc := 314) cx (tgt := 318) dX9_readsNode_314 (by decide) ?_
        exact gg_zret (pc := 318) cx hQ rfl h dX9_readsNode_318
set_option maxRecDepth 100000 in
set_option maxHeartbeats 4000000 in
theorem wk_X9_readsNode_b242 {t : gT} {X : gX} (cx : g_Cx t X cX9_readsNode 5 RX9 (some .boolean)) (hM : g_hM t) {K : Int32 → gM → Prop} (hQ : gXQ X = MQ (gXb X) (va_Qi K (g_B t) (g_A t)) (gXa X) (gXs X) rm_X9_readsNode.cells rm_X9_readsNode.slots (g_A t)) {o0 : Nat} {x1 : Int32} {x2 : Int32} {xs0 : Int32} {M : gM} (v0 : o0 < 1) (h : wp_X9_readsNode_b242 K o0 x1 x2 xs0 M) : G t rm_X9_readsNode X 5 0 0 M [(0, .ref (gAd t 9 o0)), (1, .int x1), (2, .int x2)] [.int xs0] 242 := by
  refine gg_istore (pc := 242) cx [(4, .int xs0), (0, .ref (gAd t 9 o0)), (1, .int x1), (2, .int x2)] dX9_readsNode_242 (by decide) rfl ?_
  refine gg_aload_n (pc := 244) cx 1 rfl dX9_readsNode_244 rfl ?_
  refine gf_Model_read (pc := 245) cx (hM 9 _ rfl v0) tw_1318 dX9_readsNode_245 ?_
  refine gg_bipush (pc := 248) cx (v := 12) dX9_readsNode_248 (by decide) ?_
  refine gg_iload_n (pc := 250) cx 2 rfl dX9_readsNode_250 rfl ?_
  refine gg_imul (pc := 251) cx dX9_readsNode_251 ?_
  refine gg_iconst (pc := 252) cx (v := 1) dX9_readsNode_252 (by decide) ?_
  refine gg_iadd (pc := 253) cx dX9_readsNode_253 ?_
  refine gg_iload (pc := 254) cx 0 rfl dX9_readsNode_254 ?_
  have q256 := h.1
  have h := h.2
  refine gg_iast (pc := 256) cx (hM 54 _ rfl v0) (fun _ _ => rfl) q256 dX9_readsNode_256 ?_
  refine gg_mem (fun M256 eM256 => ?_)
  have h := h M256 eM256
  refine gg_aload_n (pc := 257) cx 1 rfl dX9_readsNode_257 rfl ?_
  refine gg_dup (pc := 258) cx dX9_readsNode_258 rfl ?_
  refine gf_Model_at (pc := 259) cx (hM 9 _ rfl v0) tw_1317 dX9_readsNode_259 ?_
  refine gg_iload (pc := 262) cx 0 rfl dX9_readsNode_262 ?_
  refine gg_if_le (pc := 264) cx (tgt := 271) dX9_readsNode_264 (by decide) (fun c264 => ?_) (fun c264 => ?_)
  · have h := g_it c264 h
    refine gg_iconst (pc := 271) cx (v := 0) dX9_readsNode_271 (by decide) ?_
    refine gg_lv (lv' := [(0, .ref (gAd t 9 o0)), (2, .int x2)]) [1, 3] rfl ?_
    exact wk_X9_readsNode_b272 cx hM hQ v0 v0 h
  · have h := g_if c264 h
    refine gg_iconst (pc := 267) cx (v := 1) dX9_readsNode_267 (by decide) ?_
    refine gg_goto (pc := 268) cx (tgt := 272) dX9_readsNode_268 (by decide) ?_
    refine gg_lv (lv' := [(0, .ref (gAd t 9 o0)), (2, .int x2)]) [1, 3] rfl ?_
    exact wk_X9_readsNode_b272 cx hM hQ v0 v0 h
set_option maxRecDepth 100000 in
set_option maxHeartbeats 4000000 in
theorem wk_X9_readsNode_b190 {t : gT} {X : gX} (cx : g_Cx t X cX9_readsNode 5 RX9 (some .boolean)) (hM : g_hM t) {K : Int32 → gM → Prop} (hQ : gXQ X = MQ (gXb X) (va_Qi K (g_B t) (g_A t)) (gXa X) (gXs X) rm_X9_readsNode.cells rm_X9_readsNode.slots (g_A t)) {o0 : Nat} {x1 : Int32} {x2 : Int32} {M : gM} (v0 : o0 < 1) (h : wp_X9_readsNode_b190 K o0 x1 x2 M) : G t rm_X9_readsNode X 5 0 0 M [(0, .ref (gAd t 9 o0)), (1, .int x1), (2, .int x2)] [] 190 := by
  refine gg_aload_n (pc := 190) cx 0 rfl dX9_readsNode_190 rfl ?_
  refine gg_aload_n (pc := 191) cx 0 rfl dX9_readsNode_191 rfl ?_
  refine gf_Model_at (pc := 192) cx (hM 9 _ rfl v0) tw_1317 dX9_readsNode_192 ?_
  refine gg_callVi (pc := 195) cx cal_X9_letter calv_X9_letter (ct_X9_letter cx.tr hM v0 h) tw_1218 (hM 9 _ rfl v0) rfl rfl rfl (st := []) rfl (Nat.le_of_ble_eq_true rfl) ⟨Nat.le_of_ble_eq_true rfl, Nat.le_of_ble_eq_true rfl⟩ ⟨Nat.le_of_ble_eq_true rfl, Nat.le_of_ble_eq_true rfl⟩ dX9_readsNode_195 (fun r195 M195 h => ?_)
  refine gg_bipush (pc := 198) cx (v := 94) dX9_readsNode_198 (by decide) ?_
  refine gg_icmp_ne (pc := 200) cx (tgt := 207) dX9_readsNode_200 (by decide) (fun c200 => ?_) (fun c200 => ?_)
  · have h := g_if c200 h
    refine gg_aload_n (pc := 207) cx 0 rfl dX9_readsNode_207 rfl ?_
    refine gg_aload_n (pc := 208) cx 0 rfl dX9_readsNode_208 rfl ?_
    refine gf_Model_at (pc := 209) cx (hM 9 _ rfl v0) tw_1317 dX9_readsNode_209 ?_
    refine gg_callVi (pc := 212) cx cal_X9_letter calv_X9_letter (ct_X9_letter cx.tr hM v0 h) tw_1218 (hM 9 _ rfl v0) rfl rfl rfl (st := []) rfl (Nat.le_of_ble_eq_true rfl) ⟨Nat.le_of_ble_eq_true rfl, Nat.le_of_ble_eq_true rfl⟩ ⟨Nat.le_of_ble_eq_true rfl, Nat.le_of_ble_eq_true rfl⟩ dX9_readsNode_212 (fun r212 M212 h => ?_)
    refine gg_bipush (pc := 215) cx (v := 37) dX9_readsNode_215 (by decide) ?_
    refine gg_icmp_ne (pc := 217) cx (tgt := 224) dX9_readsNode_217 (by decide) (fun c217 => ?_) (fun c217 => ?_)
    · have h := g_if c217 h
      refine gg_aload_n (pc := 224) cx 0 rfl dX9_readsNode_224 rfl ?_
      refine gg_aload_n (pc := 225) cx 0 rfl dX9_readsNode_225 rfl ?_
      refine gf_Model_at (pc := 226) cx (hM 9 _ rfl v0) tw_1317 dX9_readsNode_226 ?_
      refine gg_callVi (pc := 229) cx cal_X9_letter calv_X9_letter (ct_X9_letter cx.tr hM v0 h) tw_1218 (hM 9 _ rfl v0) rfl rfl rfl (st := []) rfl (Nat.le_of_ble_eq_true rfl) ⟨Nat.le_of_ble_eq_true rfl, Nat.le_of_ble_eq_true rfl⟩ ⟨Nat.le_of_ble_eq_true rfl, Nat.le_of_ble_eq_true rfl⟩ dX9_readsNode_229 (fun r229 M229 h => ?_)
      refine gg_bipush (pc := 232) cx (v := 38) dX9_readsNode_232 (by decide) ?_
      refine gg_icmp_ne (pc := 234) cx (tgt := 241) dX9_readsNode_234 (by decide) (fun c234 => ?_) (fun c234 => ?_)
      · have h := g_if c234 h
        refine gg_iconst (pc := 241) cx (v := 0) dX9_readsNode_241 (by decide) ?_
        exact wk_X9_readsNode_b242 cx hM hQ v0 h
      · have h := g_it c234 h
        refine gg_iconst (pc := 237) cx (v := 3) dX9_readsNode_237 (by decide) ?_
        refine gg_goto (pc := 238) cx (tgt := 242) dX9_readsNode_238 (by decide) ?_
        exact wk_X9_readsNode_b242 cx hM hQ v0 h
    · have h := g_it c217 h
      refine gg_iconst (pc := 220) cx (v := 2) dX9_readsNode_220 (by decide) ?_
      refine gg_goto (pc := 221) cx (tgt := 242) dX9_readsNode_221 (by decide) ?_
      exact wk_X9_readsNode_b242 cx hM hQ v0 h
  · have h := g_it c200 h
    refine gg_iconst (pc := 203) cx (v := 1) dX9_readsNode_203 (by decide) ?_
    refine gg_goto (pc := 204) cx (tgt := 242) dX9_readsNode_204 (by decide) ?_
    exact wk_X9_readsNode_b242 cx hM hQ v0 h
set_option maxRecDepth 100000 in
set_option maxHeartbeats 4000000 in
theorem wk_X9_readsNode_b85 {t : gT} {X : gX} (cx : g_Cx t X cX9_readsNode 5 RX9 (some .boolean)) (hM : g_hM t) {K : Int32 → gM → Prop} (hQ : gXQ X = MQ (gXb X) (va_Qi K (g_B t) (g_A t)) (gXa X) (gXs X) rm_X9_readsNode.cells rm_X9_readsNode.slots (g_A t)) {o0 : Nat} {x1 : Int32} {x2 : Int32} {M : gM} (v0 : o0 < 1) (h : wp_X9_readsNode_b85 K o0 x1 x2 M) : G t rm_X9_readsNode X 5 0 0 M [(0, .ref (gAd t 9 o0)), (1, .int x1), (2, .int x2)] [] 85 := by
  refine gg_aload_n (pc := 85) cx 0 rfl dX9_readsNode_85 rfl ?_
  refine gf_Model_at (pc := 86) cx (hM 9 _ rfl v0) tw_1317 dX9_readsNode_86 ?_
  refine gg_topi (fun n89 en89 => ?_)
  have h := h n89 en89
  refine gg_istore_n (pc := 89) cx [(3, .int n89), (0, .ref (gAd t 9 o0)), (1, .int x1), (2, .int x2)] dX9_readsNode_89 rfl (by decide) rfl ?_
  refine gg_aload_n (pc := 90) cx 1 rfl dX9_readsNode_90 rfl ?_
  refine gg_iload_n (pc := 91) cx 2 rfl dX9_readsNode_91 rfl ?_
  refine gg_callVi (pc := 92) cx cal_X9_readsProgram calv_X9_readsProgram (ct_X9_readsProgram cx.tr hM v0 h) tw_1227 (hM 9 _ rfl v0) rfl rfl rfl (st := []) rfl (Nat.le_of_ble_eq_true rfl) ⟨Nat.le_of_ble_eq_true rfl, Nat.le_of_ble_eq_true rfl⟩ ⟨Nat.le_of_ble_eq_true rfl, Nat.le_of_ble_eq_true rfl⟩ dX9_readsNode_92 (fun r92 M92 h => ?_)
  refine gg_if_ne (pc := 95) cx (tgt := 117) dX9_readsNode_95 (by decide) (fun c95 => ?_) (fun c95 => ?_)
  · have h := g_if c95 h
    refine gg_aload_n (pc := 117) cx 1 rfl dX9_readsNode_117 rfl ?_
    refine gf_Model_read (pc := 118) cx (hM 9 _ rfl v0) tw_1318 dX9_readsNode_118 ?_
    refine gg_bipush (pc := 121) cx (v := 12) dX9_readsNode_121 (by decide) ?_
    refine gg_iload_n (pc := 123) cx 2 rfl dX9_readsNode_123 rfl ?_
    refine gg_imul (pc := 124) cx dX9_readsNode_124 ?_
    refine gg_iconst (pc := 125) cx (v := 2) dX9_readsNode_125 (by decide) ?_
    refine gg_iadd (pc := 126) cx dX9_readsNode_126 ?_
    refine gg_iconst (pc := 127) cx (v := 0) dX9_readsNode_127 (by decide) ?_
    have q128 := h.1
    have h := h.2
    refine gg_iast (pc := 128) cx (hM 54 _ rfl v0) (fun _ _ => rfl) q128 dX9_readsNode_128 ?_
    refine gg_mem (fun M128 eM128 => ?_)
    have h := h M128 eM128
    refine gg_aload_n (pc := 129) cx 1 rfl dX9_readsNode_129 rfl ?_
    refine gf_Model_read (pc := 130) cx (hM 9 _ rfl v0) tw_1318 dX9_readsNode_130 ?_
    refine gg_bipush (pc := 133) cx (v := 12) dX9_readsNode_133 (by decide) ?_
    refine gg_iload_n (pc := 135) cx 2 rfl dX9_readsNode_135 rfl ?_
    refine gg_imul (pc := 136) cx dX9_readsNode_136 ?_
    refine gg_iconst (pc := 137) cx (v := 3) dX9_readsNode_137 (by decide) ?_
    refine gg_iadd (pc := 138) cx dX9_readsNode_138 ?_
    refine gg_iconst (pc := 139) cx (v := 0) dX9_readsNode_139 (by decide) ?_
    have q140 := h.1
    have h := h.2
    refine gg_iast (pc := 140) cx (hM 54 _ rfl v0) (fun _ _ => rfl) q140 dX9_readsNode_140 ?_
    refine gg_mem (fun M140 eM140 => ?_)
    have h := h M140 eM140
    refine gg_aload_n (pc := 141) cx 1 rfl dX9_readsNode_141 rfl ?_
    refine gf_Model_at (pc := 142) cx (hM 9 _ rfl v0) tw_1317 dX9_readsNode_142 ?_
    refine gg_topi (fun n145 en145 => ?_)
    have h := h n145 en145
    refine gg_istore_n (pc := 145) cx [(3, .int n145), (0, .ref (gAd t 9 o0)), (1, .int x1), (2, .int x2)] dX9_readsNode_145 rfl (by decide) rfl ?_
    refine gg_iload_n (pc := 146) cx 2 rfl dX9_readsNode_146 rfl ?_
    refine gg_if_le (pc := 147) cx (tgt := 190) dX9_readsNode_147 (by decide) (fun c147 => ?_) (fun c147 => ?_)
    · have h := g_it c147 h
      refine gg_lv (lv' := [(0, .ref (gAd t 9 o0)), (1, .int x1), (2, .int x2)]) [1, 2, 3] rfl ?_
      exact wk_X9_readsNode_b190 cx hM hQ v0 h
    · have h := g_if c147 h
      refine gg_aload_n (pc := 150) cx 1 rfl dX9_readsNode_150 rfl ?_
      refine gg_aload_n (pc := 151) cx 1 rfl dX9_readsNode_151 rfl ?_
      refine gf_Model_at (pc := 152) cx (hM 9 _ rfl v0) tw_1317 dX9_readsNode_152 ?_
      refine gg_callVi (pc := 155) cx cal_X9_letter calv_X9_letter (ct_X9_letter cx.tr hM v0 h) tw_1218 (hM 9 _ rfl v0) rfl rfl rfl (st := []) rfl (Nat.le_of_ble_eq_true rfl) ⟨Nat.le_of_ble_eq_true rfl, Nat.le_of_ble_eq_true rfl⟩ ⟨Nat.le_of_ble_eq_true rfl, Nat.le_of_ble_eq_true rfl⟩ dX9_readsNode_155 (fun r155 M155 h => ?_)
      refine gg_bipush (pc := 158) cx (v := 64) dX9_readsNode_158 (by decide) ?_
      refine gg_icmp_ne (pc := 160) cx (tgt := 190) dX9_readsNode_160 (by decide) (fun c160 => ?_) (fun c160 => ?_)
      · have h := g_if c160 h
        refine gg_lv (lv' := [(0, .ref (gAd t 9 o0)), (1, .int x1), (2, .int x2)]) [1, 2, 3] rfl ?_
        exact wk_X9_readsNode_b190 cx hM hQ v0 h
      · have h := g_it c160 h
        refine gg_aload_n (pc := 163) cx 1 rfl dX9_readsNode_163 rfl ?_
        refine gg_iload_n (pc := 164) cx 2 rfl dX9_readsNode_164 rfl ?_
        refine gg_callVi (pc := 165) cx cal_X9_readsShaper calv_X9_readsShaper (ct_X9_readsShaper cx.tr hM v0 h) tw_1284 (hM 9 _ rfl v0) rfl rfl rfl (st := []) rfl (Nat.le_of_ble_eq_true rfl) ⟨Nat.le_of_ble_eq_true rfl, Nat.le_of_ble_eq_true rfl⟩ ⟨Nat.le_of_ble_eq_true rfl, Nat.le_of_ble_eq_true rfl⟩ dX9_readsNode_165 (fun r165 M165 h => ?_)
        refine gg_if_ne (pc := 168) cx (tgt := 190) dX9_readsNode_168 (by decide) (fun c168 => ?_) (fun c168 => ?_)
        · have h := g_if c168 h
          refine gg_lv (lv' := [(0, .ref (gAd t 9 o0)), (1, .int x1), (2, .int x2)]) [1, 2, 3] rfl ?_
          exact wk_X9_readsNode_b190 cx hM hQ v0 h
        · have h := g_it c168 h
          refine gg_aload_n (pc := 171) cx 1 rfl dX9_readsNode_171 rfl ?_
          refine gg_iload_n (pc := 172) cx 3 rfl dX9_readsNode_172 rfl ?_
          refine gg_iload_n (pc := 173) cx 0 rfl dX9_readsNode_173 rfl ?_
          refine gg_aload_n (pc := 174) cx 1 rfl dX9_readsNode_174 rfl ?_
          refine gf_Model_at (pc := 175) cx (hM 9 _ rfl v0) tw_1317 dX9_readsNode_175 ?_
          refine gg_callVi (pc := 178) cx cal_X9_wrong calv_X9_wrong (ct_X9_wrong cx.tr hM v0 h) tw_1206 (hM 9 _ rfl v0) rfl rfl rfl (st := []) rfl (Nat.le_of_ble_eq_true rfl) ⟨Nat.le_of_ble_eq_true rfl, Nat.le_of_ble_eq_true rfl⟩ ⟨Nat.le_of_ble_eq_true rfl, Nat.le_of_ble_eq_true rfl⟩ dX9_readsNode_178 (fun r178 M178 h => ?_)
          refine gg_if_lt (pc := 181) cx (tgt := 188) dX9_readsNode_181 (by decide) (fun c181 => ?_) (fun c181 => ?_)
          · have h := g_it c181 h
            refine gg_iconst (pc := 188) cx (v := 0) dX9_readsNode_188 (by decide) ?_
            exact gg_zret (pc := 189) cx hQ rfl h dX9_readsNode_189
          · have h := g_if c181 h
            refine gg_iconst (pc := 184) cx (v := 1) dX9_readsNode_184 (by decide) ?_
            refine gg_goto (pc := 185) cx (tgt := 189) dX9_readsNode_185 (by decide) ?_
            exact gg_zret (pc := 189) cx hQ rfl h dX9_readsNode_189
  · have h := g_it c95 h
    refine gg_aload_n (pc := 98) cx 1 rfl dX9_readsNode_98 rfl ?_
    refine gg_iload_n (pc := 99) cx 3 rfl dX9_readsNode_99 rfl ?_
    refine gg_iload_n (pc := 100) cx 0 rfl dX9_readsNode_100 rfl ?_
    refine gg_aload_n (pc := 101) cx 1 rfl dX9_readsNode_101 rfl ?_
    refine gf_Model_at (pc := 102) cx (hM 9 _ rfl v0) tw_1317 dX9_readsNode_102 ?_
    refine gg_callVi (pc := 105) cx cal_X9_wrong calv_X9_wrong (ct_X9_wrong cx.tr hM v0 h) tw_1206 (hM 9 _ rfl v0) rfl rfl rfl (st := []) rfl (Nat.le_of_ble_eq_true rfl) ⟨Nat.le_of_ble_eq_true rfl, Nat.le_of_ble_eq_true rfl⟩ ⟨Nat.le_of_ble_eq_true rfl, Nat.le_of_ble_eq_true rfl⟩ dX9_readsNode_105 (fun r105 M105 h => ?_)
    refine gg_if_lt (pc := 108) cx (tgt := 115) dX9_readsNode_108 (by decide) (fun c108 => ?_) (fun c108 => ?_)
    · have h := g_it c108 h
      refine gg_iconst (pc := 115) cx (v := 0) dX9_readsNode_115 (by decide) ?_
      exact gg_zret (pc := 116) cx hQ rfl h dX9_readsNode_116
    · have h := g_if c108 h
      refine gg_iconst (pc := 111) cx (v := 1) dX9_readsNode_111 (by decide) ?_
      refine gg_goto (pc := 112) cx (tgt := 116) dX9_readsNode_112 (by decide) ?_
      exact gg_zret (pc := 116) cx hQ rfl h dX9_readsNode_116
set_option maxRecDepth 100000 in
set_option maxHeartbeats 4000000 in
theorem wk_X9_readsNode_b50 {t : gT} {X : gX} (cx : g_Cx t X cX9_readsNode 5 RX9 (some .boolean)) (hM : g_hM t) {K : Int32 → gM → Prop} (hQ : gXQ X = MQ (gXb X) (va_Qi K (g_B t) (g_A t)) (gXa X) (gXs X) rm_X9_readsNode.cells rm_X9_readsNode.slots (g_A t)) {o0 : Nat} {x1 : Int32} {x2 : Int32} {os0 : Nat} {xs1 : Int32} {xs2 : Int32} {M : gM} (v0 : o0 < 1) (vs0 : os0 < 1) (h : wp_X9_readsNode_b50 K o0 x1 x2 os0 xs1 xs2 M) : G t rm_X9_readsNode X 5 0 0 M [(0, .ref (gAd t 9 o0)), (1, .int x1), (2, .int x2)] [.int xs2, .int xs1, .ref (gAd t 54 os0)] 50 := by
  have q50 := h.1
  have h := h.2
  refine gg_iast (pc := 50) cx (hM 54 _ rfl vs0) (fun _ _ => rfl) q50 dX9_readsNode_50 ?_
  refine gg_mem (fun M50 eM50 => ?_)
  have h := h M50 eM50
  refine gg_iload_n (pc := 51) cx 1 rfl dX9_readsNode_51 rfl ?_
  refine gg_if_le (pc := 52) cx (tgt := 85) dX9_readsNode_52 (by decide) (fun c52 => ?_) (fun c52 => ?_)
  · have h := g_it c52 h
    exact wk_X9_readsNode_b85 cx hM hQ v0 h
  · have h := g_if c52 h
    refine gg_aload_n (pc := 55) cx 0 rfl dX9_readsNode_55 rfl ?_
    refine gf_Model_read (pc := 56) cx (hM 9 _ rfl v0) tw_1318 dX9_readsNode_56 ?_
    refine gg_bipush (pc := 59) cx (v := 12) dX9_readsNode_59 (by decide) ?_
    refine gg_iload_n (pc := 61) cx 1 rfl dX9_readsNode_61 rfl ?_
    refine gg_imul (pc := 62) cx dX9_readsNode_62 ?_
    refine gg_iconst (pc := 63) cx (v := 0) dX9_readsNode_63 (by decide) ?_
    refine gg_iadd (pc := 64) cx dX9_readsNode_64 ?_
    have q65 := h.1
    have h := h.2
    refine gg_iald (pc := 65) cx (hM 54 _ rfl v0) rfl q65 dX9_readsNode_65 ?_
    refine gg_if_ge (pc := 66) cx (tgt := 85) dX9_readsNode_66 (by decide) (fun c66 => ?_) (fun c66 => ?_)
    · have h := g_it c66 h
      exact wk_X9_readsNode_b85 cx hM hQ v0 h
    · have h := g_if c66 h
      refine gg_aload_n (pc := 69) cx 0 rfl dX9_readsNode_69 rfl ?_
      refine gg_iload_n (pc := 70) cx 2 rfl dX9_readsNode_70 rfl ?_
      refine gg_iload_n (pc := 71) cx 2 rfl dX9_readsNode_71 rfl ?_
      refine gg_iconst (pc := 72) cx (v := (-1)) dX9_readsNode_72 (by decide) ?_
      refine gg_callVi (pc := 73) cx cal_X9_wrong calv_X9_wrong (ct_X9_wrong cx.tr hM v0 h) tw_1206 (hM 9 _ rfl v0) rfl rfl rfl (st := []) rfl (Nat.le_of_ble_eq_true rfl) ⟨Nat.le_of_ble_eq_true rfl, Nat.le_of_ble_eq_true rfl⟩ ⟨Nat.le_of_ble_eq_true rfl, Nat.le_of_ble_eq_true rfl⟩ dX9_readsNode_73 (fun r73 M73 h => ?_)
      refine gg_if_lt (pc := 76) cx (tgt := 83) dX9_readsNode_76 (by decide) (fun c76 => ?_) (fun c76 => ?_)
      · have h := g_it c76 h
        refine gg_iconst (pc := 83) cx (v := 0) dX9_readsNode_83 (by decide) ?_
        exact gg_zret (pc := 84) cx hQ rfl h dX9_readsNode_84
      · have h := g_if c76 h
        refine gg_iconst (pc := 79) cx (v := 1) dX9_readsNode_79 (by decide) ?_
        refine gg_goto (pc := 80) cx (tgt := 84) dX9_readsNode_80 (by decide) ?_
        exact gg_zret (pc := 84) cx hQ rfl h dX9_readsNode_84
theorem cal_X9_readsNode : g_Cal yX9_readsNode cX9_readsNode 5 (some .boolean) 1 := ⟨tw_17, tw_1205, by decide, by decide, by decide +kernel⟩
theorem calv_X9_readsNode : g_CalV yX9_readsNode := ⟨tw_1204, ts_27⟩
set_option maxRecDepth 100000 in
set_option maxHeartbeats 4000000 in
theorem ct_X9_readsNode {l : Launch} (hl : l.stackTraces = false) {t : gT} (hM : g_hM t) {o0 : Nat} {x1 : Int32} (v0 : o0 < 1) {M : gM} {K : Int32 → gM → Prop} (h : wp_X9_readsNode o0 x1 M K) : Met l yX9_readsNode (g_y yX9_readsNode cX9_readsNode 5 (some .boolean)) rm_X9_readsNode (va_Pc [.ref (gAd t 9 o0), .int x1] (g_Pre t M)) (va_Qi K (g_B t) (g_A t)) rm_X9_readsNode.cells rm_X9_readsNode.slots (g_A t) := by
  refine g_met hl rfl (Nat.le_of_ble_eq_true rfl) (fun X hlX cx hQ => ?_)
  subst hlX
  refine gg_aload_n (pc := 0) cx 0 rfl dX9_readsNode_0 rfl ?_
  refine gf_Model_at (pc := 1) cx (hM 9 _ rfl v0) tw_1317 dX9_readsNode_1 ?_
  refine gg_topi (fun n4 en4 => ?_)
  have h := h n4 en4
  refine gg_istore_n (pc := 4) cx [(2, .int n4), (0, .ref (gAd t 9 o0)), (1, .int x1)] dX9_readsNode_4 rfl (by decide) rfl ?_
  refine gg_iload_n (pc := 5) cx 2 rfl dX9_readsNode_5 rfl ?_
  refine gg_bipush (pc := 6) cx (v := 12) dX9_readsNode_6 (by decide) ?_
  refine gg_icmp_ne (pc := 8) cx (tgt := 27) dX9_readsNode_8 (by decide) (fun c8 => ?_) (fun c8 => ?_)
  · have h := g_if c8 h
    refine gg_aload_n (pc := 27) cx 1 rfl dX9_readsNode_27 rfl ?_
    refine gf_Model_read (pc := 28) cx (hM 9 _ rfl v0) tw_1318 dX9_readsNode_28 ?_
    refine gg_bipush (pc := 31) cx (v := 12) dX9_readsNode_31 (by decide) ?_
    refine gg_iload_n (pc := 33) cx 2 rfl dX9_readsNode_33 rfl ?_
    refine gg_imul (pc := 34) cx dX9_readsNode_34 ?_
    refine gg_iconst (pc := 35) cx (v := 0) dX9_readsNode_35 (by decide) ?_
    refine gg_iadd (pc := 36) cx dX9_readsNode_36 ?_
    refine gg_iload_n (pc := 37) cx 2 rfl dX9_readsNode_37 rfl ?_
    refine gg_if_ne (pc := 38) cx (tgt := 45) dX9_readsNode_38 (by decide) (fun c38 => ?_) (fun c38 => ?_)
    · have h := g_if c38 h
      refine gg_aload_n (pc := 45) cx 1 rfl dX9_readsNode_45 rfl ?_
      refine gg_iload_n (pc := 46) cx 2 rfl dX9_readsNode_46 rfl ?_
      refine gg_callVi (pc := 47) cx cal_X9_readsParent calv_X9_readsParent (ct_X9_readsParent cx.tr hM v0 h) tw_1210 (hM 9 _ rfl v0) rfl rfl rfl (st := [.int ((12 * x1) + 0), .ref (gAd t 54 o0)]) rfl (Nat.le_of_ble_eq_true rfl) ⟨Nat.le_of_ble_eq_true rfl, Nat.le_of_ble_eq_true rfl⟩ ⟨Nat.le_of_ble_eq_true rfl, Nat.le_of_ble_eq_true rfl⟩ dX9_readsNode_47 (fun r47 M47 h => ?_)
      refine gg_lv (lv' := [(0, .ref (gAd t 9 o0)), (1, .int x1), (2, .int n4)]) [1, 2, 0] rfl ?_
      exact wk_X9_readsNode_b50 cx hM hQ v0 v0 h
    · have h := g_it c38 h
      refine gg_iconst (pc := 41) cx (v := (-1)) dX9_readsNode_41 (by decide) ?_
      refine gg_goto (pc := 42) cx (tgt := 50) dX9_readsNode_42 (by decide) ?_
      refine gg_lv (lv' := [(0, .ref (gAd t 9 o0)), (1, .int x1), (2, .int n4)]) [1, 2, 0] rfl ?_
      exact wk_X9_readsNode_b50 cx hM hQ v0 v0 h
  · have h := g_it c8 h
    refine gg_aload_n (pc := 11) cx 1 rfl dX9_readsNode_11 rfl ?_
    refine gg_iload_n (pc := 12) cx 0 rfl dX9_readsNode_12 rfl ?_
    refine gg_iload_n (pc := 13) cx 0 rfl dX9_readsNode_13 rfl ?_
    refine gg_iconst (pc := 14) cx (v := (-1)) dX9_readsNode_14 (by decide) ?_
    refine gg_callVi (pc := 15) cx cal_X9_wrong calv_X9_wrong (ct_X9_wrong cx.tr hM v0 h) tw_1206 (hM 9 _ rfl v0) rfl rfl rfl (st := []) rfl (Nat.le_of_ble_eq_true rfl) ⟨Nat.le_of_ble_eq_true rfl, Nat.le_of_ble_eq_true rfl⟩ ⟨Nat.le_of_ble_eq_true rfl, Nat.le_of_ble_eq_true rfl⟩ dX9_readsNode_15 (fun r15 M15 h => ?_)
    refine gg_if_lt (pc := 18) cx (tgt := 25) dX9_readsNode_18 (by decide) (fun c18 => ?_) (fun c18 => ?_)
    · have h := g_it c18 h
      refine gg_iconst (pc := 25) cx (v := 0) dX9_readsNode_25 (by decide) ?_
      exact gg_zret (pc := 26) cx hQ rfl h dX9_readsNode_26
    · have h := g_if c18 h
      refine gg_iconst (pc := 21) cx (v := 1) dX9_readsNode_21 (by decide) ?_
      refine gg_goto (pc := 22) cx (tgt := 26) dX9_readsNode_22 (by decide) ?_
      exact gg_zret (pc := 26) cx hQ rfl h dX9_readsNode_26
set_option maxRecDepth 100000 in
set_option maxHeartbeats 4000000 in
theorem wk_X9_reads_b87 {t : gT} {X : gX} (cx : g_Cx t X cX9_reads 2 RX9 (some .int)) (hM : g_hM t) {K : Int32 → gM → Prop} (hQ : gXQ X = MQ (gXb X) (va_Qi K (g_B t) (g_A t)) (gXa X) (gXs X) rm_X9_reads.cells rm_X9_reads.slots (g_A t)) {R17 : Nat → Int32 → gM → Prop} (hR17 : ∀ (o0 : Nat) (x1 : Int32) (M : gM), o0 < 1 → R17 o0 x1 M → G t rm_X9_reads X 2 0 0 M [(0, .ref (gAd t 9 o0)), (1, .int x1)] [] 17) {o0 : Nat} {xs0 : Int32} {M : gM} (v0 : o0 < 1) (h : wp_X9_reads_b87 R17 K o0 xs0 M) : G t rm_X9_reads X 2 0 0 M [(0, .ref (gAd t 9 o0))] [.int xs0] 87 := by
  refine gg_istore_n (pc := 87) cx [(1, .int xs0), (0, .ref (gAd t 9 o0))] dX9_reads_87 rfl (by decide) rfl ?_
  refine gg_aload_n (pc := 88) cx 1 rfl dX9_reads_88 rfl ?_
  refine gg_dup (pc := 89) cx dX9_reads_89 rfl ?_
  refine gf_Model_at (pc := 90) cx (hM 9 _ rfl v0) tw_1317 dX9_reads_90 ?_
  refine gg_iconst (pc := 93) cx (v := 1) dX9_reads_93 (by decide) ?_
  refine gg_iadd (pc := 94) cx dX9_reads_94 ?_
  refine gp_Model_at (pc := 95) cx (hM 9 _ rfl v0) tw_1317 dX9_reads_95 ?_
  refine gg_mem (fun M95 eM95 => ?_)
  have h := h M95 eM95
  refine gg_goto (pc := 98) cx (tgt := 17) dX9_reads_98 (by decide) ?_
  refine gg_lv (lv' := [(0, .ref (gAd t 9 o0)), (1, .int xs0)]) [1, 0] rfl ?_
  exact hR17 o0 xs0 M95 v0 h
set_option maxRecDepth 100000 in
set_option maxHeartbeats 4000000 in
theorem wk_X9_reads_L17 {t : gT} {X : gX} (cx : g_Cx t X cX9_reads 2 RX9 (some .int)) (hM : g_hM t) {K : Int32 → gM → Prop} (hQ : gXQ X = MQ (gXb X) (va_Qi K (g_B t) (g_A t)) (gXa X) (gXs X) rm_X9_reads.cells rm_X9_reads.slots (g_A t)) (f : Nat) : ∀ (o0 : Nat) (x1 : Int32) (M : gM), o0 < 1 → wp_X9_reads_L17 K f o0 x1 M → G t rm_X9_reads X 2 0 0 M [(0, .ref (gAd t 9 o0)), (1, .int x1)] [] 17 := by
  induction f with
  | zero => intro _ _ _ _ _; exact False.elim (by assumption)
  | succ f ih =>
    intro o0 x1 M v0 h
    refine gg_iload_n (pc := 17) cx 1 rfl dX9_reads_17 rfl ?_
    refine gg_if_eq (pc := 18) cx (tgt := 101) dX9_reads_18 (by decide) (fun c18 => ?_) (fun c18 => ?_)
    · have h := g_it c18 h
      refine gg_aload_n (pc := 101) cx 0 rfl dX9_reads_101 rfl ?_
      refine gf_Model_readNodes (pc := 102) cx (hM 9 _ rfl v0) tw_1319 dX9_reads_102 ?_
      exact gg_iret (pc := 105) cx hQ h dX9_reads_105
    · have h := g_if c18 h
      refine gg_aload_n (pc := 21) cx 0 rfl dX9_reads_21 rfl ?_
      refine gg_aload_n (pc := 22) cx 0 rfl dX9_reads_22 rfl ?_
      refine gf_Model_readNodes (pc := 23) cx (hM 9 _ rfl v0) tw_1319 dX9_reads_23 ?_
      refine gg_callVi (pc := 26) cx cal_X9_readsNode calv_X9_readsNode (ct_X9_readsNode cx.tr hM v0 h) tw_1202 (hM 9 _ rfl v0) rfl rfl rfl (st := []) rfl (Nat.le_of_ble_eq_true rfl) ⟨Nat.le_of_ble_eq_true rfl, Nat.le_of_ble_eq_true rfl⟩ ⟨Nat.le_of_ble_eq_true rfl, Nat.le_of_ble_eq_true rfl⟩ dX9_reads_26 (fun r26 M26 h => ?_)
      refine gg_if_ne (pc := 29) cx (tgt := 61) dX9_reads_29 (by decide) (fun c29 => ?_) (fun c29 => ?_)
      · have h := g_if c29 h
        refine gg_aload_n (pc := 61) cx 0 rfl dX9_reads_61 rfl ?_
        refine gg_dup (pc := 62) cx dX9_reads_62 rfl ?_
        refine gf_Model_readNodes (pc := 63) cx (hM 9 _ rfl v0) tw_1319 dX9_reads_63 ?_
        refine gg_iconst (pc := 66) cx (v := 1) dX9_reads_66 (by decide) ?_
        refine gg_iadd (pc := 67) cx dX9_reads_67 ?_
        refine gp_Model_readNodes (pc := 68) cx (hM 9 _ rfl v0) tw_1319 dX9_reads_68 ?_
        refine gg_mem (fun M68 eM68 => ?_)
        have h := h M68 eM68
        refine gg_aload_n (pc := 71) cx 0 rfl dX9_reads_71 rfl ?_
        refine gf_Model_at (pc := 72) cx (hM 9 _ rfl v0) tw_1317 dX9_reads_72 ?_
        refine gg_aload_n (pc := 75) cx 0 rfl dX9_reads_75 rfl ?_
        refine gf_Model_length (pc := 76) cx (hM 9 _ rfl v0) tw_1316 dX9_reads_76 ?_
        refine gg_icmp_ge (pc := 79) cx (tgt := 86) dX9_reads_79 (by decide) (fun c79 => ?_) (fun c79 => ?_)
        · have h := g_it c79 h
          refine gg_iconst (pc := 86) cx (v := 0) dX9_reads_86 (by decide) ?_
          refine gg_lv (lv' := [(0, .ref (gAd t 9 o0))]) [0] rfl ?_
          exact wk_X9_reads_b87 cx hM hQ ih v0 h
        · have h := g_if c79 h
          refine gg_iconst (pc := 82) cx (v := 1) dX9_reads_82 (by decide) ?_
          refine gg_goto (pc := 83) cx (tgt := 87) dX9_reads_83 (by decide) ?_
          refine gg_lv (lv' := [(0, .ref (gAd t 9 o0))]) [0] rfl ?_
          exact wk_X9_reads_b87 cx hM hQ ih v0 h
      · have h := g_it c29 h
        refine gg_aload_n (pc := 32) cx 0 rfl dX9_reads_32 rfl ?_
        refine gf_Model_errors (pc := 33) cx (hM 9 _ rfl v0) tw_1314 dX9_reads_33 ?_
        refine gg_iconst (pc := 36) cx (v := 2) dX9_reads_36 (by decide) ?_
        have q37 := h.1
        have h := h.2
        refine gg_iald (pc := 37) cx (hM 52 _ rfl v0) rfl q37 dX9_reads_37 ?_
        refine gg_if_lt (pc := 38) cx (tgt := 52) dX9_reads_38 (by decide) (fun c38 => ?_) (fun c38 => ?_)
        · have h := g_it c38 h
          refine gg_iconst (pc := 52) cx (v := (-1)) dX9_reads_52 (by decide) ?_
          refine gg_aload_n (pc := 53) cx 0 rfl dX9_reads_53 rfl ?_
          refine gf_Model_errors (pc := 54) cx (hM 9 _ rfl v0) tw_1314 dX9_reads_54 ?_
          refine gg_iconst (pc := 57) cx (v := 1) dX9_reads_57 (by decide) ?_
          have q58 := h.1
          have h := h.2
          refine gg_iald (pc := 58) cx (hM 52 _ rfl v0) rfl q58 dX9_reads_58 ?_
          refine gg_isub (pc := 59) cx dX9_reads_59 ?_
          exact gg_iret (pc := 60) cx hQ h dX9_reads_60
        · have h := g_if c38 h
          refine gg_iconst (pc := 41) cx (v := (-1)) dX9_reads_41 (by decide) ?_
          refine gg_aload_n (pc := 42) cx 0 rfl dX9_reads_42 rfl ?_
          refine gf_Model_errors (pc := 43) cx (hM 9 _ rfl v0) tw_1314 dX9_reads_43 ?_
          refine gg_iconst (pc := 46) cx (v := 2) dX9_reads_46 (by decide) ?_
          have q47 := h.1
          have h := h.2
          refine gg_iald (pc := 47) cx (hM 52 _ rfl v0) rfl q47 dX9_reads_47 ?_
          refine gg_isub (pc := 48) cx dX9_reads_48 ?_
          refine gg_goto (pc := 49) cx (tgt := 60) dX9_reads_49 (by decide) ?_
          exact gg_iret (pc := 60) cx hQ h dX9_reads_60
theorem cal_X9_reads : g_Cal yX9_reads cX9_reads 2 (some .int) 0 := ⟨tw_17, tw_1201, by decide, by decide, by decide +kernel⟩
theorem calv_X9_reads : g_CalV yX9_reads := ⟨tw_1200, ts_26⟩
set_option maxRecDepth 100000 in
set_option maxHeartbeats 4000000 in
theorem ct_X9_reads {l : Launch} (hl : l.stackTraces = false) {t : gT} (hM : g_hM t) {o0 : Nat} (v0 : o0 < 1) {M : gM} {K : Int32 → gM → Prop} (h : wp_X9_reads o0 M K) : Met l yX9_reads (g_y yX9_reads cX9_reads 2 (some .int)) rm_X9_reads (va_Pc [.ref (gAd t 9 o0)] (g_Pre t M)) (va_Qi K (g_B t) (g_A t)) rm_X9_reads.cells rm_X9_reads.slots (g_A t) := by
  refine g_met hl rfl (Nat.le_of_ble_eq_true rfl) (fun X hlX cx hQ => ?_)
  subst hlX
  refine gg_aload_n (pc := 0) cx 0 rfl dX9_reads_0 rfl ?_
  refine gg_iconst (pc := 1) cx (v := 0) dX9_reads_1 (by decide) ?_
  refine gp_Model_at (pc := 2) cx (hM 9 _ rfl v0) tw_1317 dX9_reads_2 ?_
  refine gg_mem (fun M2 eM2 => ?_)
  have h := h M2 eM2
  refine gg_aload_n (pc := 5) cx 0 rfl dX9_reads_5 rfl ?_
  refine gg_iconst (pc := 6) cx (v := 0) dX9_reads_6 (by decide) ?_
  refine gp_Model_stepMany (pc := 7) cx (hM 9 _ rfl v0) tw_1321 dX9_reads_7 ?_
  refine gg_mem (fun M7 eM7 => ?_)
  have h := h M7 eM7
  refine gg_aload_n (pc := 10) cx 0 rfl dX9_reads_10 rfl ?_
  refine gg_iconst (pc := 11) cx (v := 0) dX9_reads_11 (by decide) ?_
  refine gp_Model_readNodes (pc := 12) cx (hM 9 _ rfl v0) tw_1319 dX9_reads_12 ?_
  refine gg_mem (fun M12 eM12 => ?_)
  have h := h M12 eM12
  refine gg_iconst (pc := 15) cx (v := 1) dX9_reads_15 (by decide) ?_
  refine gg_istore_n (pc := 16) cx [(1, .int 1), (0, .ref (gAd t 9 o0))] dX9_reads_16 rfl (by decide) rfl ?_
  refine gg_lv (lv' := [(0, .ref (gAd t 9 o0)), (1, .int 1)]) [1, 0] rfl ?_
  obtain ⟨f17, h⟩ := h
  exact wk_X9_reads_L17 cx hM hQ f17 o0 1 M12 v0 h
set_option maxRecDepth 100000 in
set_option maxHeartbeats 4000000 in
theorem wk_X9_isLeaf_b41 {t : gT} {X : gX} (cx : g_Cx t X cX9_isLeaf 4 RX9 (some .boolean)) (hM : g_hM t) {K : Int32 → gM → Prop} (hQ : gXQ X = MQ (gXb X) (va_Qi K (g_B t) (g_A t)) (gXa X) (gXs X) rm_X9_isLeaf.cells rm_X9_isLeaf.slots (g_A t)) {R4 : Nat → Int32 → Int32 → Int32 → gM → Prop} (hR4 : ∀ (o0 : Nat) (x1 : Int32) (x2 : Int32) (x3 : Int32) (M : gM), o0 < 1 → R4 o0 x1 x2 x3 M → G t rm_X9_isLeaf X 4 0 0 M [(0, .ref (gAd t 9 o0)), (1, .int x1), (2, .int x2), (3, .int x3)] [] 4) {o0 : Nat} {x1 : Int32} {x3 : Int32} {M : gM} (v0 : o0 < 1) (h : wp_X9_isLeaf_b41 R4 K o0 x1 x3 M) : G t rm_X9_isLeaf X 4 0 0 M [(0, .ref (gAd t 9 o0)), (1, .int x1), (3, .int x3)] [] 41 := by
  refine gg_iconst (pc := 41) cx (v := 0) dX9_isLeaf_41 (by decide) ?_
  refine gg_istore_n (pc := 42) cx [(2, .int 0), (0, .ref (gAd t 9 o0)), (1, .int x1), (3, .int x3)] dX9_isLeaf_42 rfl (by decide) rfl ?_
  obtain ⟨n43, en43⟩ : ∃ z : Int32, z = x3 + Int32.ofInt (1) := ⟨_, rfl⟩
  have h := h n43 en43
  refine gg_iinc (pc := 43) cx 3 [(3, .int n43), (2, .int 0), (0, .ref (gAd t 9 o0)), (1, .int x1)] dX9_isLeaf_43 rfl en43.symm (by decide) rfl ?_
  refine gg_goto (pc := 46) cx (tgt := 4) dX9_isLeaf_46 (by decide) ?_
  refine gg_lv (lv' := [(0, .ref (gAd t 9 o0)), (1, .int x1), (2, .int 0), (3, .int n43)]) [2, 3, 1, 0] rfl ?_
  exact hR4 o0 x1 0 n43 M v0 h
set_option maxRecDepth 100000 in
set_option maxHeartbeats 4000000 in
theorem wk_X9_isLeaf_L4 {t : gT} {X : gX} (cx : g_Cx t X cX9_isLeaf 4 RX9 (some .boolean)) (hM : g_hM t) {K : Int32 → gM → Prop} (hQ : gXQ X = MQ (gXb X) (va_Qi K (g_B t) (g_A t)) (gXa X) (gXs X) rm_X9_isLeaf.cells rm_X9_isLeaf.slots (g_A t)) (f : Nat) : ∀ (o0 : Nat) (x1 : Int32) (x2 : Int32) (x3 : Int32) (M : gM), o0 < 1 → wp_X9_isLeaf_L4 K f o0 x1 x2 x3 M → G t rm_X9_isLeaf X 4 0 0 M [(0, .ref (gAd t 9 o0)), (1, .int x1), (2, .int x2), (3, .int x3)] [] 4 := by
  induction f with
  | zero => intro _ _ _ _ _ _ _; exact False.elim (by assumption)
  | succ f ih =>
    intro o0 x1 x2 x3 M v0 h
    refine gg_iload_n (pc := 4) cx 3 rfl dX9_isLeaf_4 rfl ?_
    refine gg_i2l (pc := 5) cx dX9_isLeaf_5 ?_
    refine gg_aload_n (pc := 6) cx 0 rfl dX9_isLeaf_6 rfl ?_
    refine gf_Model_v (pc := 7) cx (hM 9 _ rfl v0) tw_1306 dX9_isLeaf_7 ?_
    refine gg_iconst (pc := 10) cx (v := 2) dX9_isLeaf_10 (by decide) ?_
    have q11 := h.1
    have h := h.2
    refine gg_lald (pc := 11) cx (hM 47 _ rfl v0) rfl q11 dX9_isLeaf_11 ?_
    refine gg_lcmp_ge (pc := 12) cx (tgt := 49) dX9_isLeaf_12 dX9_isLeaf_13 (by decide) (fun c12 => ?_) (fun c12 => ?_)
    · have h := g_it c12 h
      refine gg_iload_n (pc := 49) cx 2 rfl dX9_isLeaf_49 rfl ?_
      exact gg_zret (pc := 50) cx hQ h.1 h.2 dX9_isLeaf_50
    · have h := g_if c12 h
      refine gg_iload_n (pc := 16) cx 2 rfl dX9_isLeaf_16 rfl ?_
      refine gg_if_eq (pc := 17) cx (tgt := 41) dX9_isLeaf_17 (by decide) (fun c17 => ?_) (fun c17 => ?_)
      · have h := g_it c17 h
        refine gg_lv (lv' := [(0, .ref (gAd t 9 o0)), (1, .int x1), (3, .int x3)]) [0, 1, 3] rfl ?_
        exact wk_X9_isLeaf_b41 cx hM hQ ih v0 h
      · have h := g_if c17 h
        refine gg_aload_n (pc := 20) cx 0 rfl dX9_isLeaf_20 rfl ?_
        refine gf_Model_v (pc := 21) cx (hM 9 _ rfl v0) tw_1306 dX9_isLeaf_21 ?_
        refine gg_iload_n (pc := 24) cx 3 rfl dX9_isLeaf_24 rfl ?_
        refine gg_callSi (pc := 25) cx cal_X9_node tw_1300 (ct_X9_node cx.tr hM  h) tw_1299 rfl (st := [.ref (gAd t 47 o0)]) rfl (Nat.le_of_ble_eq_true rfl) ⟨Nat.le_of_ble_eq_true rfl, Nat.le_of_ble_eq_true rfl⟩ ⟨Nat.le_of_ble_eq_true rfl, Nat.le_of_ble_eq_true rfl⟩ dX9_isLeaf_25 (fun r25 M25 h => ?_)
        refine gg_iconst (pc := 28) cx (v := 0) dX9_isLeaf_28 (by decide) ?_
        refine gg_iadd (pc := 29) cx dX9_isLeaf_29 ?_
        have q30 := h.1
        have h := h.2
        refine gg_lald (pc := 30) cx (hM 47 _ rfl v0) rfl q30 dX9_isLeaf_30 ?_
        refine gg_iload_n (pc := 31) cx 1 rfl dX9_isLeaf_31 rfl ?_
        refine gg_i2l (pc := 32) cx dX9_isLeaf_32 ?_
        refine gg_lcmp_eq (pc := 33) cx (tgt := 41) dX9_isLeaf_33 dX9_isLeaf_34 (by decide) (fun c33 => ?_) (fun c33 => ?_)
        · have h := g_it c33 h
          refine gg_lv (lv' := [(0, .ref (gAd t 9 o0)), (1, .int x1), (3, .int x3)]) [0, 1, 3] rfl ?_
          exact wk_X9_isLeaf_b41 cx hM hQ ih v0 h
        · have h := g_if c33 h
          refine gg_iconst (pc := 37) cx (v := 1) dX9_isLeaf_37 (by decide) ?_
          refine gg_goto (pc := 38) cx (tgt := 42) dX9_isLeaf_38 (by decide) ?_
          refine gg_istore_n (pc := 42) cx [(2, .int 1), (0, .ref (gAd t 9 o0)), (1, .int x1), (3, .int x3)] dX9_isLeaf_42 rfl (by decide) rfl ?_
          obtain ⟨n43, en43⟩ : ∃ z : Int32, z = x3 + Int32.ofInt (1) := ⟨_, rfl⟩
          have h := h n43 en43
          refine gg_iinc (pc := 43) cx 3 [(3, .int n43), (2, .int 1), (0, .ref (gAd t 9 o0)), (1, .int x1)] dX9_isLeaf_43 rfl en43.symm (by decide) rfl ?_
          refine gg_goto (pc := 46) cx (tgt := 4) dX9_isLeaf_46 (by decide) ?_
          refine gg_lv (lv' := [(0, .ref (gAd t 9 o0)), (1, .int x1), (2, .int 1), (3, .int n43)]) [2, 3, 1, 0] rfl ?_
          exact ih o0 x1 1 n43 M25 v0 h
theorem cal_X9_isLeaf : g_Cal yX9_isLeaf cX9_isLeaf 4 (some .boolean) 1 := ⟨tw_17, tw_1305, by decide, by decide, by decide +kernel⟩
theorem calv_X9_isLeaf : g_CalV yX9_isLeaf := ⟨tw_1304, ts_44⟩
set_option maxRecDepth 100000 in
set_option maxHeartbeats 4000000 in
theorem ct_X9_isLeaf {l : Launch} (hl : l.stackTraces = false) {t : gT} (hM : g_hM t) {o0 : Nat} {x1 : Int32} (v0 : o0 < 1) {M : gM} {K : Int32 → gM → Prop} (h : wp_X9_isLeaf o0 x1 M K) : Met l yX9_isLeaf (g_y yX9_isLeaf cX9_isLeaf 4 (some .boolean)) rm_X9_isLeaf (va_Pc [.ref (gAd t 9 o0), .int x1] (g_Pre t M)) (va_Qi K (g_B t) (g_A t)) rm_X9_isLeaf.cells rm_X9_isLeaf.slots (g_A t) := by
  refine g_met hl rfl (Nat.le_of_ble_eq_true rfl) (fun X hlX cx hQ => ?_)
  subst hlX
  refine gg_iconst (pc := 0) cx (v := 1) dX9_isLeaf_0 (by decide) ?_
  refine gg_istore_n (pc := 1) cx [(2, .int 1), (0, .ref (gAd t 9 o0)), (1, .int x1)] dX9_isLeaf_1 rfl (by decide) rfl ?_
  refine gg_iconst (pc := 2) cx (v := 0) dX9_isLeaf_2 (by decide) ?_
  refine gg_istore_n (pc := 3) cx [(3, .int 0), (2, .int 1), (0, .ref (gAd t 9 o0)), (1, .int x1)] dX9_isLeaf_3 rfl (by decide) rfl ?_
  refine gg_lv (lv' := [(0, .ref (gAd t 9 o0)), (1, .int x1), (2, .int 1), (3, .int 0)]) [2, 3, 1, 0] rfl ?_
  obtain ⟨f4, h⟩ := h
  exact wk_X9_isLeaf_L4 cx hM hQ f4 o0 x1 1 0 M v0 h
set_option maxRecDepth 100000 in
set_option maxHeartbeats 4000000 in
theorem wk_X9_loads_L220 {t : gT} {X : gX} (cx : g_Cx t X cX9_loads 5 RX9 (none)) (hM : g_hM t) {K : gM → Prop} (hQ : gXQ X = MQ (gXb X) (va_Qv K (g_B t) (g_A t)) (gXa X) (gXs X) rm_X9_loads.cells rm_X9_loads.slots (g_A t)) (f : Nat) : ∀ (o0 : Nat) (x3 : Int32) (x4 : Int32) (M : gM), o0 < 1 → wp_X9_loads_L220 K f o0 x3 x4 M → G t rm_X9_loads X 5 0 0 M [(0, .ref (gAd t 9 o0)), (3, .int x3), (4, .int x4)] [] 220 := by
  induction f with
  | zero => intro _ _ _ _ _ _; exact False.elim (by assumption)
  | succ f ih =>
    intro o0 x3 x4 M v0 h
    refine gg_iload (pc := 220) cx 2 rfl dX9_loads_220 ?_
    refine gg_bipush (pc := 222) cx (v := 16) dX9_loads_222 (by decide) ?_
    refine gg_icmp_ge (pc := 224) cx (tgt := 266) dX9_loads_224 (by decide) (fun c224 => ?_) (fun c224 => ?_)
    · have h := g_it c224 h
      exact gg_vret (pc := 266) cx hQ h dX9_loads_266
    · have h := g_if c224 h
      refine gg_aload_n (pc := 227) cx 0 rfl dX9_loads_227 rfl ?_
      refine gf_Model_v (pc := 228) cx (hM 9 _ rfl v0) tw_1306 dX9_loads_228 ?_
      refine gg_iload (pc := 231) cx 2 rfl dX9_loads_231 ?_
      refine gg_callSi (pc := 233) cx cal_X9_flow tw_1297 (ct_X9_flow cx.tr hM  h) tw_1296 rfl (st := [.ref (gAd t 47 o0)]) rfl (Nat.le_of_ble_eq_true rfl) ⟨Nat.le_of_ble_eq_true rfl, Nat.le_of_ble_eq_true rfl⟩ ⟨Nat.le_of_ble_eq_true rfl, Nat.le_of_ble_eq_true rfl⟩ dX9_loads_233 (fun r233 M233 h => ?_)
      refine gg_iconst (pc := 236) cx (v := 0) dX9_loads_236 (by decide) ?_
      refine gg_iadd (pc := 237) cx dX9_loads_237 ?_
      refine gg_aload_n (pc := 238) cx 0 rfl dX9_loads_238 rfl ?_
      refine gf_Model_aside (pc := 239) cx (hM 9 _ rfl v0) tw_1307 dX9_loads_239 ?_
      refine gg_iload (pc := 242) cx 2 rfl dX9_loads_242 ?_
      have q244 := h.1
      have h := h.2
      refine gg_lald (pc := 244) cx (hM 48 _ rfl v0) rfl q244 dX9_loads_244 ?_
      have q245 := h.1
      have h := h.2
      refine gg_last (pc := 245) cx (hM 47 _ rfl v0) (fun _ _ => rfl) q245 dX9_loads_245 ?_
      refine gg_mem (fun M245 eM245 => ?_)
      have h := h M245 eM245
      refine gg_aload_n (pc := 246) cx 0 rfl dX9_loads_246 rfl ?_
      refine gf_Model_v (pc := 247) cx (hM 9 _ rfl v0) tw_1306 dX9_loads_247 ?_
      refine gg_iload (pc := 250) cx 2 rfl dX9_loads_250 ?_
      refine gg_callSi (pc := 252) cx cal_X9_flow tw_1297 (ct_X9_flow cx.tr hM  h) tw_1296 rfl (st := [.ref (gAd t 47 o0)]) rfl (Nat.le_of_ble_eq_true rfl) ⟨Nat.le_of_ble_eq_true rfl, Nat.le_of_ble_eq_true rfl⟩ ⟨Nat.le_of_ble_eq_true rfl, Nat.le_of_ble_eq_true rfl⟩ dX9_loads_252 (fun r252 M252 h => ?_)
      refine gg_iconst (pc := 255) cx (v := 1) dX9_loads_255 (by decide) ?_
      refine gg_iadd (pc := 256) cx dX9_loads_256 ?_
      refine gg_iload_n (pc := 257) cx 1 rfl dX9_loads_257 rfl ?_
      refine gg_i2l (pc := 258) cx dX9_loads_258 ?_
      have q259 := h.1
      have h := h.2
      refine gg_last (pc := 259) cx (hM 47 _ rfl v0) (fun _ _ => rfl) q259 dX9_loads_259 ?_
      refine gg_mem (fun M259 eM259 => ?_)
      have h := h M259 eM259
      obtain ⟨n260, en260⟩ : ∃ z : Int32, z = x4 + Int32.ofInt (1) := ⟨_, rfl⟩
      have h := h n260 en260
      refine gg_iinc (pc := 260) cx 2 [(4, .int n260), (0, .ref (gAd t 9 o0)), (3, .int x3)] dX9_loads_260 rfl en260.symm (by decide) rfl ?_
      refine gg_goto (pc := 263) cx (tgt := 220) dX9_loads_263 (by decide) ?_
      refine gg_lv (lv' := [(0, .ref (gAd t 9 o0)), (3, .int x3), (4, .int n260)]) [1, 2, 0] rfl ?_
      exact ih o0 x3 n260 M259 v0 h
set_option maxRecDepth 100000 in
set_option maxHeartbeats 4000000 in
theorem wk_X9_loads_L203 {t : gT} {X : gX} (cx : g_Cx t X cX9_loads 5 RX9 (none)) (hM : g_hM t) {K : gM → Prop} (hQ : gXQ X = MQ (gXb X) (va_Qv K (g_B t) (g_A t)) (gXa X) (gXs X) rm_X9_loads.cells rm_X9_loads.slots (g_A t)) (f : Nat) : ∀ (o0 : Nat) (x3 : Int32) (M : gM), o0 < 1 → wp_X9_loads_L203 K f o0 x3 M → G t rm_X9_loads X 5 0 0 M [(0, .ref (gAd t 9 o0)), (3, .int x3)] [] 203 := by
  induction f with
  | zero => intro _ _ _ _ _; exact False.elim (by assumption)
  | succ f ih =>
    intro o0 x3 M v0 h
    refine gg_aload_n (pc := 203) cx 0 rfl dX9_loads_203 rfl ?_
    refine gg_iload_n (pc := 204) cx 1 rfl dX9_loads_204 rfl ?_
    refine gg_callVi (pc := 205) cx cal_X9_isLeaf calv_X9_isLeaf (ct_X9_isLeaf cx.tr hM v0 h) tw_1302 (hM 9 _ rfl v0) rfl rfl rfl (st := []) rfl (Nat.le_of_ble_eq_true rfl) ⟨Nat.le_of_ble_eq_true rfl, Nat.le_of_ble_eq_true rfl⟩ ⟨Nat.le_of_ble_eq_true rfl, Nat.le_of_ble_eq_true rfl⟩ dX9_loads_205 (fun r205 M205 h => ?_)
    refine gg_if_ne (pc := 208) cx (tgt := 217) dX9_loads_208 (by decide) (fun c208 => ?_) (fun c208 => ?_)
    · have h := g_if c208 h
      refine gg_iconst (pc := 217) cx (v := 0) dX9_loads_217 (by decide) ?_
      refine gg_istore (pc := 218) cx [(4, .int 0), (0, .ref (gAd t 9 o0)), (3, .int x3)] dX9_loads_218 (by decide) rfl ?_
      refine gg_lv (lv' := [(0, .ref (gAd t 9 o0)), (3, .int x3), (4, .int 0)]) [1, 2, 0] rfl ?_
      obtain ⟨f220, h⟩ := h
      exact wk_X9_loads_L220 cx hM hQ f220 o0 x3 0 M205 v0 h
    · have h := g_it c208 h
      obtain ⟨n211, en211⟩ : ∃ z : Int32, z = x3 + Int32.ofInt (1) := ⟨_, rfl⟩
      have h := h n211 en211
      refine gg_iinc (pc := 211) cx 1 [(3, .int n211), (0, .ref (gAd t 9 o0))] dX9_loads_211 rfl en211.symm (by decide) rfl ?_
      refine gg_goto (pc := 214) cx (tgt := 203) dX9_loads_214 (by decide) ?_
      refine gg_lv (lv' := [(0, .ref (gAd t 9 o0)), (3, .int n211)]) [1, 0] rfl ?_
      exact ih o0 n211 M205 v0 h
set_option maxRecDepth 100000 in
set_option maxHeartbeats 4000000 in
theorem wk_X9_loads_L171 {t : gT} {X : gX} (cx : g_Cx t X cX9_loads 5 RX9 (none)) (hM : g_hM t) {K : gM → Prop} (hQ : gXQ X = MQ (gXb X) (va_Qv K (g_B t) (g_A t)) (gXa X) (gXs X) rm_X9_loads.cells rm_X9_loads.slots (g_A t)) (f : Nat) : ∀ (o0 : Nat) (x3 : Int32) (M : gM), o0 < 1 → wp_X9_loads_L171 K f o0 x3 M → G t rm_X9_loads X 5 0 0 M [(0, .ref (gAd t 9 o0)), (3, .int x3)] [] 171 := by
  induction f with
  | zero => intro _ _ _ _ _; exact False.elim (by assumption)
  | succ f ih =>
    intro o0 x3 M v0 h
    refine gg_iload_n (pc := 171) cx 1 rfl dX9_loads_171 rfl ?_
    refine gg_aload_n (pc := 172) cx 0 rfl dX9_loads_172 rfl ?_
    refine gf_Model_stepMany (pc := 173) cx (hM 9 _ rfl v0) tw_1321 dX9_loads_173 ?_
    refine gg_icmp_ge (pc := 176) cx (tgt := 201) dX9_loads_176 (by decide) (fun c176 => ?_) (fun c176 => ?_)
    · have h := g_it c176 h
      refine gg_iconst (pc := 201) cx (v := 0) dX9_loads_201 (by decide) ?_
      refine gg_istore_n (pc := 202) cx [(3, .int 0), (0, .ref (gAd t 9 o0))] dX9_loads_202 rfl (by decide) rfl ?_
      refine gg_lv (lv' := [(0, .ref (gAd t 9 o0)), (3, .int 0)]) [1, 0] rfl ?_
      obtain ⟨f203, h⟩ := h
      exact wk_X9_loads_L203 cx hM hQ f203 o0 0 M v0 h
    · have h := g_if c176 h
      refine gg_aload_n (pc := 179) cx 0 rfl dX9_loads_179 rfl ?_
      refine gf_Model_v (pc := 180) cx (hM 9 _ rfl v0) tw_1306 dX9_loads_180 ?_
      refine gg_sipush (pc := 183) cx (v := 480) dX9_loads_183 (by decide) ?_
      refine gg_iload_n (pc := 186) cx 1 rfl dX9_loads_186 rfl ?_
      refine gg_iadd (pc := 187) cx dX9_loads_187 ?_
      refine gg_aload_n (pc := 188) cx 0 rfl dX9_loads_188 rfl ?_
      refine gf_Model_steps (pc := 189) cx (hM 9 _ rfl v0) tw_1320 dX9_loads_189 ?_
      refine gg_iload_n (pc := 192) cx 1 rfl dX9_loads_192 rfl ?_
      have q193 := h.1
      have h := h.2
      refine gg_lald (pc := 193) cx (hM 55 _ rfl v0) rfl q193 dX9_loads_193 ?_
      have q194 := h.1
      have h := h.2
      refine gg_last (pc := 194) cx (hM 47 _ rfl v0) (fun _ _ => rfl) q194 dX9_loads_194 ?_
      refine gg_mem (fun M194 eM194 => ?_)
      have h := h M194 eM194
      obtain ⟨n195, en195⟩ : ∃ z : Int32, z = x3 + Int32.ofInt (1) := ⟨_, rfl⟩
      have h := h n195 en195
      refine gg_iinc (pc := 195) cx 1 [(3, .int n195), (0, .ref (gAd t 9 o0))] dX9_loads_195 rfl en195.symm (by decide) rfl ?_
      refine gg_goto (pc := 198) cx (tgt := 171) dX9_loads_198 (by decide) ?_
      refine gg_lv (lv' := [(0, .ref (gAd t 9 o0)), (3, .int n195)]) [1, 0] rfl ?_
      exact ih o0 n195 M194 v0 h
set_option maxRecDepth 100000 in
set_option maxHeartbeats 4000000 in
theorem wk_X9_loads_b156 {t : gT} {X : gX} (cx : g_Cx t X cX9_loads 5 RX9 (none)) (hM : g_hM t) {K : gM → Prop} (hQ : gXQ X = MQ (gXb X) (va_Qv K (g_B t) (g_A t)) (gXa X) (gXs X) rm_X9_loads.cells rm_X9_loads.slots (g_A t)) {R91 : Nat → Int32 → Int32 → gM → Prop} (hR91 : ∀ (o0 : Nat) (x3 : Int32) (x4 : Int32) (M : gM), o0 < 1 → R91 o0 x3 x4 M → G t rm_X9_loads X 5 0 0 M [(0, .ref (gAd t 9 o0)), (3, .int x3), (4, .int x4)] [] 91) {o0 : Nat} {x3 : Int32} {x4 : Int32} {os0 : Nat} {xs1 : Int32} {ys2 : Int64} {M : gM} (v0 : o0 < 1) (vs0 : os0 < 1) (h : wp_X9_loads_b156 R91 K o0 x3 x4 os0 xs1 ys2 M) : G t rm_X9_loads X 5 0 0 M [(0, .ref (gAd t 9 o0)), (3, .int x3), (4, .int x4)] [.long ys2, .int xs1, .ref (gAd t 47 os0)] 156 := by
  have q156 := h.1
  have h := h.2
  refine gg_last (pc := 156) cx (hM 47 _ rfl vs0) (fun _ _ => rfl) q156 dX9_loads_156 ?_
  refine gg_mem (fun M156 eM156 => ?_)
  have h := h M156 eM156
  obtain ⟨n157, en157⟩ : ∃ z : Int32, z = x4 + Int32.ofInt (1) := ⟨_, rfl⟩
  have h := h n157 en157
  refine gg_iinc (pc := 157) cx 2 [(4, .int n157), (0, .ref (gAd t 9 o0)), (3, .int x3)] dX9_loads_157 rfl en157.symm (by decide) rfl ?_
  refine gg_goto (pc := 160) cx (tgt := 91) dX9_loads_160 (by decide) ?_
  refine gg_lv (lv' := [(0, .ref (gAd t 9 o0)), (3, .int x3), (4, .int n157)]) [1, 2, 0] rfl ?_
  exact hR91 o0 x3 n157 M156 v0 h
set_option maxRecDepth 100000 in
set_option maxHeartbeats 4000000 in
theorem wk_X9_loads_b129 {t : gT} {X : gX} (cx : g_Cx t X cX9_loads 5 RX9 (none)) (hM : g_hM t) {K : gM → Prop} (hQ : gXQ X = MQ (gXb X) (va_Qv K (g_B t) (g_A t)) (gXa X) (gXs X) rm_X9_loads.cells rm_X9_loads.slots (g_A t)) {R91 : Nat → Int32 → Int32 → gM → Prop} (hR91 : ∀ (o0 : Nat) (x3 : Int32) (x4 : Int32) (M : gM), o0 < 1 → R91 o0 x3 x4 M → G t rm_X9_loads X 5 0 0 M [(0, .ref (gAd t 9 o0)), (3, .int x3), (4, .int x4)] [] 91) {o0 : Nat} {x3 : Int32} {x4 : Int32} {os0 : Nat} {xs1 : Int32} {M : gM} (v0 : o0 < 1) (vs0 : os0 < 1) (h : wp_X9_loads_b129 R91 K o0 x3 x4 os0 xs1 M) : G t rm_X9_loads X 5 0 0 M [(0, .ref (gAd t 9 o0)), (3, .int x3), (4, .int x4)] [.int xs1, .ref (gAd t 47 os0)] 129 := by
  refine gg_lconst (pc := 129) cx (v := 0) dX9_loads_129 (by decide) ?_
  refine gg_goto (pc := 130) cx (tgt := 156) dX9_loads_130 (by decide) ?_
  exact wk_X9_loads_b156 cx hM hQ hR91 v0 vs0 h
set_option maxRecDepth 100000 in
set_option maxHeartbeats 4000000 in
theorem wk_X9_loads_L91 {t : gT} {X : gX} (cx : g_Cx t X cX9_loads 5 RX9 (none)) (hM : g_hM t) {K : gM → Prop} (hQ : gXQ X = MQ (gXb X) (va_Qv K (g_B t) (g_A t)) (gXa X) (gXs X) rm_X9_loads.cells rm_X9_loads.slots (g_A t)) {R80 : Nat → Int32 → gM → Prop} (hR80 : ∀ (o0 : Nat) (x3 : Int32) (M : gM), o0 < 1 → R80 o0 x3 M → G t rm_X9_loads X 5 0 0 M [(0, .ref (gAd t 9 o0)), (3, .int x3)] [] 80) (f : Nat) : ∀ (o0 : Nat) (x3 : Int32) (x4 : Int32) (M : gM), o0 < 1 → wp_X9_loads_L91 R80 K f o0 x3 x4 M → G t rm_X9_loads X 5 0 0 M [(0, .ref (gAd t 9 o0)), (3, .int x3), (4, .int x4)] [] 91 := by
  induction f with
  | zero => intro _ _ _ _ _ _; exact False.elim (by assumption)
  | succ f ih =>
    intro o0 x3 x4 M v0 h
    refine gg_iload (pc := 91) cx 2 rfl dX9_loads_91 ?_
    refine gg_bipush (pc := 93) cx (v := 12) dX9_loads_93 (by decide) ?_
    refine gg_icmp_ge (pc := 95) cx (tgt := 163) dX9_loads_95 (by decide) (fun c95 => ?_) (fun c95 => ?_)
    · have h := g_it c95 h
      obtain ⟨n163, en163⟩ : ∃ z : Int32, z = x3 + Int32.ofInt (1) := ⟨_, rfl⟩
      have h := h n163 en163
      refine gg_iinc (pc := 163) cx 1 [(3, .int n163), (0, .ref (gAd t 9 o0)), (4, .int x4)] dX9_loads_163 rfl en163.symm (by decide) rfl ?_
      refine gg_goto (pc := 166) cx (tgt := 80) dX9_loads_166 (by decide) ?_
      refine gg_lv (lv' := [(0, .ref (gAd t 9 o0)), (3, .int n163)]) [1, 0] rfl ?_
      exact hR80 o0 n163 M v0 h
    · have h := g_if c95 h
      refine gg_aload_n (pc := 98) cx 0 rfl dX9_loads_98 rfl ?_
      refine gf_Model_v (pc := 99) cx (hM 9 _ rfl v0) tw_1306 dX9_loads_99 ?_
      refine gg_iload_n (pc := 102) cx 1 rfl dX9_loads_102 rfl ?_
      refine gg_callSi (pc := 103) cx cal_X9_node tw_1300 (ct_X9_node cx.tr hM  h) tw_1299 rfl (st := [.ref (gAd t 47 o0)]) rfl (Nat.le_of_ble_eq_true rfl) ⟨Nat.le_of_ble_eq_true rfl, Nat.le_of_ble_eq_true rfl⟩ ⟨Nat.le_of_ble_eq_true rfl, Nat.le_of_ble_eq_true rfl⟩ dX9_loads_103 (fun r103 M103 h => ?_)
      refine gg_iload (pc := 106) cx 2 rfl dX9_loads_106 ?_
      refine gg_iadd (pc := 108) cx dX9_loads_108 ?_
      refine gg_iload (pc := 109) cx 2 rfl dX9_loads_109 ?_
      refine gg_iconst (pc := 111) cx (v := 4) dX9_loads_111 (by decide) ?_
      refine gg_icmp_eq (pc := 112) cx (tgt := 129) dX9_loads_112 (by decide) (fun c112 => ?_) (fun c112 => ?_)
      · have h := g_it c112 h
        exact wk_X9_loads_b129 cx hM hQ ih v0 v0 h
      · have h := g_if c112 h
        refine gg_iload (pc := 115) cx 2 rfl dX9_loads_115 ?_
        refine gg_bipush (pc := 117) cx (v := 6) dX9_loads_117 (by decide) ?_
        refine gg_icmp_eq (pc := 119) cx (tgt := 129) dX9_loads_119 (by decide) (fun c119 => ?_) (fun c119 => ?_)
        · have h := g_it c119 h
          exact wk_X9_loads_b129 cx hM hQ ih v0 v0 h
        · have h := g_if c119 h
          refine gg_iload (pc := 122) cx 2 rfl dX9_loads_122 ?_
          refine gg_bipush (pc := 124) cx (v := 11) dX9_loads_124 (by decide) ?_
          refine gg_icmp_ne (pc := 126) cx (tgt := 133) dX9_loads_126 (by decide) (fun c126 => ?_) (fun c126 => ?_)
          · have h := g_if c126 h
            refine gg_iload (pc := 133) cx 2 rfl dX9_loads_133 ?_
            refine gg_iconst (pc := 135) cx (v := 5) dX9_loads_135 (by decide) ?_
            refine gg_icmp_ne (pc := 136) cx (tgt := 143) dX9_loads_136 (by decide) (fun c136 => ?_) (fun c136 => ?_)
            · have h := g_if c136 h
              refine gg_aload_n (pc := 143) cx 0 rfl dX9_loads_143 rfl ?_
              refine gf_Model_read (pc := 144) cx (hM 9 _ rfl v0) tw_1318 dX9_loads_144 ?_
              refine gg_bipush (pc := 147) cx (v := 12) dX9_loads_147 (by decide) ?_
              refine gg_iload_n (pc := 149) cx 1 rfl dX9_loads_149 rfl ?_
              refine gg_imul (pc := 150) cx dX9_loads_150 ?_
              refine gg_iload (pc := 151) cx 2 rfl dX9_loads_151 ?_
              refine gg_iadd (pc := 153) cx dX9_loads_153 ?_
              have q154 := h.1
              have h := h.2
              refine gg_iald (pc := 154) cx (hM 54 _ rfl v0) rfl q154 dX9_loads_154 ?_
              refine gg_i2l (pc := 155) cx dX9_loads_155 ?_
              exact wk_X9_loads_b156 cx hM hQ ih v0 v0 h
            · have h := g_it c136 h
              refine gg_lconst (pc := 139) cx (v := 1) dX9_loads_139 (by decide) ?_
              refine gg_goto (pc := 140) cx (tgt := 156) dX9_loads_140 (by decide) ?_
              exact wk_X9_loads_b156 cx hM hQ ih v0 v0 h
          · have h := g_it c126 h
            exact wk_X9_loads_b129 cx hM hQ ih v0 v0 h
set_option maxRecDepth 100000 in
set_option maxHeartbeats 4000000 in
theorem wk_X9_loads_L80 {t : gT} {X : gX} (cx : g_Cx t X cX9_loads 5 RX9 (none)) (hM : g_hM t) {K : gM → Prop} (hQ : gXQ X = MQ (gXb X) (va_Qv K (g_B t) (g_A t)) (gXa X) (gXs X) rm_X9_loads.cells rm_X9_loads.slots (g_A t)) (f : Nat) : ∀ (o0 : Nat) (x3 : Int32) (M : gM), o0 < 1 → wp_X9_loads_L80 K f o0 x3 M → G t rm_X9_loads X 5 0 0 M [(0, .ref (gAd t 9 o0)), (3, .int x3)] [] 80 := by
  induction f with
  | zero => intro _ _ _ _ _; exact False.elim (by assumption)
  | succ f ih =>
    intro o0 x3 M v0 h
    refine gg_iload_n (pc := 80) cx 1 rfl dX9_loads_80 rfl ?_
    refine gg_aload_n (pc := 81) cx 0 rfl dX9_loads_81 rfl ?_
    refine gf_Model_readNodes (pc := 82) cx (hM 9 _ rfl v0) tw_1319 dX9_loads_82 ?_
    refine gg_icmp_ge (pc := 85) cx (tgt := 169) dX9_loads_85 (by decide) (fun c85 => ?_) (fun c85 => ?_)
    · have h := g_it c85 h
      refine gg_iconst (pc := 169) cx (v := 0) dX9_loads_169 (by decide) ?_
      refine gg_istore_n (pc := 170) cx [(3, .int 0), (0, .ref (gAd t 9 o0))] dX9_loads_170 rfl (by decide) rfl ?_
      refine gg_lv (lv' := [(0, .ref (gAd t 9 o0)), (3, .int 0)]) [1, 0] rfl ?_
      obtain ⟨f171, h⟩ := h
      exact wk_X9_loads_L171 cx hM hQ f171 o0 0 M v0 h
    · have h := g_if c85 h
      refine gg_iconst (pc := 88) cx (v := 0) dX9_loads_88 (by decide) ?_
      refine gg_istore (pc := 89) cx [(4, .int 0), (0, .ref (gAd t 9 o0)), (3, .int x3)] dX9_loads_89 (by decide) rfl ?_
      refine gg_lv (lv' := [(0, .ref (gAd t 9 o0)), (3, .int x3), (4, .int 0)]) [1, 2, 0] rfl ?_
      obtain ⟨f91, h⟩ := h
      exact wk_X9_loads_L91 cx hM hQ ih f91 o0 x3 0 M v0 h
set_option maxRecDepth 100000 in
set_option maxHeartbeats 4000000 in
theorem wk_X9_loads_L40 {t : gT} {X : gX} (cx : g_Cx t X cX9_loads 5 RX9 (none)) (hM : g_hM t) {K : gM → Prop} (hQ : gXQ X = MQ (gXb X) (va_Qv K (g_B t) (g_A t)) (gXa X) (gXs X) rm_X9_loads.cells rm_X9_loads.slots (g_A t)) (f : Nat) : ∀ (o0 : Nat) (y1 : Int64) (x3 : Int32) (M : gM), o0 < 1 → wp_X9_loads_L40 K f o0 y1 x3 M → G t rm_X9_loads X 5 0 0 M [(0, .ref (gAd t 9 o0)), (1, .long y1), (3, .int x3)] [] 40 := by
  induction f with
  | zero => intro _ _ _ _ _ _; exact False.elim (by assumption)
  | succ f ih =>
    intro o0 y1 x3 M v0 h
    refine gg_iload_n (pc := 40) cx 2 rfl dX9_loads_40 rfl ?_
    refine gg_sipush (pc := 41) cx (v := 7600) dX9_loads_41 (by decide) ?_
    refine gg_icmp_ge (pc := 44) cx (tgt := 60) dX9_loads_44 (by decide) (fun c44 => ?_) (fun c44 => ?_)
    · have h := g_it c44 h
      refine gg_aload_n (pc := 60) cx 0 rfl dX9_loads_60 rfl ?_
      refine gf_Model_v (pc := 61) cx (hM 9 _ rfl v0) tw_1306 dX9_loads_61 ?_
      refine gg_iconst (pc := 64) cx (v := 1) dX9_loads_64 (by decide) ?_
      refine gg_lload_n (pc := 65) cx 1 rfl dX9_loads_65 rfl ?_
      have q66 := h.1
      have h := h.2
      refine gg_last (pc := 66) cx (hM 47 _ rfl v0) (fun _ _ => rfl) q66 dX9_loads_66 ?_
      refine gg_mem (fun M66 eM66 => ?_)
      have h := h M66 eM66
      refine gg_aload_n (pc := 67) cx 0 rfl dX9_loads_67 rfl ?_
      refine gf_Model_v (pc := 68) cx (hM 9 _ rfl v0) tw_1306 dX9_loads_68 ?_
      refine gg_iconst (pc := 71) cx (v := 2) dX9_loads_71 (by decide) ?_
      refine gg_aload_n (pc := 72) cx 0 rfl dX9_loads_72 rfl ?_
      refine gf_Model_readNodes (pc := 73) cx (hM 9 _ rfl v0) tw_1319 dX9_loads_73 ?_
      refine gg_i2l (pc := 76) cx dX9_loads_76 ?_
      have q77 := h.1
      have h := h.2
      refine gg_last (pc := 77) cx (hM 47 _ rfl v0) (fun _ _ => rfl) q77 dX9_loads_77 ?_
      refine gg_mem (fun M77 eM77 => ?_)
      have h := h M77 eM77
      refine gg_iconst (pc := 78) cx (v := 0) dX9_loads_78 (by decide) ?_
      refine gg_istore_n (pc := 79) cx [(3, .int 0), (0, .ref (gAd t 9 o0)), (1, .long y1)] dX9_loads_79 rfl (by decide) rfl ?_
      refine gg_lv (lv' := [(0, .ref (gAd t 9 o0)), (3, .int 0)]) [1, 0] rfl ?_
      obtain ⟨f80, h⟩ := h
      exact wk_X9_loads_L80 cx hM hQ f80 o0 0 M77 v0 h
    · have h := g_if c44 h
      refine gg_aload_n (pc := 47) cx 0 rfl dX9_loads_47 rfl ?_
      refine gf_Model_v (pc := 48) cx (hM 9 _ rfl v0) tw_1306 dX9_loads_48 ?_
      refine gg_iload_n (pc := 51) cx 2 rfl dX9_loads_51 rfl ?_
      refine gg_lconst (pc := 52) cx (v := 0) dX9_loads_52 (by decide) ?_
      have q53 := h.1
      have h := h.2
      refine gg_last (pc := 53) cx (hM 47 _ rfl v0) (fun _ _ => rfl) q53 dX9_loads_53 ?_
      refine gg_mem (fun M53 eM53 => ?_)
      have h := h M53 eM53
      obtain ⟨n54, en54⟩ : ∃ z : Int32, z = x3 + Int32.ofInt (1) := ⟨_, rfl⟩
      have h := h n54 en54
      refine gg_iinc (pc := 54) cx 2 [(3, .int n54), (0, .ref (gAd t 9 o0)), (1, .long y1)] dX9_loads_54 rfl en54.symm (by decide) rfl ?_
      refine gg_goto (pc := 57) cx (tgt := 40) dX9_loads_57 (by decide) ?_
      refine gg_lv (lv' := [(0, .ref (gAd t 9 o0)), (1, .long y1), (3, .int n54)]) [1, 2, 0] rfl ?_
      exact ih o0 y1 n54 M53 v0 h
set_option maxRecDepth 100000 in
set_option maxHeartbeats 4000000 in
theorem wk_X9_loads_L9 {t : gT} {X : gX} (cx : g_Cx t X cX9_loads 5 RX9 (none)) (hM : g_hM t) {K : gM → Prop} (hQ : gXQ X = MQ (gXb X) (va_Qv K (g_B t) (g_A t)) (gXa X) (gXs X) rm_X9_loads.cells rm_X9_loads.slots (g_A t)) (f : Nat) : ∀ (o0 : Nat) (y1 : Int64) (x3 : Int32) (M : gM), o0 < 1 → wp_X9_loads_L9 K f o0 y1 x3 M → G t rm_X9_loads X 5 0 0 M [(0, .ref (gAd t 9 o0)), (1, .long y1), (3, .int x3)] [] 9 := by
  induction f with
  | zero => intro _ _ _ _ _ _; exact False.elim (by assumption)
  | succ f ih =>
    intro o0 y1 x3 M v0 h
    refine gg_iload_n (pc := 9) cx 2 rfl dX9_loads_9 rfl ?_
    refine gg_bipush (pc := 10) cx (v := 16) dX9_loads_10 (by decide) ?_
    refine gg_icmp_ge (pc := 12) cx (tgt := 38) dX9_loads_12 (by decide) (fun c12 => ?_) (fun c12 => ?_)
    · have h := g_it c12 h
      refine gg_iconst (pc := 38) cx (v := 0) dX9_loads_38 (by decide) ?_
      refine gg_istore_n (pc := 39) cx [(3, .int 0), (0, .ref (gAd t 9 o0)), (1, .long y1)] dX9_loads_39 rfl (by decide) rfl ?_
      refine gg_lv (lv' := [(0, .ref (gAd t 9 o0)), (1, .long y1), (3, .int 0)]) [1, 2, 0] rfl ?_
      obtain ⟨f40, h⟩ := h
      exact wk_X9_loads_L40 cx hM hQ f40 o0 y1 0 M v0 h
    · have h := g_if c12 h
      refine gg_aload_n (pc := 15) cx 0 rfl dX9_loads_15 rfl ?_
      refine gf_Model_aside (pc := 16) cx (hM 9 _ rfl v0) tw_1307 dX9_loads_16 ?_
      refine gg_iload_n (pc := 19) cx 2 rfl dX9_loads_19 rfl ?_
      refine gg_aload_n (pc := 20) cx 0 rfl dX9_loads_20 rfl ?_
      refine gf_Model_v (pc := 21) cx (hM 9 _ rfl v0) tw_1306 dX9_loads_21 ?_
      refine gg_iload_n (pc := 24) cx 2 rfl dX9_loads_24 rfl ?_
      refine gg_callSi (pc := 25) cx cal_X9_flow tw_1297 (ct_X9_flow cx.tr hM  h) tw_1296 rfl (st := [.ref (gAd t 47 o0), .int x3, .ref (gAd t 48 o0)]) rfl (Nat.le_of_ble_eq_true rfl) ⟨Nat.le_of_ble_eq_true rfl, Nat.le_of_ble_eq_true rfl⟩ ⟨Nat.le_of_ble_eq_true rfl, Nat.le_of_ble_eq_true rfl⟩ dX9_loads_25 (fun r25 M25 h => ?_)
      refine gg_iconst (pc := 28) cx (v := 0) dX9_loads_28 (by decide) ?_
      refine gg_iadd (pc := 29) cx dX9_loads_29 ?_
      have q30 := h.1
      have h := h.2
      refine gg_lald (pc := 30) cx (hM 47 _ rfl v0) rfl q30 dX9_loads_30 ?_
      have q31 := h.1
      have h := h.2
      refine gg_last (pc := 31) cx (hM 48 _ rfl v0) (fun _ _ => rfl) q31 dX9_loads_31 ?_
      refine gg_mem (fun M31 eM31 => ?_)
      have h := h M31 eM31
      obtain ⟨n32, en32⟩ : ∃ z : Int32, z = x3 + Int32.ofInt (1) := ⟨_, rfl⟩
      have h := h n32 en32
      refine gg_iinc (pc := 32) cx 2 [(3, .int n32), (0, .ref (gAd t 9 o0)), (1, .long y1)] dX9_loads_32 rfl en32.symm (by decide) rfl ?_
      refine gg_goto (pc := 35) cx (tgt := 9) dX9_loads_35 (by decide) ?_
      refine gg_lv (lv' := [(0, .ref (gAd t 9 o0)), (1, .long y1), (3, .int n32)]) [1, 2, 0] rfl ?_
      exact ih o0 y1 n32 M31 v0 h
theorem cal_X9_loads : g_Cal yX9_loads cX9_loads 5 (none) 0 := ⟨tw_17, tw_1295, by decide, by decide, by decide +kernel⟩
theorem calv_X9_loads : g_CalV yX9_loads := ⟨tw_1294, ts_43⟩
set_option maxRecDepth 100000 in
set_option maxHeartbeats 4000000 in
theorem ct_X9_loads {l : Launch} (hl : l.stackTraces = false) {t : gT} (hM : g_hM t) {o0 : Nat} (v0 : o0 < 1) {M : gM} {K : gM → Prop} (h : wp_X9_loads o0 M K) : Met l yX9_loads (g_y yX9_loads cX9_loads 5 (none)) rm_X9_loads (va_Pc [.ref (gAd t 9 o0)] (g_Pre t M)) (va_Qv K (g_B t) (g_A t)) rm_X9_loads.cells rm_X9_loads.slots (g_A t) := by
  refine g_met hl rfl (Nat.le_of_ble_eq_true rfl) (fun X hlX cx hQ => ?_)
  subst hlX
  refine gg_aload_n (pc := 0) cx 0 rfl dX9_loads_0 rfl ?_
  refine gf_Model_v (pc := 1) cx (hM 9 _ rfl v0) tw_1306 dX9_loads_1 ?_
  refine gg_iconst (pc := 4) cx (v := 1) dX9_loads_4 (by decide) ?_
  have q5 := h.1
  have h := h.2
  refine gg_lald (pc := 5) cx (hM 47 _ rfl v0) rfl q5 dX9_loads_5 ?_
  refine gg_topl (fun n6 en6 => ?_)
  have h := h n6 en6
  refine gg_lstore_n (pc := 6) cx [(1, .long n6), (0, .ref (gAd t 9 o0))] dX9_loads_6 rfl (by decide) rfl ?_
  refine gg_iconst (pc := 7) cx (v := 0) dX9_loads_7 (by decide) ?_
  refine gg_istore_n (pc := 8) cx [(3, .int 0), (1, .long n6), (0, .ref (gAd t 9 o0))] dX9_loads_8 rfl (by decide) rfl ?_
  refine gg_lv (lv' := [(0, .ref (gAd t 9 o0)), (1, .long n6), (3, .int 0)]) [2, 1, 0] rfl ?_
  obtain ⟨f9, h⟩ := h
  exact wk_X9_loads_L9 cx hM hQ f9 o0 n6 0 M v0 h
theorem cal_X9_type : g_Cal yX9_type cX9_type 2 (some .int) 1 := ⟨tw_17, tw_1374, by decide, by decide, by decide +kernel⟩
theorem calv_X9_type : g_CalV yX9_type := ⟨tw_1372, tw_1373⟩
set_option maxRecDepth 100000 in
set_option maxHeartbeats 4000000 in
theorem ct_X9_type {l : Launch} (hl : l.stackTraces = false) {t : gT} (hM : g_hM t) {o0 : Nat} {x1 : Int32} (v0 : o0 < 1) {M : gM} {K : Int32 → gM → Prop} (h : wp_X9_type o0 x1 M K) : Met l yX9_type (g_y yX9_type cX9_type 2 (some .int)) rm_X9_type (va_Pc [.ref (gAd t 9 o0), .int x1] (g_Pre t M)) (va_Qi K (g_B t) (g_A t)) rm_X9_type.cells rm_X9_type.slots (g_A t) := by
  refine g_met hl rfl (Nat.le_of_ble_eq_true rfl) (fun X hlX cx hQ => ?_)
  subst hlX
  refine gg_aload_n (pc := 0) cx 0 rfl dX9_type_0 rfl ?_
  refine gg_iconst (pc := 1) cx (v := 0) dX9_type_1 (by decide) ?_
  refine gp_Model_thrown (pc := 2) cx (hM 9 _ rfl v0) tw_1310 dX9_type_2 ?_
  refine gg_mem (fun M2 eM2 => ?_)
  have h := h M2 eM2
  refine gg_iload_n (pc := 5) cx 1 rfl dX9_type_5 rfl ?_
  refine gg_i2l (pc := 6) cx dX9_type_6 ?_
  refine gg_ldc2 (pc := 7) cx (v := 32) tw_1375 dX9_type_7 ?_
  refine gg_ldc2 (pc := 10) cx (v := 126) tw_1376 dX9_type_10 ?_
  refine gg_callSi (pc := 13) cx cal_X9_in tw_1225 (ct_X9_in cx.tr hM  h) tw_1224 rfl (st := []) rfl (Nat.le_of_ble_eq_true rfl) ⟨Nat.le_of_ble_eq_true rfl, Nat.le_of_ble_eq_true rfl⟩ ⟨Nat.le_of_ble_eq_true rfl, Nat.le_of_ble_eq_true rfl⟩ dX9_type_13 (fun r13 M13 h => ?_)
  refine gg_if_ne (pc := 16) cx (tgt := 25) dX9_type_16 (by decide) (fun c16 => ?_) (fun c16 => ?_)
  · have h := g_if c16 h
    refine gg_aload_n (pc := 25) cx 0 rfl dX9_type_25 rfl ?_
    refine gf_Model_typed (pc := 26) cx (hM 9 _ rfl v0) tw_1313 dX9_type_26 ?_
    refine gg_bipush (pc := 29) cx (v := 120) dX9_type_29 (by decide) ?_
    refine gg_icmp_ne (pc := 31) cx (tgt := 40) dX9_type_31 (by decide) (fun c31 => ?_) (fun c31 => ?_)
    · have h := g_if c31 h
      refine gg_aload_n (pc := 40) cx 0 rfl dX9_type_40 rfl ?_
      refine gf_Model_text (pc := 41) cx (hM 9 _ rfl v0) tw_1312 dX9_type_41 ?_
      refine gg_aload_n (pc := 44) cx 0 rfl dX9_type_44 rfl ?_
      refine gf_Model_typed (pc := 45) cx (hM 9 _ rfl v0) tw_1313 dX9_type_45 ?_
      refine gg_iload_n (pc := 48) cx 1 rfl dX9_type_48 rfl ?_
      have q49 := h.1
      have h := h.2
      refine gg_iast (pc := 49) cx (hM 51 _ rfl v0) (fun _ _ => rfl) q49 dX9_type_49 ?_
      refine gg_mem (fun M49 eM49 => ?_)
      have h := h M49 eM49
      refine gg_aload_n (pc := 50) cx 0 rfl dX9_type_50 rfl ?_
      refine gg_dup (pc := 51) cx dX9_type_51 rfl ?_
      refine gf_Model_typed (pc := 52) cx (hM 9 _ rfl v0) tw_1313 dX9_type_52 ?_
      refine gg_iconst (pc := 55) cx (v := 1) dX9_type_55 (by decide) ?_
      refine gg_iadd (pc := 56) cx dX9_type_56 ?_
      refine gp_Model_typed (pc := 57) cx (hM 9 _ rfl v0) tw_1313 dX9_type_57 ?_
      refine gg_mem (fun M57 eM57 => ?_)
      have h := h M57 eM57
      refine gg_aload_n (pc := 60) cx 0 rfl dX9_type_60 rfl ?_
      refine gf_Model_typed (pc := 61) cx (hM 9 _ rfl v0) tw_1313 dX9_type_61 ?_
      exact gg_iret (pc := 64) cx hQ h dX9_type_64
    · have h := g_it c31 h
      refine gg_aload_n (pc := 34) cx 0 rfl dX9_type_34 rfl ?_
      refine gg_iconst (pc := 35) cx (v := 2) dX9_type_35 (by decide) ?_
      refine gg_callVi (pc := 36) cx cal_X9_fails calv_X9_fails (ct_X9_fails cx.tr hM v0 h) tw_1377 (hM 9 _ rfl v0) rfl rfl rfl (st := []) rfl (Nat.le_of_ble_eq_true rfl) ⟨Nat.le_of_ble_eq_true rfl, Nat.le_of_ble_eq_true rfl⟩ ⟨Nat.le_of_ble_eq_true rfl, Nat.le_of_ble_eq_true rfl⟩ dX9_type_36 (fun r36 M36 h => ?_)
      exact gg_iret (pc := 39) cx hQ h dX9_type_39
  · have h := g_it c16 h
    refine gg_aload_n (pc := 19) cx 0 rfl dX9_type_19 rfl ?_
    refine gg_iconst (pc := 20) cx (v := 1) dX9_type_20 (by decide) ?_
    refine gg_callVi (pc := 21) cx cal_X9_fails calv_X9_fails (ct_X9_fails cx.tr hM v0 h) tw_1377 (hM 9 _ rfl v0) rfl rfl rfl (st := []) rfl (Nat.le_of_ble_eq_true rfl) ⟨Nat.le_of_ble_eq_true rfl, Nat.le_of_ble_eq_true rfl⟩ ⟨Nat.le_of_ble_eq_true rfl, Nat.le_of_ble_eq_true rfl⟩ dX9_type_21 (fun r21 M21 h => ?_)
    exact gg_iret (pc := 24) cx hQ h dX9_type_24
theorem cal_X9_clearText : g_Cal yX9_clearText cX9_clearText 2 (some .int) 0 := ⟨tw_17, tw_1384, by decide, by decide, by decide +kernel⟩
theorem calv_X9_clearText : g_CalV yX9_clearText := ⟨tw_1382, tw_1383⟩
set_option maxRecDepth 100000 in
set_option maxHeartbeats 4000000 in
theorem ct_X9_clearText {l : Launch} (hl : l.stackTraces = false) {t : gT} (hM : g_hM t) {o0 : Nat} (v0 : o0 < 1) {M : gM} {K : Int32 → gM → Prop} (h : wp_X9_clearText o0 M K) : Met l yX9_clearText (g_y yX9_clearText cX9_clearText 2 (some .int)) rm_X9_clearText (va_Pc [.ref (gAd t 9 o0)] (g_Pre t M)) (va_Qi K (g_B t) (g_A t)) rm_X9_clearText.cells rm_X9_clearText.slots (g_A t) := by
  refine g_met hl rfl (Nat.le_of_ble_eq_true rfl) (fun X hlX cx hQ => ?_)
  subst hlX
  refine gg_aload_n (pc := 0) cx 0 rfl dX9_clearText_0 rfl ?_
  refine gg_iconst (pc := 1) cx (v := 0) dX9_clearText_1 (by decide) ?_
  refine gp_Model_thrown (pc := 2) cx (hM 9 _ rfl v0) tw_1310 dX9_clearText_2 ?_
  refine gg_mem (fun M2 eM2 => ?_)
  have h := h M2 eM2
  refine gg_aload_n (pc := 5) cx 0 rfl dX9_clearText_5 rfl ?_
  refine gf_Model_typed (pc := 6) cx (hM 9 _ rfl v0) tw_1313 dX9_clearText_6 ?_
  refine gg_topi (fun n9 en9 => ?_)
  have h := h n9 en9
  refine gg_istore_n (pc := 9) cx [(1, .int n9), (0, .ref (gAd t 9 o0))] dX9_clearText_9 rfl (by decide) rfl ?_
  refine gg_aload_n (pc := 10) cx 1 rfl dX9_clearText_10 rfl ?_
  refine gg_iconst (pc := 11) cx (v := 0) dX9_clearText_11 (by decide) ?_
  refine gp_Model_typed (pc := 12) cx (hM 9 _ rfl v0) tw_1313 dX9_clearText_12 ?_
  refine gg_mem (fun M12 eM12 => ?_)
  have h := h M12 eM12
  refine gg_iload_n (pc := 15) cx 0 rfl dX9_clearText_15 rfl ?_
  exact gg_iret (pc := 16) cx hQ h dX9_clearText_16
theorem cal_X9_loadTree : g_Cal yX9_loadTree cX9_loadTree 2 (some .int) 0 := ⟨tw_17, tw_1388, by decide, by decide, by decide +kernel⟩
theorem calv_X9_loadTree : g_CalV yX9_loadTree := ⟨tw_1386, tw_1387⟩
set_option maxRecDepth 100000 in
set_option maxHeartbeats 4000000 in
theorem ct_X9_loadTree {l : Launch} (hl : l.stackTraces = false) {t : gT} (hM : g_hM t) {o0 : Nat} (v0 : o0 < 1) {M : gM} {K : Int32 → gM → Prop} (h : wp_X9_loadTree o0 M K) : Met l yX9_loadTree (g_y yX9_loadTree cX9_loadTree 2 (some .int)) rm_X9_loadTree (va_Pc [.ref (gAd t 9 o0)] (g_Pre t M)) (va_Qi K (g_B t) (g_A t)) rm_X9_loadTree.cells rm_X9_loadTree.slots (g_A t) := by
  refine g_met hl rfl (Nat.le_of_ble_eq_true rfl) (fun X hlX cx hQ => ?_)
  subst hlX
  refine gg_aload_n (pc := 0) cx 0 rfl dX9_loadTree_0 rfl ?_
  refine gg_iconst (pc := 1) cx (v := 0) dX9_loadTree_1 (by decide) ?_
  refine gp_Model_thrown (pc := 2) cx (hM 9 _ rfl v0) tw_1310 dX9_loadTree_2 ?_
  refine gg_mem (fun M2 eM2 => ?_)
  have h := h M2 eM2
  refine gg_aload_n (pc := 5) cx 0 rfl dX9_loadTree_5 rfl ?_
  refine gf_Model_errors (pc := 6) cx (hM 9 _ rfl v0) tw_1314 dX9_loadTree_6 ?_
  refine gg_iconst (pc := 9) cx (v := 0) dX9_loadTree_9 (by decide) ?_
  refine gg_iconst (pc := 10) cx (v := (-1)) dX9_loadTree_10 (by decide) ?_
  have q11 := h.1
  have h := h.2
  refine gg_iast (pc := 11) cx (hM 52 _ rfl v0) (fun _ _ => rfl) q11 dX9_loadTree_11 ?_
  refine gg_mem (fun M11 eM11 => ?_)
  have h := h M11 eM11
  refine gg_aload_n (pc := 12) cx 0 rfl dX9_loadTree_12 rfl ?_
  refine gf_Model_errors (pc := 13) cx (hM 9 _ rfl v0) tw_1314 dX9_loadTree_13 ?_
  refine gg_iconst (pc := 16) cx (v := 1) dX9_loadTree_16 (by decide) ?_
  refine gg_iconst (pc := 17) cx (v := (-1)) dX9_loadTree_17 (by decide) ?_
  have q18 := h.1
  have h := h.2
  refine gg_iast (pc := 18) cx (hM 52 _ rfl v0) (fun _ _ => rfl) q18 dX9_loadTree_18 ?_
  refine gg_mem (fun M18 eM18 => ?_)
  have h := h M18 eM18
  refine gg_aload_n (pc := 19) cx 0 rfl dX9_loadTree_19 rfl ?_
  refine gf_Model_errors (pc := 20) cx (hM 9 _ rfl v0) tw_1314 dX9_loadTree_20 ?_
  refine gg_iconst (pc := 23) cx (v := 2) dX9_loadTree_23 (by decide) ?_
  refine gg_iconst (pc := 24) cx (v := (-1)) dX9_loadTree_24 (by decide) ?_
  have q25 := h.1
  have h := h.2
  refine gg_iast (pc := 25) cx (hM 52 _ rfl v0) (fun _ _ => rfl) q25 dX9_loadTree_25 ?_
  refine gg_mem (fun M25 eM25 => ?_)
  have h := h M25 eM25
  refine gg_aload_n (pc := 26) cx 0 rfl dX9_loadTree_26 rfl ?_
  refine gg_callVv (pc := 27) cx cal_X9_takesText calv_X9_takesText (ct_X9_takesText cx.tr hM v0 h) tw_1389 (hM 9 _ rfl v0) rfl rfl rfl (st := []) rfl (Nat.le_of_ble_eq_true rfl) ⟨Nat.le_of_ble_eq_true rfl, Nat.le_of_ble_eq_true rfl⟩ ⟨Nat.le_of_ble_eq_true rfl, Nat.le_of_ble_eq_true rfl⟩ dX9_loadTree_27 (fun M27 h => ?_)
  refine gg_aload_n (pc := 30) cx 0 rfl dX9_loadTree_30 rfl ?_
  refine gg_callVi (pc := 31) cx cal_X9_reads calv_X9_reads (ct_X9_reads cx.tr hM v0 h) tw_1198 (hM 9 _ rfl v0) rfl rfl rfl (st := []) rfl (Nat.le_of_ble_eq_true rfl) ⟨Nat.le_of_ble_eq_true rfl, Nat.le_of_ble_eq_true rfl⟩ ⟨Nat.le_of_ble_eq_true rfl, Nat.le_of_ble_eq_true rfl⟩ dX9_loadTree_31 (fun r31 M31 h => ?_)
  refine gg_istore_n (pc := 34) cx [(1, .int r31), (0, .ref (gAd t 9 o0))] dX9_loadTree_34 rfl (by decide) rfl ?_
  refine gg_iload_n (pc := 35) cx 0 rfl dX9_loadTree_35 rfl ?_
  refine gg_if_lt (pc := 36) cx (tgt := 48) dX9_loadTree_36 (by decide) (fun c36 => ?_) (fun c36 => ?_)
  · have h := g_it c36 h
    refine gg_iload_n (pc := 48) cx 0 rfl dX9_loadTree_48 rfl ?_
    exact gg_iret (pc := 49) cx hQ h dX9_loadTree_49
  · have h := g_if c36 h
    refine gg_aload_n (pc := 39) cx 1 rfl dX9_loadTree_39 rfl ?_
    refine gg_callVv (pc := 40) cx cal_X9_loads calv_X9_loads (ct_X9_loads cx.tr hM v0 h) tw_1292 (hM 9 _ rfl v0) rfl rfl rfl (st := []) rfl (Nat.le_of_ble_eq_true rfl) ⟨Nat.le_of_ble_eq_true rfl, Nat.le_of_ble_eq_true rfl⟩ ⟨Nat.le_of_ble_eq_true rfl, Nat.le_of_ble_eq_true rfl⟩ dX9_loadTree_40 (fun M40 h => ?_)
    refine gg_aload_n (pc := 43) cx 1 rfl dX9_loadTree_43 rfl ?_
    refine gg_iconst (pc := 44) cx (v := 0) dX9_loadTree_44 (by decide) ?_
    refine gp_Model_typed (pc := 45) cx (hM 9 _ rfl v0) tw_1313 dX9_loadTree_45 ?_
    refine gg_mem (fun M45 eM45 => ?_)
    have h := h M45 eM45
    refine gg_iload_n (pc := 48) cx 0 rfl dX9_loadTree_48 rfl ?_
    exact gg_iret (pc := 49) cx hQ h dX9_loadTree_49
theorem cal_X9_loadTemplate : g_Cal yX9_loadTemplate cX9_loadTemplate 3 (some .int) 1 := ⟨tw_17, tw_1396, by decide, by decide, by decide +kernel⟩
theorem calv_X9_loadTemplate : g_CalV yX9_loadTemplate := ⟨tw_1394, tw_1395⟩
set_option maxRecDepth 100000 in
set_option maxHeartbeats 4000000 in
theorem ct_X9_loadTemplate {l : Launch} (hl : l.stackTraces = false) {t : gT} (hM : g_hM t) {o0 : Nat} {x1 : Int32} (v0 : o0 < 1) {M : gM} {K : Int32 → gM → Prop} (h : wp_X9_loadTemplate o0 x1 M K) : Met l yX9_loadTemplate (g_y yX9_loadTemplate cX9_loadTemplate 3 (some .int)) rm_X9_loadTemplate (va_Pc [.ref (gAd t 9 o0), .int x1] (g_Pre t M)) (va_Qi K (g_B t) (g_A t)) rm_X9_loadTemplate.cells rm_X9_loadTemplate.slots (g_A t) := by
  refine g_met hl rfl (Nat.le_of_ble_eq_true rfl) (fun X hlX cx hQ => ?_)
  subst hlX
  refine gg_aload_n (pc := 0) cx 0 rfl dX9_loadTemplate_0 rfl ?_
  refine gg_iconst (pc := 1) cx (v := 0) dX9_loadTemplate_1 (by decide) ?_
  refine gp_Model_thrown (pc := 2) cx (hM 9 _ rfl v0) tw_1310 dX9_loadTemplate_2 ?_
  refine gg_mem (fun M2 eM2 => ?_)
  have h := h M2 eM2
  refine gg_iload_n (pc := 5) cx 1 rfl dX9_loadTemplate_5 rfl ?_
  refine gg_i2l (pc := 6) cx dX9_loadTemplate_6 ?_
  refine gg_lconst (pc := 7) cx (v := 0) dX9_loadTemplate_7 (by decide) ?_
  refine gg_ldc2 (pc := 8) cx (v := 5) tw_1397 dX9_loadTemplate_8 ?_
  refine gg_callSi (pc := 11) cx cal_X9_in tw_1225 (ct_X9_in cx.tr hM  h) tw_1224 rfl (st := []) rfl (Nat.le_of_ble_eq_true rfl) ⟨Nat.le_of_ble_eq_true rfl, Nat.le_of_ble_eq_true rfl⟩ ⟨Nat.le_of_ble_eq_true rfl, Nat.le_of_ble_eq_true rfl⟩ dX9_loadTemplate_11 (fun r11 M11 h => ?_)
  refine gg_if_ne (pc := 14) cx (tgt := 23) dX9_loadTemplate_14 (by decide) (fun c14 => ?_) (fun c14 => ?_)
  · have h := g_if c14 h
    refine gg_aload_n (pc := 23) cx 0 rfl dX9_loadTemplate_23 rfl ?_
    refine gg_iload_n (pc := 24) cx 1 rfl dX9_loadTemplate_24 rfl ?_
    refine gg_callVv (pc := 25) cx cal_X9_takesTemplate calv_X9_takesTemplate (ct_X9_takesTemplate cx.tr hM v0 h) tw_1194 (hM 9 _ rfl v0) rfl rfl rfl (st := []) rfl (Nat.le_of_ble_eq_true rfl) ⟨Nat.le_of_ble_eq_true rfl, Nat.le_of_ble_eq_true rfl⟩ ⟨Nat.le_of_ble_eq_true rfl, Nat.le_of_ble_eq_true rfl⟩ dX9_loadTemplate_25 (fun M25 h => ?_)
    refine gg_aload_n (pc := 28) cx 0 rfl dX9_loadTemplate_28 rfl ?_
    refine gg_callVi (pc := 29) cx cal_X9_reads calv_X9_reads (ct_X9_reads cx.tr hM v0 h) tw_1198 (hM 9 _ rfl v0) rfl rfl rfl (st := []) rfl (Nat.le_of_ble_eq_true rfl) ⟨Nat.le_of_ble_eq_true rfl, Nat.le_of_ble_eq_true rfl⟩ ⟨Nat.le_of_ble_eq_true rfl, Nat.le_of_ble_eq_true rfl⟩ dX9_loadTemplate_29 (fun r29 M29 h => ?_)
    refine gg_istore_n (pc := 32) cx [(2, .int r29), (0, .ref (gAd t 9 o0)), (1, .int x1)] dX9_loadTemplate_32 rfl (by decide) rfl ?_
    refine gg_aload_n (pc := 33) cx 1 rfl dX9_loadTemplate_33 rfl ?_
    refine gg_callVv (pc := 34) cx cal_X9_loads calv_X9_loads (ct_X9_loads cx.tr hM v0 h) tw_1292 (hM 9 _ rfl v0) rfl rfl rfl (st := []) rfl (Nat.le_of_ble_eq_true rfl) ⟨Nat.le_of_ble_eq_true rfl, Nat.le_of_ble_eq_true rfl⟩ ⟨Nat.le_of_ble_eq_true rfl, Nat.le_of_ble_eq_true rfl⟩ dX9_loadTemplate_34 (fun M34 h => ?_)
    refine gg_iload_n (pc := 37) cx 0 rfl dX9_loadTemplate_37 rfl ?_
    exact gg_iret (pc := 38) cx hQ h dX9_loadTemplate_38
  · have h := g_it c14 h
    refine gg_aload_n (pc := 17) cx 0 rfl dX9_loadTemplate_17 rfl ?_
    refine gg_iconst (pc := 18) cx (v := 1) dX9_loadTemplate_18 (by decide) ?_
    refine gg_callVi (pc := 19) cx cal_X9_fails calv_X9_fails (ct_X9_fails cx.tr hM v0 h) tw_1377 (hM 9 _ rfl v0) rfl rfl rfl (st := []) rfl (Nat.le_of_ble_eq_true rfl) ⟨Nat.le_of_ble_eq_true rfl, Nat.le_of_ble_eq_true rfl⟩ ⟨Nat.le_of_ble_eq_true rfl, Nat.le_of_ble_eq_true rfl⟩ dX9_loadTemplate_19 (fun r19 M19 h => ?_)
    exact gg_iret (pc := 22) cx hQ h dX9_loadTemplate_22
theorem cal_X9_errorPosition : g_Cal yX9_errorPosition cX9_errorPosition 2 (some .int) 1 := ⟨tw_17, tw_1401, by decide, by decide, by decide +kernel⟩
theorem calv_X9_errorPosition : g_CalV yX9_errorPosition := ⟨tw_1399, tw_1400⟩
set_option maxRecDepth 100000 in
set_option maxHeartbeats 4000000 in
theorem ct_X9_errorPosition {l : Launch} (hl : l.stackTraces = false) {t : gT} (hM : g_hM t) {o0 : Nat} {x1 : Int32} (v0 : o0 < 1) {M : gM} {K : Int32 → gM → Prop} (h : wp_X9_errorPosition o0 x1 M K) : Met l yX9_errorPosition (g_y yX9_errorPosition cX9_errorPosition 2 (some .int)) rm_X9_errorPosition (va_Pc [.ref (gAd t 9 o0), .int x1] (g_Pre t M)) (va_Qi K (g_B t) (g_A t)) rm_X9_errorPosition.cells rm_X9_errorPosition.slots (g_A t) := by
  refine g_met hl rfl (Nat.le_of_ble_eq_true rfl) (fun X hlX cx hQ => ?_)
  subst hlX
  refine gg_aload_n (pc := 0) cx 0 rfl dX9_errorPosition_0 rfl ?_
  refine gg_iconst (pc := 1) cx (v := 0) dX9_errorPosition_1 (by decide) ?_
  refine gp_Model_thrown (pc := 2) cx (hM 9 _ rfl v0) tw_1310 dX9_errorPosition_2 ?_
  refine gg_mem (fun M2 eM2 => ?_)
  have h := h M2 eM2
  refine gg_iload_n (pc := 5) cx 1 rfl dX9_errorPosition_5 rfl ?_
  refine gg_if_ge (pc := 6) cx (tgt := 15) dX9_errorPosition_6 (by decide) (fun c6 => ?_) (fun c6 => ?_)
  · have h := g_it c6 h
    refine gg_iload_n (pc := 15) cx 1 rfl dX9_errorPosition_15 rfl ?_
    refine gg_iconst (pc := 16) cx (v := 3) dX9_errorPosition_16 (by decide) ?_
    refine gg_icmp_ge (pc := 17) cx (tgt := 29) dX9_errorPosition_17 (by decide) (fun c17 => ?_) (fun c17 => ?_)
    · have h := g_it c17 h
      refine gg_iconst (pc := 29) cx (v := (-1)) dX9_errorPosition_29 (by decide) ?_
      exact gg_iret (pc := 30) cx hQ h dX9_errorPosition_30
    · have h := g_if c17 h
      refine gg_aload_n (pc := 20) cx 0 rfl dX9_errorPosition_20 rfl ?_
      refine gf_Model_errors (pc := 21) cx (hM 9 _ rfl v0) tw_1314 dX9_errorPosition_21 ?_
      refine gg_iload_n (pc := 24) cx 1 rfl dX9_errorPosition_24 rfl ?_
      have q25 := h.1
      have h := h.2
      refine gg_iald (pc := 25) cx (hM 52 _ rfl v0) rfl q25 dX9_errorPosition_25 ?_
      refine gg_goto (pc := 26) cx (tgt := 30) dX9_errorPosition_26 (by decide) ?_
      exact gg_iret (pc := 30) cx hQ h dX9_errorPosition_30
  · have h := g_if c6 h
    refine gg_aload_n (pc := 9) cx 0 rfl dX9_errorPosition_9 rfl ?_
    refine gg_iconst (pc := 10) cx (v := 1) dX9_errorPosition_10 (by decide) ?_
    refine gg_callVi (pc := 11) cx cal_X9_fails calv_X9_fails (ct_X9_fails cx.tr hM v0 h) tw_1377 (hM 9 _ rfl v0) rfl rfl rfl (st := []) rfl (Nat.le_of_ble_eq_true rfl) ⟨Nat.le_of_ble_eq_true rfl, Nat.le_of_ble_eq_true rfl⟩ ⟨Nat.le_of_ble_eq_true rfl, Nat.le_of_ble_eq_true rfl⟩ dX9_errorPosition_11 (fun r11 M11 h => ?_)
    exact gg_iret (pc := 14) cx hQ h dX9_errorPosition_14
theorem cal_X9_joined : g_Cal yX9_joined cX9_joined 6 (some .long) 3 := ⟨tw_17, tw_1492, by decide, by decide, by decide +kernel⟩
set_option maxRecDepth 100000 in
set_option maxHeartbeats 4000000 in
theorem ct_X9_joined {l : Launch} (hl : l.stackTraces = false) {t : gT} (hM : g_hM t) {y0 : Int64} {y2 : Int64} {y4 : Int64}  {M : gM} {K : Int64 → gM → Prop} (h : wp_X9_joined y0 y2 y4 M K) : Met l yX9_joined (g_y yX9_joined cX9_joined 6 (some .long)) rm_X9_joined (va_Pc [.long y0, .long y2, .long y4] (g_Pre t M)) (va_Ql K (g_B t) (g_A t)) rm_X9_joined.cells rm_X9_joined.slots (g_A t) := by
  refine g_met hl rfl (Nat.le_of_ble_eq_true rfl) (fun X hlX cx hQ => ?_)
  subst hlX
  refine gg_lload_n (pc := 0) cx 0 rfl dX9_joined_0 rfl ?_
  refine gg_ldc2 (pc := 1) cx (v := (-1)) tw_1273 dX9_joined_1 ?_
  refine gg_lcmp_ne (pc := 4) cx (tgt := 13) dX9_joined_4 dX9_joined_5 (by decide) (fun c4 => ?_) (fun c4 => ?_)
  · have h := g_if c4 h
    refine gg_lload_n (pc := 13) cx 0 rfl dX9_joined_13 rfl ?_
    refine gg_ldc2 (pc := 14) cx (v := (-2)) tw_1274 dX9_joined_14 ?_
    refine gg_lcmp_ne (pc := 17) cx (tgt := 26) dX9_joined_17 dX9_joined_18 (by decide) (fun c17 => ?_) (fun c17 => ?_)
    · have h := g_if c17 h
      refine gg_lload_n (pc := 26) cx 0 rfl dX9_joined_26 rfl ?_
      refine gg_ldc2 (pc := 27) cx (v := (-3)) tw_1275 dX9_joined_27 ?_
      refine gg_lcmp_ne (pc := 30) cx (tgt := 39) dX9_joined_30 dX9_joined_31 (by decide) (fun c30 => ?_) (fun c30 => ?_)
      · have h := g_if c30 h
        refine gg_lload_n (pc := 39) cx 0 rfl dX9_joined_39 rfl ?_
        refine gg_ldc2 (pc := 40) cx (v := (-4)) tw_1276 dX9_joined_40 ?_
        refine gg_lcmp_ne (pc := 43) cx (tgt := 63) dX9_joined_43 dX9_joined_44 (by decide) (fun c43 => ?_) (fun c43 => ?_)
        · have h := g_if c43 h
          refine gg_lload_n (pc := 63) cx 0 rfl dX9_joined_63 rfl ?_
          refine gg_ldc2 (pc := 64) cx (v := (-6)) tw_1278 dX9_joined_64 ?_
          refine gg_lcmp_ne (pc := 67) cx (tgt := 87) dX9_joined_67 dX9_joined_68 (by decide) (fun c67 => ?_) (fun c67 => ?_)
          · have h := g_if c67 h
            refine gg_lload_n (pc := 87) cx 1 rfl dX9_joined_87 rfl ?_
            refine gg_lload (pc := 88) cx 2 rfl dX9_joined_88 ?_
            refine gg_lcmp_ge (pc := 90) cx (tgt := 98) dX9_joined_90 dX9_joined_91 (by decide) (fun c90 => ?_) (fun c90 => ?_)
            · have h := g_it c90 h
              refine gg_lload (pc := 98) cx 2 rfl dX9_joined_98 ?_
              exact gg_lret (pc := 100) cx hQ h dX9_joined_100
            · have h := g_if c90 h
              refine gg_lload_n (pc := 94) cx 1 rfl dX9_joined_94 rfl ?_
              refine gg_goto (pc := 95) cx (tgt := 100) dX9_joined_95 (by decide) ?_
              exact gg_lret (pc := 100) cx hQ h dX9_joined_100
          · have h := g_it c67 h
            refine gg_lload_n (pc := 71) cx 1 rfl dX9_joined_71 rfl ?_
            refine gg_lload (pc := 72) cx 2 rfl dX9_joined_72 ?_
            refine gg_lcmp_le (pc := 74) cx (tgt := 82) dX9_joined_74 dX9_joined_75 (by decide) (fun c74 => ?_) (fun c74 => ?_)
            · have h := g_it c74 h
              refine gg_lload (pc := 82) cx 2 rfl dX9_joined_82 ?_
              refine gg_goto (pc := 84) cx (tgt := 100) dX9_joined_84 (by decide) ?_
              exact gg_lret (pc := 100) cx hQ h dX9_joined_100
            · have h := g_if c74 h
              refine gg_lload_n (pc := 78) cx 1 rfl dX9_joined_78 rfl ?_
              refine gg_goto (pc := 79) cx (tgt := 100) dX9_joined_79 (by decide) ?_
              exact gg_lret (pc := 100) cx hQ h dX9_joined_100
        · have h := g_it c43 h
          refine gg_lload (pc := 47) cx 2 rfl dX9_joined_47 ?_
          refine gg_lconst (pc := 49) cx (v := 0) dX9_joined_49 (by decide) ?_
          refine gg_lcmp_ne (pc := 50) cx (tgt := 58) dX9_joined_50 dX9_joined_51 (by decide) (fun c50 => ?_) (fun c50 => ?_)
          · have h := g_if c50 h
            refine gg_lload_n (pc := 58) cx 1 rfl dX9_joined_58 rfl ?_
            refine gg_lload (pc := 59) cx 2 rfl dX9_joined_59 ?_
            refine gg_ldiv (pc := 61) cx dX9_joined_61 h.1 ?_
            have h := h.2
            exact gg_lret (pc := 62) cx hQ h dX9_joined_62
          · have h := g_it c50 h
            refine gg_lconst (pc := 54) cx (v := 0) dX9_joined_54 (by decide) ?_
            refine gg_goto (pc := 55) cx (tgt := 62) dX9_joined_55 (by decide) ?_
            exact gg_lret (pc := 62) cx hQ h dX9_joined_62
      · have h := g_it c30 h
        refine gg_lload_n (pc := 34) cx 1 rfl dX9_joined_34 rfl ?_
        refine gg_lload (pc := 35) cx 2 rfl dX9_joined_35 ?_
        refine gg_lmul (pc := 37) cx dX9_joined_37 ?_
        exact gg_lret (pc := 38) cx hQ h dX9_joined_38
    · have h := g_it c17 h
      refine gg_lload_n (pc := 21) cx 1 rfl dX9_joined_21 rfl ?_
      refine gg_lload (pc := 22) cx 2 rfl dX9_joined_22 ?_
      refine gg_lsub (pc := 24) cx dX9_joined_24 ?_
      exact gg_lret (pc := 25) cx hQ h dX9_joined_25
  · have h := g_it c4 h
    refine gg_lload_n (pc := 8) cx 1 rfl dX9_joined_8 rfl ?_
    refine gg_lload (pc := 9) cx 2 rfl dX9_joined_9 ?_
    refine gg_ladd (pc := 11) cx dX9_joined_11 ?_
    exact gg_lret (pc := 12) cx hQ h dX9_joined_12
set_option maxRecDepth 100000 in
set_option maxHeartbeats 4000000 in
theorem wk_X9_worked_L7 {t : gT} {X : gX} (cx : g_Cx t X cX9_worked 9 RX9 (some .long)) (hM : g_hM t) {K : Int64 → gM → Prop} (hQ : gXQ X = MQ (gXb X) (va_Ql K (g_B t) (g_A t)) (gXa X) (gXs X) rm_X9_worked.cells rm_X9_worked.slots (g_A t)) (f : Nat) : ∀ (o0 : Nat) (y1 : Int64) (y3 : Int64) (x5 : Int32) (x6 : Int32) (M : gM), o0 < 1 → wp_X9_worked_L7 K f o0 y1 y3 x5 x6 M → G t rm_X9_worked X 9 0 0 M [(0, .ref (gAd t 9 o0)), (1, .long y1), (3, .long y3), (5, .int x5), (6, .int x6)] [] 7 := by
  induction f with
  | zero => intro _ _ _ _ _ _ _ _; exact False.elim (by assumption)
  | succ f ih =>
    intro o0 y1 y3 x5 x6 M v0 h
    refine gg_iload (pc := 7) cx 4 rfl dX9_worked_7 ?_
    refine gg_i2l (pc := 9) cx dX9_worked_9 ?_
    refine gg_lload_n (pc := 10) cx 1 rfl dX9_worked_10 rfl ?_
    refine gg_lload_n (pc := 11) cx 2 rfl dX9_worked_11 rfl ?_
    refine gg_ladd (pc := 12) cx dX9_worked_12 ?_
    refine gg_lcmp_ge (pc := 13) cx (tgt := 158) dX9_worked_13 dX9_worked_14 (by decide) (fun c13 => ?_) (fun c13 => ?_)
    · have h := g_it c13 h
      refine gg_aload_n (pc := 158) cx 0 rfl dX9_worked_158 rfl ?_
      refine gf_Model_pile (pc := 159) cx (hM 9 _ rfl v0) tw_1324 dX9_worked_159 ?_
      refine gg_iconst (pc := 162) cx (v := 0) dX9_worked_162 (by decide) ?_
      have q163 := h.1
      have h := h.2
      refine gg_lald (pc := 163) cx (hM 57 _ rfl v0) rfl q163 dX9_worked_163 ?_
      exact gg_lret (pc := 164) cx hQ h dX9_worked_164
    · have h := g_if c13 h
      refine gg_aload_n (pc := 17) cx 0 rfl dX9_worked_17 rfl ?_
      refine gf_Model_v (pc := 18) cx (hM 9 _ rfl v0) tw_1306 dX9_worked_18 ?_
      refine gg_sipush (pc := 21) cx (v := 480) dX9_worked_21 (by decide) ?_
      refine gg_iload (pc := 24) cx 4 rfl dX9_worked_24 ?_
      refine gg_iadd (pc := 26) cx dX9_worked_26 ?_
      have q27 := h.1
      have h := h.2
      refine gg_lald (pc := 27) cx (hM 47 _ rfl v0) rfl q27 dX9_worked_27 ?_
      refine gg_topl (fun n28 en28 => ?_)
      have h := h n28 en28
      refine gg_lstore (pc := 28) cx [(7, .long n28), (0, .ref (gAd t 9 o0)), (1, .long y1), (3, .long y3), (5, .int x5), (6, .int x6)] dX9_worked_28 (by decide) rfl ?_
      refine gg_lload (pc := 30) cx 0 rfl dX9_worked_30 ?_
      refine gg_lconst (pc := 32) cx (v := 0) dX9_worked_32 (by decide) ?_
      refine gg_lcmp_lt (pc := 33) cx (tgt := 52) dX9_worked_33 dX9_worked_34 (by decide) (fun c33 => ?_) (fun c33 => ?_)
      · have h := g_it c33 h
        refine gg_lload (pc := 52) cx 0 rfl dX9_worked_52 ?_
        refine gg_ldc2 (pc := 54) cx (v := (-10)) tw_1247 dX9_worked_54 ?_
        refine gg_lcmp_gt (pc := 57) cx (tgt := 86) dX9_worked_57 dX9_worked_58 (by decide) (fun c57 => ?_) (fun c57 => ?_)
        · have h := g_it c57 h
          refine gg_lload (pc := 86) cx 0 rfl dX9_worked_86 ?_
          refine gg_ldc2 (pc := 88) cx (v := (-5)) tw_1277 dX9_worked_88 ?_
          refine gg_lcmp_ne (pc := 91) cx (tgt := 117) dX9_worked_91 dX9_worked_92 (by decide) (fun c91 => ?_) (fun c91 => ?_)
          · have h := g_if c91 h
            refine gg_aload_n (pc := 117) cx 1 rfl dX9_worked_117 rfl ?_
            refine gf_Model_pile (pc := 118) cx (hM 9 _ rfl v0) tw_1324 dX9_worked_118 ?_
            refine gg_iload (pc := 121) cx 4 rfl dX9_worked_121 ?_
            refine gg_iconst (pc := 123) cx (v := 2) dX9_worked_123 (by decide) ?_
            refine gg_isub (pc := 124) cx dX9_worked_124 ?_
            refine gg_lload (pc := 125) cx 0 rfl dX9_worked_125 ?_
            refine gg_aload_n (pc := 127) cx 1 rfl dX9_worked_127 rfl ?_
            refine gf_Model_pile (pc := 128) cx (hM 9 _ rfl v0) tw_1324 dX9_worked_128 ?_
            refine gg_iload (pc := 131) cx 4 rfl dX9_worked_131 ?_
            refine gg_iconst (pc := 133) cx (v := 2) dX9_worked_133 (by decide) ?_
            refine gg_isub (pc := 134) cx dX9_worked_134 ?_
            have q135 := h.1
            have h := h.2
            refine gg_lald (pc := 135) cx (hM 57 _ rfl v0) rfl q135 dX9_worked_135 ?_
            refine gg_aload_n (pc := 136) cx 1 rfl dX9_worked_136 rfl ?_
            refine gf_Model_pile (pc := 137) cx (hM 9 _ rfl v0) tw_1324 dX9_worked_137 ?_
            refine gg_iload (pc := 140) cx 4 rfl dX9_worked_140 ?_
            refine gg_iconst (pc := 142) cx (v := 1) dX9_worked_142 (by decide) ?_
            refine gg_isub (pc := 143) cx dX9_worked_143 ?_
            have q144 := h.1
            have h := h.2
            refine gg_lald (pc := 144) cx (hM 57 _ rfl v0) rfl q144 dX9_worked_144 ?_
            refine gg_callSl (pc := 145) cx cal_X9_joined tw_1491 (ct_X9_joined cx.tr hM  h) tw_1490 rfl (st := [.int (x5 - 2), .ref (gAd t 57 o0)]) rfl (Nat.le_of_ble_eq_true rfl) ⟨Nat.le_of_ble_eq_true rfl, Nat.le_of_ble_eq_true rfl⟩ ⟨Nat.le_of_ble_eq_true rfl, Nat.le_of_ble_eq_true rfl⟩ dX9_worked_145 (fun r145 M145 h => ?_)
            have q148 := h.1
            have h := h.2
            refine gg_last (pc := 148) cx (hM 57 _ rfl v0) (fun _ _ => rfl) q148 dX9_worked_148 ?_
            refine gg_mem (fun M148 eM148 => ?_)
            have h := h M148 eM148
            obtain ⟨n149, en149⟩ : ∃ z : Int32, z = x5 + Int32.ofInt (-1) := ⟨_, rfl⟩
            have h := h n149 en149
            refine gg_iinc (pc := 149) cx 4 [(5, .int n149), (7, .long n28), (0, .ref (gAd t 9 o0)), (1, .long y1), (3, .long y3), (6, .int x6)] dX9_worked_149 rfl en149.symm (by decide) rfl ?_
            obtain ⟨n152, en152⟩ : ∃ z : Int32, z = x6 + Int32.ofInt (1) := ⟨_, rfl⟩
            have h := h n152 en152
            refine gg_iinc (pc := 152) cx 5 [(6, .int n152), (5, .int n149), (7, .long n28), (0, .ref (gAd t 9 o0)), (1, .long y1), (3, .long y3)] dX9_worked_152 rfl en152.symm (by decide) rfl ?_
            refine gg_goto (pc := 155) cx (tgt := 7) dX9_worked_155 (by decide) ?_
            refine gg_lv (lv' := [(0, .ref (gAd t 9 o0)), (1, .long y1), (3, .long y3), (5, .int n149), (6, .int n152)]) [3, 4, 5, 1, 0] rfl ?_
            exact ih o0 y1 y3 n149 n152 M148 v0 h
          · have h := g_it c91 h
            refine gg_aload_n (pc := 95) cx 1 rfl dX9_worked_95 rfl ?_
            refine gf_Model_pile (pc := 96) cx (hM 9 _ rfl v0) tw_1324 dX9_worked_96 ?_
            refine gg_iload (pc := 99) cx 4 rfl dX9_worked_99 ?_
            refine gg_iconst (pc := 101) cx (v := 1) dX9_worked_101 (by decide) ?_
            refine gg_isub (pc := 102) cx dX9_worked_102 ?_
            refine gg_aload_n (pc := 103) cx 1 rfl dX9_worked_103 rfl ?_
            refine gf_Model_pile (pc := 104) cx (hM 9 _ rfl v0) tw_1324 dX9_worked_104 ?_
            refine gg_iload (pc := 107) cx 4 rfl dX9_worked_107 ?_
            refine gg_iconst (pc := 109) cx (v := 1) dX9_worked_109 (by decide) ?_
            refine gg_isub (pc := 110) cx dX9_worked_110 ?_
            have q111 := h.1
            have h := h.2
            refine gg_lald (pc := 111) cx (hM 57 _ rfl v0) rfl q111 dX9_worked_111 ?_
            refine gg_lneg (pc := 112) cx dX9_worked_112 ?_
            have q113 := h.1
            have h := h.2
            refine gg_last (pc := 113) cx (hM 57 _ rfl v0) (fun _ _ => rfl) q113 dX9_worked_113 ?_
            refine gg_mem (fun M113 eM113 => ?_)
            have h := h M113 eM113
            refine gg_goto (pc := 114) cx (tgt := 152) dX9_worked_114 (by decide) ?_
            obtain ⟨n152, en152⟩ : ∃ z : Int32, z = x6 + Int32.ofInt (1) := ⟨_, rfl⟩
            have h := h n152 en152
            refine gg_iinc (pc := 152) cx 5 [(6, .int n152), (7, .long n28), (0, .ref (gAd t 9 o0)), (1, .long y1), (3, .long y3), (5, .int x5)] dX9_worked_152 rfl en152.symm (by decide) rfl ?_
            refine gg_goto (pc := 155) cx (tgt := 7) dX9_worked_155 (by decide) ?_
            refine gg_lv (lv' := [(0, .ref (gAd t 9 o0)), (1, .long y1), (3, .long y3), (5, .int x5), (6, .int n152)]) [2, 3, 4, 5, 0] rfl ?_
            exact ih o0 y1 y3 x5 n152 M113 v0 h
        · have h := g_if c57 h
          refine gg_aload_n (pc := 61) cx 1 rfl dX9_worked_61 rfl ?_
          refine gf_Model_pile (pc := 62) cx (hM 9 _ rfl v0) tw_1324 dX9_worked_62 ?_
          refine gg_iload (pc := 65) cx 4 rfl dX9_worked_65 ?_
          refine gg_aload_n (pc := 67) cx 1 rfl dX9_worked_67 rfl ?_
          refine gf_Model_has (pc := 68) cx (hM 9 _ rfl v0) tw_1325 dX9_worked_68 ?_
          refine gg_ldc2 (pc := 71) cx (v := (-10)) tw_1247 dX9_worked_71 ?_
          refine gg_lload (pc := 74) cx 0 rfl dX9_worked_74 ?_
          refine gg_lsub (pc := 76) cx dX9_worked_76 ?_
          refine gg_l2i (pc := 77) cx dX9_worked_77 ?_
          have q78 := h.1
          have h := h.2
          refine gg_lald (pc := 78) cx (hM 58 _ rfl v0) rfl q78 dX9_worked_78 ?_
          have q79 := h.1
          have h := h.2
          refine gg_last (pc := 79) cx (hM 57 _ rfl v0) (fun _ _ => rfl) q79 dX9_worked_79 ?_
          refine gg_mem (fun M79 eM79 => ?_)
          have h := h M79 eM79
          obtain ⟨n80, en80⟩ : ∃ z : Int32, z = x5 + Int32.ofInt (1) := ⟨_, rfl⟩
          have h := h n80 en80
          refine gg_iinc (pc := 80) cx 4 [(5, .int n80), (7, .long n28), (0, .ref (gAd t 9 o0)), (1, .long y1), (3, .long y3), (6, .int x6)] dX9_worked_80 rfl en80.symm (by decide) rfl ?_
          refine gg_goto (pc := 83) cx (tgt := 152) dX9_worked_83 (by decide) ?_
          obtain ⟨n152, en152⟩ : ∃ z : Int32, z = x6 + Int32.ofInt (1) := ⟨_, rfl⟩
          have h := h n152 en152
          refine gg_iinc (pc := 152) cx 5 [(6, .int n152), (5, .int n80), (7, .long n28), (0, .ref (gAd t 9 o0)), (1, .long y1), (3, .long y3)] dX9_worked_152 rfl en152.symm (by decide) rfl ?_
          refine gg_goto (pc := 155) cx (tgt := 7) dX9_worked_155 (by decide) ?_
          refine gg_lv (lv' := [(0, .ref (gAd t 9 o0)), (1, .long y1), (3, .long y3), (5, .int n80), (6, .int n152)]) [3, 4, 5, 1, 0] rfl ?_
          exact ih o0 y1 y3 n80 n152 M79 v0 h
      · have h := g_if c33 h
        refine gg_aload_n (pc := 37) cx 1 rfl dX9_worked_37 rfl ?_
        refine gf_Model_pile (pc := 38) cx (hM 9 _ rfl v0) tw_1324 dX9_worked_38 ?_
        refine gg_iload (pc := 41) cx 4 rfl dX9_worked_41 ?_
        refine gg_lload (pc := 43) cx 0 rfl dX9_worked_43 ?_
        have q45 := h.1
        have h := h.2
        refine gg_last (pc := 45) cx (hM 57 _ rfl v0) (fun _ _ => rfl) q45 dX9_worked_45 ?_
        refine gg_mem (fun M45 eM45 => ?_)
        have h := h M45 eM45
        obtain ⟨n46, en46⟩ : ∃ z : Int32, z = x5 + Int32.ofInt (1) := ⟨_, rfl⟩
        have h := h n46 en46
        refine gg_iinc (pc := 46) cx 4 [(5, .int n46), (7, .long n28), (0, .ref (gAd t 9 o0)), (1, .long y1), (3, .long y3), (6, .int x6)] dX9_worked_46 rfl en46.symm (by decide) rfl ?_
        refine gg_goto (pc := 49) cx (tgt := 152) dX9_worked_49 (by decide) ?_
        obtain ⟨n152, en152⟩ : ∃ z : Int32, z = x6 + Int32.ofInt (1) := ⟨_, rfl⟩
        have h := h n152 en152
        refine gg_iinc (pc := 152) cx 5 [(6, .int n152), (5, .int n46), (7, .long n28), (0, .ref (gAd t 9 o0)), (1, .long y1), (3, .long y3)] dX9_worked_152 rfl en152.symm (by decide) rfl ?_
        refine gg_goto (pc := 155) cx (tgt := 7) dX9_worked_155 (by decide) ?_
        refine gg_lv (lv' := [(0, .ref (gAd t 9 o0)), (1, .long y1), (3, .long y3), (5, .int n46), (6, .int n152)]) [3, 4, 5, 1, 0] rfl ?_
        exact ih o0 y1 y3 n46 n152 M45 v0 h
theorem cal_X9_worked : g_Cal yX9_worked cX9_worked 9 (some .long) 2 := ⟨tw_17, tw_1489, by decide, by decide, by decide +kernel⟩
theorem calv_X9_worked : g_CalV yX9_worked := ⟨tw_1488, ts_54⟩
set_option maxRecDepth 100000 in
set_option maxHeartbeats 4000000 in
theorem ct_X9_worked {l : Launch} (hl : l.stackTraces = false) {t : gT} (hM : g_hM t) {o0 : Nat} {y1 : Int64} {y3 : Int64} (v0 : o0 < 1) {M : gM} {K : Int64 → gM → Prop} (h : wp_X9_worked o0 y1 y3 M K) : Met l yX9_worked (g_y yX9_worked cX9_worked 9 (some .long)) rm_X9_worked (va_Pc [.ref (gAd t 9 o0), .long y1, .long y3] (g_Pre t M)) (va_Ql K (g_B t) (g_A t)) rm_X9_worked.cells rm_X9_worked.slots (g_A t) := by
  refine g_met hl rfl (Nat.le_of_ble_eq_true rfl) (fun X hlX cx hQ => ?_)
  subst hlX
  refine gg_iconst (pc := 0) cx (v := 0) dX9_worked_0 (by decide) ?_
  refine gg_istore (pc := 1) cx [(5, .int 0), (0, .ref (gAd t 9 o0)), (1, .long y1), (3, .long y3)] dX9_worked_1 (by decide) rfl ?_
  refine gg_lload_n (pc := 3) cx 2 rfl dX9_worked_3 rfl ?_
  refine gg_l2i (pc := 4) cx dX9_worked_4 ?_
  refine gg_topi (fun n5 en5 => ?_)
  have h := h n5 en5
  refine gg_istore (pc := 5) cx [(6, .int n5), (5, .int 0), (0, .ref (gAd t 9 o0)), (1, .long y1), (3, .long y3)] dX9_worked_5 (by decide) rfl ?_
  refine gg_lv (lv' := [(0, .ref (gAd t 9 o0)), (1, .long y1), (3, .long y3), (5, .int 0), (6, .int n5)]) [2, 3, 4, 1, 0] rfl ?_
  obtain ⟨f7, h⟩ := h
  exact wk_X9_worked_L7 cx hM hQ f7 o0 y1 y3 0 n5 M v0 h
theorem cal_X9_prepares : g_Cal yX9_prepares cX9_prepares 7 (none) 4 := ⟨tw_17, tw_1485, by decide, by decide, by decide +kernel⟩
theorem calv_X9_prepares : g_CalV yX9_prepares := ⟨tw_1484, ts_53⟩
set_option maxRecDepth 100000 in
set_option maxHeartbeats 4000000 in
theorem ct_X9_prepares {l : Launch} (hl : l.stackTraces = false) {t : gT} (hM : g_hM t) {o0 : Nat} {x1 : Int32} {x2 : Int32} {y3 : Int64} {y5 : Int64} (v0 : o0 < 1) {M : gM} {K : gM → Prop} (h : wp_X9_prepares o0 x1 x2 y3 y5 M K) : Met l yX9_prepares (g_y yX9_prepares cX9_prepares 7 (none)) rm_X9_prepares (va_Pc [.ref (gAd t 9 o0), .int x1, .int x2, .long y3, .long y5] (g_Pre t M)) (va_Qv K (g_B t) (g_A t)) rm_X9_prepares.cells rm_X9_prepares.slots (g_A t) := by
  refine g_met hl rfl (Nat.le_of_ble_eq_true rfl) (fun X hlX cx hQ => ?_)
  subst hlX
  refine gg_aload_n (pc := 0) cx 0 rfl dX9_prepares_0 rfl ?_
  refine gf_Model_has (pc := 1) cx (hM 9 _ rfl v0) tw_1325 dX9_prepares_1 ?_
  refine gg_iconst (pc := 4) cx (v := 3) dX9_prepares_4 (by decide) ?_
  refine gg_iload_n (pc := 5) cx 2 rfl dX9_prepares_5 rfl ?_
  refine gg_i2l (pc := 6) cx dX9_prepares_6 ?_
  have q7 := h.1
  have h := h.2
  refine gg_last (pc := 7) cx (hM 58 _ rfl v0) (fun _ _ => rfl) q7 dX9_prepares_7 ?_
  refine gg_mem (fun M7 eM7 => ?_)
  have h := h M7 eM7
  refine gg_aload_n (pc := 8) cx 0 rfl dX9_prepares_8 rfl ?_
  refine gf_Model_has (pc := 9) cx (hM 9 _ rfl v0) tw_1325 dX9_prepares_9 ?_
  refine gg_iconst (pc := 12) cx (v := 4) dX9_prepares_12 (by decide) ?_
  refine gg_lload_n (pc := 13) cx 3 rfl dX9_prepares_13 rfl ?_
  have q14 := h.1
  have h := h.2
  refine gg_last (pc := 14) cx (hM 58 _ rfl v0) (fun _ _ => rfl) q14 dX9_prepares_14 ?_
  refine gg_mem (fun M14 eM14 => ?_)
  have h := h M14 eM14
  refine gg_aload_n (pc := 15) cx 0 rfl dX9_prepares_15 rfl ?_
  refine gf_Model_has (pc := 16) cx (hM 9 _ rfl v0) tw_1325 dX9_prepares_16 ?_
  refine gg_iconst (pc := 19) cx (v := 5) dX9_prepares_19 (by decide) ?_
  refine gg_aload_n (pc := 20) cx 0 rfl dX9_prepares_20 rfl ?_
  refine gf_Model_v (pc := 21) cx (hM 9 _ rfl v0) tw_1306 dX9_prepares_21 ?_
  refine gg_sipush (pc := 24) cx (v := 280) dX9_prepares_24 (by decide) ?_
  refine gg_bipush (pc := 27) cx (v := 16) dX9_prepares_27 (by decide) ?_
  refine gg_iload_n (pc := 29) cx 1 rfl dX9_prepares_29 rfl ?_
  refine gg_imul (pc := 30) cx dX9_prepares_30 ?_
  refine gg_iadd (pc := 31) cx dX9_prepares_31 ?_
  refine gg_iload_n (pc := 32) cx 2 rfl dX9_prepares_32 rfl ?_
  refine gg_iadd (pc := 33) cx dX9_prepares_33 ?_
  have q34 := h.1
  have h := h.2
  refine gg_lald (pc := 34) cx (hM 47 _ rfl v0) rfl q34 dX9_prepares_34 ?_
  have q35 := h.1
  have h := h.2
  refine gg_last (pc := 35) cx (hM 58 _ rfl v0) (fun _ _ => rfl) q35 dX9_prepares_35 ?_
  refine gg_mem (fun M35 eM35 => ?_)
  have h := h M35 eM35
  refine gg_aload_n (pc := 36) cx 0 rfl dX9_prepares_36 rfl ?_
  refine gf_Model_has (pc := 37) cx (hM 9 _ rfl v0) tw_1325 dX9_prepares_37 ?_
  refine gg_bipush (pc := 40) cx (v := 6) dX9_prepares_40 (by decide) ?_
  refine gg_lload (pc := 42) cx 4 rfl dX9_prepares_42 ?_
  have q44 := h.1
  have h := h.2
  refine gg_last (pc := 44) cx (hM 58 _ rfl v0) (fun _ _ => rfl) q44 dX9_prepares_44 ?_
  refine gg_mem (fun M44 eM44 => ?_)
  have h := h M44 eM44
  refine gg_aload_n (pc := 45) cx 0 rfl dX9_prepares_45 rfl ?_
  refine gf_Model_has (pc := 46) cx (hM 9 _ rfl v0) tw_1325 dX9_prepares_46 ?_
  refine gg_bipush (pc := 49) cx (v := 7) dX9_prepares_49 (by decide) ?_
  refine gg_aload_n (pc := 51) cx 0 rfl dX9_prepares_51 rfl ?_
  refine gf_Model_v (pc := 52) cx (hM 9 _ rfl v0) tw_1306 dX9_prepares_52 ?_
  refine gg_iload_n (pc := 55) cx 1 rfl dX9_prepares_55 rfl ?_
  refine gg_callSi (pc := 56) cx cal_X9_node tw_1300 (ct_X9_node cx.tr hM  h) tw_1299 rfl (st := [.ref (gAd t 47 o0), .int 7, .ref (gAd t 58 o0)]) rfl (Nat.le_of_ble_eq_true rfl) ⟨Nat.le_of_ble_eq_true rfl, Nat.le_of_ble_eq_true rfl⟩ ⟨Nat.le_of_ble_eq_true rfl, Nat.le_of_ble_eq_true rfl⟩ dX9_prepares_56 (fun r56 M56 h => ?_)
  refine gg_bipush (pc := 59) cx (v := 6) dX9_prepares_59 (by decide) ?_
  refine gg_iadd (pc := 61) cx dX9_prepares_61 ?_
  have q62 := h.1
  have h := h.2
  refine gg_lald (pc := 62) cx (hM 47 _ rfl v0) rfl q62 dX9_prepares_62 ?_
  have q63 := h.1
  have h := h.2
  refine gg_last (pc := 63) cx (hM 58 _ rfl v0) (fun _ _ => rfl) q63 dX9_prepares_63 ?_
  refine gg_mem (fun M63 eM63 => ?_)
  have h := h M63 eM63
  refine gg_aload_n (pc := 64) cx 0 rfl dX9_prepares_64 rfl ?_
  refine gf_Model_has (pc := 65) cx (hM 9 _ rfl v0) tw_1325 dX9_prepares_65 ?_
  refine gg_bipush (pc := 68) cx (v := 8) dX9_prepares_68 (by decide) ?_
  refine gg_aload_n (pc := 70) cx 0 rfl dX9_prepares_70 rfl ?_
  refine gf_Model_v (pc := 71) cx (hM 9 _ rfl v0) tw_1306 dX9_prepares_71 ?_
  refine gg_iload_n (pc := 74) cx 1 rfl dX9_prepares_74 rfl ?_
  refine gg_callSi (pc := 75) cx cal_X9_node tw_1300 (ct_X9_node cx.tr hM  h) tw_1299 rfl (st := [.ref (gAd t 47 o0), .int 8, .ref (gAd t 58 o0)]) rfl (Nat.le_of_ble_eq_true rfl) ⟨Nat.le_of_ble_eq_true rfl, Nat.le_of_ble_eq_true rfl⟩ ⟨Nat.le_of_ble_eq_true rfl, Nat.le_of_ble_eq_true rfl⟩ dX9_prepares_75 (fun r75 M75 h => ?_)
  refine gg_bipush (pc := 78) cx (v := 11) dX9_prepares_78 (by decide) ?_
  refine gg_iadd (pc := 80) cx dX9_prepares_80 ?_
  have q81 := h.1
  have h := h.2
  refine gg_lald (pc := 81) cx (hM 47 _ rfl v0) rfl q81 dX9_prepares_81 ?_
  have q82 := h.1
  have h := h.2
  refine gg_last (pc := 82) cx (hM 58 _ rfl v0) (fun _ _ => rfl) q82 dX9_prepares_82 ?_
  refine gg_mem (fun M82 eM82 => ?_)
  have h := h M82 eM82
  exact gg_vret (pc := 83) cx hQ h dX9_prepares_83
theorem cal_X9_takesPacket : g_Cal yX9_takesPacket cX9_takesPacket 2 (none) 1 := ⟨tw_17, tw_1481, by decide, by decide, by decide +kernel⟩
theorem calv_X9_takesPacket : g_CalV yX9_takesPacket := ⟨tw_1480, ts_52⟩
set_option maxRecDepth 100000 in
set_option maxHeartbeats 4000000 in
theorem ct_X9_takesPacket {l : Launch} (hl : l.stackTraces = false) {t : gT} (hM : g_hM t) {o0 : Nat} {x1 : Int32} (v0 : o0 < 1) {M : gM} {K : gM → Prop} (h : wp_X9_takesPacket o0 x1 M K) : Met l yX9_takesPacket (g_y yX9_takesPacket cX9_takesPacket 2 (none)) rm_X9_takesPacket (va_Pc [.ref (gAd t 9 o0), .int x1] (g_Pre t M)) (va_Qv K (g_B t) (g_A t)) rm_X9_takesPacket.cells rm_X9_takesPacket.slots (g_A t) := by
  refine g_met hl rfl (Nat.le_of_ble_eq_true rfl) (fun X hlX cx hQ => ?_)
  subst hlX
  refine gg_aload_n (pc := 0) cx 0 rfl dX9_takesPacket_0 rfl ?_
  refine gf_Model_has (pc := 1) cx (hM 9 _ rfl v0) tw_1325 dX9_takesPacket_1 ?_
  refine gg_iconst (pc := 4) cx (v := 0) dX9_takesPacket_4 (by decide) ?_
  refine gg_aload_n (pc := 5) cx 0 rfl dX9_takesPacket_5 rfl ?_
  refine gf_Model_v (pc := 6) cx (hM 9 _ rfl v0) tw_1306 dX9_takesPacket_6 ?_
  refine gg_iload_n (pc := 9) cx 1 rfl dX9_takesPacket_9 rfl ?_
  refine gg_callSi (pc := 10) cx cal_X9_packet tw_1472 (ct_X9_packet cx.tr hM  h) tw_1471 rfl (st := [.ref (gAd t 47 o0), .int 0, .ref (gAd t 58 o0)]) rfl (Nat.le_of_ble_eq_true rfl) ⟨Nat.le_of_ble_eq_true rfl, Nat.le_of_ble_eq_true rfl⟩ ⟨Nat.le_of_ble_eq_true rfl, Nat.le_of_ble_eq_true rfl⟩ dX9_takesPacket_10 (fun r10 M10 h => ?_)
  refine gg_iconst (pc := 13) cx (v := 2) dX9_takesPacket_13 (by decide) ?_
  refine gg_iadd (pc := 14) cx dX9_takesPacket_14 ?_
  have q15 := h.1
  have h := h.2
  refine gg_lald (pc := 15) cx (hM 47 _ rfl v0) rfl q15 dX9_takesPacket_15 ?_
  have q16 := h.1
  have h := h.2
  refine gg_last (pc := 16) cx (hM 58 _ rfl v0) (fun _ _ => rfl) q16 dX9_takesPacket_16 ?_
  refine gg_mem (fun M16 eM16 => ?_)
  have h := h M16 eM16
  refine gg_aload_n (pc := 17) cx 0 rfl dX9_takesPacket_17 rfl ?_
  refine gf_Model_has (pc := 18) cx (hM 9 _ rfl v0) tw_1325 dX9_takesPacket_18 ?_
  refine gg_iconst (pc := 21) cx (v := 1) dX9_takesPacket_21 (by decide) ?_
  refine gg_aload_n (pc := 22) cx 0 rfl dX9_takesPacket_22 rfl ?_
  refine gf_Model_v (pc := 23) cx (hM 9 _ rfl v0) tw_1306 dX9_takesPacket_23 ?_
  refine gg_iload_n (pc := 26) cx 1 rfl dX9_takesPacket_26 rfl ?_
  refine gg_callSi (pc := 27) cx cal_X9_packet tw_1472 (ct_X9_packet cx.tr hM  h) tw_1471 rfl (st := [.ref (gAd t 47 o0), .int 1, .ref (gAd t 58 o0)]) rfl (Nat.le_of_ble_eq_true rfl) ⟨Nat.le_of_ble_eq_true rfl, Nat.le_of_ble_eq_true rfl⟩ ⟨Nat.le_of_ble_eq_true rfl, Nat.le_of_ble_eq_true rfl⟩ dX9_takesPacket_27 (fun r27 M27 h => ?_)
  refine gg_iconst (pc := 30) cx (v := 1) dX9_takesPacket_30 (by decide) ?_
  refine gg_iadd (pc := 31) cx dX9_takesPacket_31 ?_
  have q32 := h.1
  have h := h.2
  refine gg_lald (pc := 32) cx (hM 47 _ rfl v0) rfl q32 dX9_takesPacket_32 ?_
  have q33 := h.1
  have h := h.2
  refine gg_last (pc := 33) cx (hM 58 _ rfl v0) (fun _ _ => rfl) q33 dX9_takesPacket_33 ?_
  refine gg_mem (fun M33 eM33 => ?_)
  have h := h M33 eM33
  refine gg_aload_n (pc := 34) cx 0 rfl dX9_takesPacket_34 rfl ?_
  refine gf_Model_has (pc := 35) cx (hM 9 _ rfl v0) tw_1325 dX9_takesPacket_35 ?_
  refine gg_iconst (pc := 38) cx (v := 2) dX9_takesPacket_38 (by decide) ?_
  refine gg_aload_n (pc := 39) cx 0 rfl dX9_takesPacket_39 rfl ?_
  refine gf_Model_v (pc := 40) cx (hM 9 _ rfl v0) tw_1306 dX9_takesPacket_40 ?_
  refine gg_iload_n (pc := 43) cx 1 rfl dX9_takesPacket_43 rfl ?_
  refine gg_callSi (pc := 44) cx cal_X9_packet tw_1472 (ct_X9_packet cx.tr hM  h) tw_1471 rfl (st := [.ref (gAd t 47 o0), .int 2, .ref (gAd t 58 o0)]) rfl (Nat.le_of_ble_eq_true rfl) ⟨Nat.le_of_ble_eq_true rfl, Nat.le_of_ble_eq_true rfl⟩ ⟨Nat.le_of_ble_eq_true rfl, Nat.le_of_ble_eq_true rfl⟩ dX9_takesPacket_44 (fun r44 M44 h => ?_)
  refine gg_iconst (pc := 47) cx (v := 4) dX9_takesPacket_47 (by decide) ?_
  refine gg_iadd (pc := 48) cx dX9_takesPacket_48 ?_
  have q49 := h.1
  have h := h.2
  refine gg_lald (pc := 49) cx (hM 47 _ rfl v0) rfl q49 dX9_takesPacket_49 ?_
  have q50 := h.1
  have h := h.2
  refine gg_last (pc := 50) cx (hM 58 _ rfl v0) (fun _ _ => rfl) q50 dX9_takesPacket_50 ?_
  refine gg_mem (fun M50 eM50 => ?_)
  have h := h M50 eM50
  exact gg_vret (pc := 51) cx hQ h dX9_takesPacket_51
set_option maxRecDepth 100000 in
set_option maxHeartbeats 4000000 in
theorem wk_X9_enters_b115 {t : gT} {X : gX} (cx : g_Cx t X cX9_enters 12 RX9 (none)) (hM : g_hM t) {K : gM → Prop} (hQ : gXQ X = MQ (gXb X) (va_Qv K (g_B t) (g_A t)) (gXa X) (gXs X) rm_X9_enters.cells rm_X9_enters.slots (g_A t)) {o0 : Nat} {x1 : Int32} {x2 : Int32} {x6 : Int32} {y9 : Int64} {M : gM} (v0 : o0 < 1) (h : wp_X9_enters_b115 K o0 x1 x2 x6 y9 M) : G t rm_X9_enters X 12 0 0 M [(0, .ref (gAd t 9 o0)), (1, .int x1), (2, .int x2), (6, .int x6), (9, .long y9)] [] 115 := by
  refine gg_iload_n (pc := 115) cx 1 rfl dX9_enters_115 rfl ?_
  refine gg_aload_n (pc := 116) cx 0 rfl dX9_enters_116 rfl ?_
  refine gf_Model_v (pc := 117) cx (hM 9 _ rfl v0) tw_1306 dX9_enters_117 ?_
  refine gg_iload_n (pc := 120) cx 1 rfl dX9_enters_120 rfl ?_
  refine gg_callSi (pc := 121) cx cal_X9_node tw_1300 (ct_X9_node cx.tr hM  h) tw_1299 rfl (st := [.ref (gAd t 47 o0), .int x1]) rfl (Nat.le_of_ble_eq_true rfl) ⟨Nat.le_of_ble_eq_true rfl, Nat.le_of_ble_eq_true rfl⟩ ⟨Nat.le_of_ble_eq_true rfl, Nat.le_of_ble_eq_true rfl⟩ dX9_enters_121 (fun r121 M121 h => ?_)
  refine gg_bipush (pc := 124) cx (v := 11) dX9_enters_124 (by decide) ?_
  refine gg_iadd (pc := 126) cx dX9_enters_126 ?_
  have q127 := h.1
  have h := h.2
  refine gg_lald (pc := 127) cx (hM 47 _ rfl v0) rfl q127 dX9_enters_127 ?_
  refine gg_l2i (pc := 128) cx dX9_enters_128 ?_
  refine gg_callSi (pc := 129) cx cal_X9_element tw_1494 (ct_X9_element cx.tr hM  h) tw_1493 rfl (st := []) rfl (Nat.le_of_ble_eq_true rfl) ⟨Nat.le_of_ble_eq_true rfl, Nat.le_of_ble_eq_true rfl⟩ ⟨Nat.le_of_ble_eq_true rfl, Nat.le_of_ble_eq_true rfl⟩ dX9_enters_129 (fun r129 M129 h => ?_)
  refine gg_istore (pc := 132) cx [(11, .int r129), (0, .ref (gAd t 9 o0)), (1, .int x1), (2, .int x2), (6, .int x6), (9, .long y9)] dX9_enters_132 (by decide) rfl ?_
  refine gg_aload_n (pc := 134) cx 1 rfl dX9_enters_134 rfl ?_
  refine gf_Model_v (pc := 135) cx (hM 9 _ rfl v0) tw_1306 dX9_enters_135 ?_
  refine gg_iload (pc := 138) cx 0 rfl dX9_enters_138 ?_
  refine gg_iconst (pc := 140) cx (v := 0) dX9_enters_140 (by decide) ?_
  refine gg_iadd (pc := 141) cx dX9_enters_141 ?_
  refine gg_iload_n (pc := 142) cx 3 rfl dX9_enters_142 rfl ?_
  refine gg_i2l (pc := 143) cx dX9_enters_143 ?_
  have q144 := h.1
  have h := h.2
  refine gg_last (pc := 144) cx (hM 47 _ rfl v0) (fun _ _ => rfl) q144 dX9_enters_144 ?_
  refine gg_mem (fun M144 eM144 => ?_)
  have h := h M144 eM144
  refine gg_aload_n (pc := 145) cx 1 rfl dX9_enters_145 rfl ?_
  refine gf_Model_v (pc := 146) cx (hM 9 _ rfl v0) tw_1306 dX9_enters_146 ?_
  refine gg_iload (pc := 149) cx 0 rfl dX9_enters_149 ?_
  refine gg_iconst (pc := 151) cx (v := 1) dX9_enters_151 (by decide) ?_
  refine gg_iadd (pc := 152) cx dX9_enters_152 ?_
  refine gg_lload (pc := 153) cx 5 rfl dX9_enters_153 ?_
  have q155 := h.1
  have h := h.2
  refine gg_last (pc := 155) cx (hM 47 _ rfl v0) (fun _ _ => rfl) q155 dX9_enters_155 ?_
  refine gg_mem (fun M155 eM155 => ?_)
  have h := h M155 eM155
  refine gg_aload_n (pc := 156) cx 1 rfl dX9_enters_156 rfl ?_
  refine gf_Model_v (pc := 157) cx (hM 9 _ rfl v0) tw_1306 dX9_enters_157 ?_
  refine gg_iload (pc := 160) cx 0 rfl dX9_enters_160 ?_
  refine gg_iconst (pc := 162) cx (v := 2) dX9_enters_162 (by decide) ?_
  refine gg_iadd (pc := 163) cx dX9_enters_163 ?_
  refine gg_aload_n (pc := 164) cx 1 rfl dX9_enters_164 rfl ?_
  refine gf_Model_v (pc := 165) cx (hM 9 _ rfl v0) tw_1306 dX9_enters_165 ?_
  refine gg_iconst (pc := 168) cx (v := 5) dX9_enters_168 (by decide) ?_
  have q169 := h.1
  have h := h.2
  refine gg_lald (pc := 169) cx (hM 47 _ rfl v0) rfl q169 dX9_enters_169 ?_
  have q170 := h.1
  have h := h.2
  refine gg_last (pc := 170) cx (hM 47 _ rfl v0) (fun _ _ => rfl) q170 dX9_enters_170 ?_
  refine gg_mem (fun M170 eM170 => ?_)
  have h := h M170 eM170
  refine gg_aload_n (pc := 171) cx 1 rfl dX9_enters_171 rfl ?_
  refine gf_Model_v (pc := 172) cx (hM 9 _ rfl v0) tw_1306 dX9_enters_172 ?_
  refine gg_iload (pc := 175) cx 0 rfl dX9_enters_175 ?_
  refine gg_iconst (pc := 177) cx (v := 3) dX9_enters_177 (by decide) ?_
  refine gg_iadd (pc := 178) cx dX9_enters_178 ?_
  refine gg_iload (pc := 179) cx 4 rfl dX9_enters_179 ?_
  refine gg_i2l (pc := 181) cx dX9_enters_181 ?_
  have q182 := h.1
  have h := h.2
  refine gg_last (pc := 182) cx (hM 47 _ rfl v0) (fun _ _ => rfl) q182 dX9_enters_182 ?_
  refine gg_mem (fun M182 eM182 => ?_)
  have h := h M182 eM182
  refine gg_aload_n (pc := 183) cx 1 rfl dX9_enters_183 rfl ?_
  refine gf_Model_v (pc := 184) cx (hM 9 _ rfl v0) tw_1306 dX9_enters_184 ?_
  refine gg_iload_n (pc := 187) cx 2 rfl dX9_enters_187 rfl ?_
  refine gg_callSi (pc := 188) cx cal_X9_node tw_1300 (ct_X9_node cx.tr hM  h) tw_1299 rfl (st := [.ref (gAd t 47 o0)]) rfl (Nat.le_of_ble_eq_true rfl) ⟨Nat.le_of_ble_eq_true rfl, Nat.le_of_ble_eq_true rfl⟩ ⟨Nat.le_of_ble_eq_true rfl, Nat.le_of_ble_eq_true rfl⟩ dX9_enters_188 (fun r188 M188 h => ?_)
  refine gg_bipush (pc := 191) cx (v := 11) dX9_enters_191 (by decide) ?_
  refine gg_iadd (pc := 193) cx dX9_enters_193 ?_
  refine gg_dup2 (pc := 194) cx dX9_enters_194 rfl rfl ?_
  have q195 := h.1
  have h := h.2
  refine gg_lald (pc := 195) cx (hM 47 _ rfl v0) rfl q195 dX9_enters_195 ?_
  refine gg_lconst (pc := 196) cx (v := 1) dX9_enters_196 (by decide) ?_
  refine gg_ladd (pc := 197) cx dX9_enters_197 ?_
  have q198 := h.1
  have h := h.2
  refine gg_last (pc := 198) cx (hM 47 _ rfl v0) (fun _ _ => rfl) q198 dX9_enters_198 ?_
  refine gg_mem (fun M198 eM198 => ?_)
  have h := h M198 eM198
  refine gg_aload_n (pc := 199) cx 1 rfl dX9_enters_199 rfl ?_
  refine gf_Model_v (pc := 200) cx (hM 9 _ rfl v0) tw_1306 dX9_enters_200 ?_
  refine gg_iconst (pc := 203) cx (v := 5) dX9_enters_203 (by decide) ?_
  refine gg_dup2 (pc := 204) cx dX9_enters_204 rfl rfl ?_
  have q205 := h.1
  have h := h.2
  refine gg_lald (pc := 205) cx (hM 47 _ rfl v0) rfl q205 dX9_enters_205 ?_
  refine gg_lconst (pc := 206) cx (v := 1) dX9_enters_206 (by decide) ?_
  refine gg_ladd (pc := 207) cx dX9_enters_207 ?_
  have q208 := h.1
  have h := h.2
  refine gg_last (pc := 208) cx (hM 47 _ rfl v0) (fun _ _ => rfl) q208 dX9_enters_208 ?_
  refine gg_mem (fun M208 eM208 => ?_)
  have h := h M208 eM208
  exact gg_vret (pc := 209) cx hQ h dX9_enters_209
theorem cal_X9_enters : g_Cal yX9_enters cX9_enters 12 (none) 6 := ⟨tw_17, tw_1477, by decide, by decide, by decide +kernel⟩
theorem calv_X9_enters : g_CalV yX9_enters := ⟨tw_1476, ts_51⟩
set_option maxRecDepth 100000 in
set_option maxHeartbeats 4000000 in
theorem ct_X9_enters {l : Launch} (hl : l.stackTraces = false) {t : gT} (hM : g_hM t) {o0 : Nat} {x1 : Int32} {x2 : Int32} {x3 : Int32} {y4 : Int64} {x6 : Int32} {y7 : Int64} (v0 : o0 < 1) {M : gM} {K : gM → Prop} (h : wp_X9_enters o0 x1 x2 x3 y4 x6 y7 M K) : Met l yX9_enters (g_y yX9_enters cX9_enters 12 (none)) rm_X9_enters (va_Pc [.ref (gAd t 9 o0), .int x1, .int x2, .int x3, .long y4, .int x6, .long y7] (g_Pre t M)) (va_Qv K (g_B t) (g_A t)) rm_X9_enters.cells rm_X9_enters.slots (g_A t) := by
  refine g_met hl rfl (Nat.le_of_ble_eq_true rfl) (fun X hlX cx hQ => ?_)
  subst hlX
  refine gg_aload_n (pc := 0) cx 0 rfl dX9_enters_0 rfl ?_
  refine gg_iload (pc := 1) cx 5 rfl dX9_enters_1 ?_
  refine gg_callVv (pc := 3) cx cal_X9_takesPacket calv_X9_takesPacket (ct_X9_takesPacket cx.tr hM v0 h) tw_1478 (hM 9 _ rfl v0) rfl rfl rfl (st := []) rfl (Nat.le_of_ble_eq_true rfl) ⟨Nat.le_of_ble_eq_true rfl, Nat.le_of_ble_eq_true rfl⟩ ⟨Nat.le_of_ble_eq_true rfl, Nat.le_of_ble_eq_true rfl⟩ dX9_enters_3 (fun M3 h => ?_)
  refine gg_aload_n (pc := 6) cx 0 rfl dX9_enters_6 rfl ?_
  refine gg_iload_n (pc := 7) cx 1 rfl dX9_enters_7 rfl ?_
  refine gg_iload_n (pc := 8) cx 3 rfl dX9_enters_8 rfl ?_
  refine gg_lload (pc := 9) cx 4 rfl dX9_enters_9 ?_
  refine gg_lload (pc := 11) cx 6 rfl dX9_enters_11 ?_
  refine gg_callVv (pc := 13) cx cal_X9_prepares calv_X9_prepares (ct_X9_prepares cx.tr hM v0 h) tw_1482 (hM 9 _ rfl v0) rfl rfl rfl (st := []) rfl (Nat.le_of_ble_eq_true rfl) ⟨Nat.le_of_ble_eq_true rfl, Nat.le_of_ble_eq_true rfl⟩ ⟨Nat.le_of_ble_eq_true rfl, Nat.le_of_ble_eq_true rfl⟩ dX9_enters_13 (fun M13 h => ?_)
  refine gg_aload_n (pc := 16) cx 0 rfl dX9_enters_16 rfl ?_
  refine gg_aload_n (pc := 17) cx 0 rfl dX9_enters_17 rfl ?_
  refine gf_Model_v (pc := 18) cx (hM 9 _ rfl v0) tw_1306 dX9_enters_18 ?_
  refine gg_iload_n (pc := 21) cx 1 rfl dX9_enters_21 rfl ?_
  refine gg_callSi (pc := 22) cx cal_X9_node tw_1300 (ct_X9_node cx.tr hM  h) tw_1299 rfl (st := [.ref (gAd t 47 o0), .ref (gAd t 9 o0)]) rfl (Nat.le_of_ble_eq_true rfl) ⟨Nat.le_of_ble_eq_true rfl, Nat.le_of_ble_eq_true rfl⟩ ⟨Nat.le_of_ble_eq_true rfl, Nat.le_of_ble_eq_true rfl⟩ dX9_enters_22 (fun r22 M22 h => ?_)
  refine gg_bipush (pc := 25) cx (v := 7) dX9_enters_25 (by decide) ?_
  refine gg_iadd (pc := 27) cx dX9_enters_27 ?_
  have q28 := h.1
  have h := h.2
  refine gg_lald (pc := 28) cx (hM 47 _ rfl v0) rfl q28 dX9_enters_28 ?_
  refine gg_aload_n (pc := 29) cx 0 rfl dX9_enters_29 rfl ?_
  refine gf_Model_v (pc := 30) cx (hM 9 _ rfl v0) tw_1306 dX9_enters_30 ?_
  refine gg_iload_n (pc := 33) cx 1 rfl dX9_enters_33 rfl ?_
  refine gg_callSi (pc := 34) cx cal_X9_node tw_1300 (ct_X9_node cx.tr hM  h) tw_1299 rfl (st := [.ref (gAd t 47 o0), .long (M22.2 47 o0 (r22 + 7).toNatClampNeg), .ref (gAd t 9 o0)]) rfl (Nat.le_of_ble_eq_true rfl) ⟨Nat.le_of_ble_eq_true rfl, Nat.le_of_ble_eq_true rfl⟩ ⟨Nat.le_of_ble_eq_true rfl, Nat.le_of_ble_eq_true rfl⟩ dX9_enters_34 (fun r34 M34 h => ?_)
  refine gg_bipush (pc := 37) cx (v := 8) dX9_enters_37 (by decide) ?_
  refine gg_iadd (pc := 39) cx dX9_enters_39 ?_
  have q40 := h.1
  have h := h.2
  refine gg_lald (pc := 40) cx (hM 47 _ rfl v0) rfl q40 dX9_enters_40 ?_
  refine gg_callVl (pc := 41) cx cal_X9_worked calv_X9_worked (ct_X9_worked cx.tr hM v0 h) tw_1486 (hM 9 _ rfl v0) rfl rfl rfl (st := []) rfl (Nat.le_of_ble_eq_true rfl) ⟨Nat.le_of_ble_eq_true rfl, Nat.le_of_ble_eq_true rfl⟩ ⟨Nat.le_of_ble_eq_true rfl, Nat.le_of_ble_eq_true rfl⟩ dX9_enters_41 (fun r41 M41 h => ?_)
  refine gg_lstore (pc := 44) cx [(9, .long r41), (0, .ref (gAd t 9 o0)), (1, .int x1), (2, .int x2), (3, .int x3), (4, .long y4), (6, .int x6), (7, .long y7)] dX9_enters_44 (by decide) rfl ?_
  refine gg_aload_n (pc := 46) cx 1 rfl dX9_enters_46 rfl ?_
  refine gf_Model_v (pc := 47) cx (hM 9 _ rfl v0) tw_1306 dX9_enters_47 ?_
  refine gg_iload_n (pc := 50) cx 2 rfl dX9_enters_50 rfl ?_
  refine gg_callSi (pc := 51) cx cal_X9_node tw_1300 (ct_X9_node cx.tr hM  h) tw_1299 rfl (st := [.ref (gAd t 47 o0)]) rfl (Nat.le_of_ble_eq_true rfl) ⟨Nat.le_of_ble_eq_true rfl, Nat.le_of_ble_eq_true rfl⟩ ⟨Nat.le_of_ble_eq_true rfl, Nat.le_of_ble_eq_true rfl⟩ dX9_enters_51 (fun r51 M51 h => ?_)
  refine gg_bipush (pc := 54) cx (v := 10) dX9_enters_54 (by decide) ?_
  refine gg_iadd (pc := 56) cx dX9_enters_56 ?_
  have q57 := h.1
  have h := h.2
  refine gg_lald (pc := 57) cx (hM 47 _ rfl v0) rfl q57 dX9_enters_57 ?_
  refine gg_lconst (pc := 58) cx (v := 0) dX9_enters_58 (by decide) ?_
  refine gg_lcmp_le (pc := 59) cx (tgt := 115) dX9_enters_59 dX9_enters_60 (by decide) (fun c59 => ?_) (fun c59 => ?_)
  · have h := g_it c59 h
    refine gg_lv (lv' := [(0, .ref (gAd t 9 o0)), (1, .int x1), (2, .int x2), (6, .int x6), (9, .long r41)]) [1, 2, 3, 6, 0] rfl ?_
    exact wk_X9_enters_b115 cx hM hQ v0 h
  · have h := g_if c59 h
    refine gg_aload_n (pc := 63) cx 1 rfl dX9_enters_63 rfl ?_
    refine gf_Model_has (pc := 64) cx (hM 9 _ rfl v0) tw_1325 dX9_enters_64 ?_
    refine gg_bipush (pc := 67) cx (v := 9) dX9_enters_67 (by decide) ?_
    refine gg_lload (pc := 69) cx 0 rfl dX9_enters_69 ?_
    have q71 := h.1
    have h := h.2
    refine gg_last (pc := 71) cx (hM 58 _ rfl v0) (fun _ _ => rfl) q71 dX9_enters_71 ?_
    refine gg_mem (fun M71 eM71 => ?_)
    have h := h M71 eM71
    refine gg_aload_n (pc := 72) cx 1 rfl dX9_enters_72 rfl ?_
    refine gf_Model_v (pc := 73) cx (hM 9 _ rfl v0) tw_1306 dX9_enters_73 ?_
    refine gg_sipush (pc := 76) cx (v := 280) dX9_enters_76 (by decide) ?_
    refine gg_bipush (pc := 79) cx (v := 16) dX9_enters_79 (by decide) ?_
    refine gg_iload_n (pc := 81) cx 2 rfl dX9_enters_81 rfl ?_
    refine gg_imul (pc := 82) cx dX9_enters_82 ?_
    refine gg_iadd (pc := 83) cx dX9_enters_83 ?_
    refine gg_iload_n (pc := 84) cx 4 rfl dX9_enters_84 rfl ?_
    refine gg_iadd (pc := 85) cx dX9_enters_85 ?_
    refine gg_aload_n (pc := 86) cx 1 rfl dX9_enters_86 rfl ?_
    refine gg_aload_n (pc := 87) cx 1 rfl dX9_enters_87 rfl ?_
    refine gf_Model_v (pc := 88) cx (hM 9 _ rfl v0) tw_1306 dX9_enters_88 ?_
    refine gg_iload_n (pc := 91) cx 2 rfl dX9_enters_91 rfl ?_
    refine gg_callSi (pc := 92) cx cal_X9_node tw_1300 (ct_X9_node cx.tr hM  h) tw_1299 rfl (st := [.ref (gAd t 47 o0), .ref (gAd t 9 o0), .int ((280 + (16 * x1)) + x3), .ref (gAd t 47 o0)]) rfl (Nat.le_of_ble_eq_true rfl) ⟨Nat.le_of_ble_eq_true rfl, Nat.le_of_ble_eq_true rfl⟩ ⟨Nat.le_of_ble_eq_true rfl, Nat.le_of_ble_eq_true rfl⟩ dX9_enters_92 (fun r92 M92 h => ?_)
    refine gg_bipush (pc := 95) cx (v := 9) dX9_enters_95 (by decide) ?_
    refine gg_iadd (pc := 97) cx dX9_enters_97 ?_
    have q98 := h.1
    have h := h.2
    refine gg_lald (pc := 98) cx (hM 47 _ rfl v0) rfl q98 dX9_enters_98 ?_
    refine gg_aload_n (pc := 99) cx 1 rfl dX9_enters_99 rfl ?_
    refine gf_Model_v (pc := 100) cx (hM 9 _ rfl v0) tw_1306 dX9_enters_100 ?_
    refine gg_iload_n (pc := 103) cx 2 rfl dX9_enters_103 rfl ?_
    refine gg_callSi (pc := 104) cx cal_X9_node tw_1300 (ct_X9_node cx.tr hM  h) tw_1299 rfl (st := [.ref (gAd t 47 o0), .long (M92.2 47 o0 (r92 + 9).toNatClampNeg), .ref (gAd t 9 o0), .int ((280 + (16 * x1)) + x3), .ref (gAd t 47 o0)]) rfl (Nat.le_of_ble_eq_true rfl) ⟨Nat.le_of_ble_eq_true rfl, Nat.le_of_ble_eq_true rfl⟩ ⟨Nat.le_of_ble_eq_true rfl, Nat.le_of_ble_eq_true rfl⟩ dX9_enters_104 (fun r104 M104 h => ?_)
    refine gg_bipush (pc := 107) cx (v := 10) dX9_enters_107 (by decide) ?_
    refine gg_iadd (pc := 109) cx dX9_enters_109 ?_
    have q110 := h.1
    have h := h.2
    refine gg_lald (pc := 110) cx (hM 47 _ rfl v0) rfl q110 dX9_enters_110 ?_
    refine gg_callVl (pc := 111) cx cal_X9_worked calv_X9_worked (ct_X9_worked cx.tr hM v0 h) tw_1486 (hM 9 _ rfl v0) rfl rfl rfl (st := [.int ((280 + (16 * x1)) + x3), .ref (gAd t 47 o0)]) rfl (Nat.le_of_ble_eq_true rfl) ⟨Nat.le_of_ble_eq_true rfl, Nat.le_of_ble_eq_true rfl⟩ ⟨Nat.le_of_ble_eq_true rfl, Nat.le_of_ble_eq_true rfl⟩ dX9_enters_111 (fun r111 M111 h => ?_)
    have q114 := h.1
    have h := h.2
    refine gg_last (pc := 114) cx (hM 47 _ rfl v0) (fun _ _ => rfl) q114 dX9_enters_114 ?_
    refine gg_mem (fun M114 eM114 => ?_)
    have h := h M114 eM114
    refine gg_lv (lv' := [(0, .ref (gAd t 9 o0)), (1, .int x1), (2, .int x2), (6, .int x6), (9, .long r41)]) [1, 2, 3, 6, 0] rfl ?_
    exact wk_X9_enters_b115 cx hM hQ v0 h
set_option maxRecDepth 100000 in
set_option maxHeartbeats 4000000 in
theorem wk_X9_isHeld_b96 {t : gT} {X : gX} (cx : g_Cx t X cX9_isHeld 14 RX9 (some .boolean)) (hM : g_hM t) {K : Int32 → gM → Prop} (hQ : gXQ X = MQ (gXb X) (va_Qi K (g_B t) (g_A t)) (gXa X) (gXs X) rm_X9_isHeld.cells rm_X9_isHeld.slots (g_A t)) {o0 : Nat} {x1 : Int32} {x2 : Int32} {y3 : Int64} {y5 : Int64} {y11 : Int64} {os0 : Nat} {xs1 : Int32} {ys2 : Int64} {M : gM} (v0 : o0 < 1) (vs0 : os0 < 1) (h : wp_X9_isHeld_b96 K o0 x1 x2 y3 y5 y11 os0 xs1 ys2 M) : G t rm_X9_isHeld X 14 0 0 M [(0, .ref (gAd t 9 o0)), (1, .int x1), (2, .int x2), (3, .long y3), (5, .long y5), (11, .long y11)] [.long ys2, .int xs1, .ref (gAd t 47 os0)] 96 := by
  refine gg_aload_n (pc := 96) cx 0 rfl dX9_isHeld_96 rfl ?_
  refine gf_Model_v (pc := 97) cx (hM 9 _ rfl v0) tw_1306 dX9_isHeld_97 ?_
  refine gg_iload_n (pc := 100) cx 2 rfl dX9_isHeld_100 rfl ?_
  refine gg_callSi (pc := 101) cx cal_X9_packet tw_1472 (ct_X9_packet cx.tr hM  h) tw_1471 rfl (st := [.ref (gAd t 47 o0), .long ys2, .int xs1, .ref (gAd t 47 os0)]) rfl (Nat.le_of_ble_eq_true rfl) ⟨Nat.le_of_ble_eq_true rfl, Nat.le_of_ble_eq_true rfl⟩ ⟨Nat.le_of_ble_eq_true rfl, Nat.le_of_ble_eq_true rfl⟩ dX9_isHeld_101 (fun r101 M101 h => ?_)
  refine gg_iconst (pc := 104) cx (v := 1) dX9_isHeld_104 (by decide) ?_
  refine gg_iadd (pc := 105) cx dX9_isHeld_105 ?_
  have q106 := h.1
  have h := h.2
  refine gg_lald (pc := 106) cx (hM 47 _ rfl v0) rfl q106 dX9_isHeld_106 ?_
  refine gg_ldc2 (pc := 107) cx (v := 1000) tw_1504 dX9_isHeld_107 ?_
  refine gg_lmul (pc := 110) cx dX9_isHeld_110 ?_
  refine gg_lload (pc := 111) cx 4 rfl dX9_isHeld_111 ?_
  refine gg_ladd (pc := 113) cx dX9_isHeld_113 ?_
  refine gg_lconst (pc := 114) cx (v := 1) dX9_isHeld_114 (by decide) ?_
  refine gg_lsub (pc := 115) cx dX9_isHeld_115 ?_
  refine gg_lload (pc := 116) cx 4 rfl dX9_isHeld_116 ?_
  refine gg_ldiv (pc := 118) cx dX9_isHeld_118 h.1 ?_
  have h := h.2
  refine gg_ladd (pc := 119) cx dX9_isHeld_119 ?_
  have q120 := h.1
  have h := h.2
  refine gg_last (pc := 120) cx (hM 47 _ rfl vs0) (fun _ _ => rfl) q120 dX9_isHeld_120 ?_
  refine gg_mem (fun M120 eM120 => ?_)
  have h := h M120 eM120
  refine gg_lload (pc := 121) cx 5 rfl dX9_isHeld_121 ?_
  refine gg_lload_n (pc := 123) cx 3 rfl dX9_isHeld_123 rfl ?_
  refine gg_lcmp_ne (pc := 124) cx (tgt := 130) dX9_isHeld_124 dX9_isHeld_125 (by decide) (fun c124 => ?_) (fun c124 => ?_)
  · have h := g_if c124 h
    refine gg_aload_n (pc := 130) cx 0 rfl dX9_isHeld_130 rfl ?_
    refine gf_Model_v (pc := 131) cx (hM 9 _ rfl v0) tw_1306 dX9_isHeld_131 ?_
    refine gg_iconst (pc := 134) cx (v := 4) dX9_isHeld_134 (by decide) ?_
    have q135 := h.1
    have h := h.2
    refine gg_lald (pc := 135) cx (hM 47 _ rfl v0) rfl q135 dX9_isHeld_135 ?_
    refine gg_l2i (pc := 136) cx dX9_isHeld_136 ?_
    refine gg_callSi (pc := 137) cx cal_X9_hold tw_1506 (ct_X9_hold cx.tr hM  h) tw_1505 rfl (st := []) rfl (Nat.le_of_ble_eq_true rfl) ⟨Nat.le_of_ble_eq_true rfl, Nat.le_of_ble_eq_true rfl⟩ ⟨Nat.le_of_ble_eq_true rfl, Nat.le_of_ble_eq_true rfl⟩ dX9_isHeld_137 (fun r137 M137 h => ?_)
    refine gg_istore (pc := 140) cx [(13, .int r137), (0, .ref (gAd t 9 o0)), (1, .int x1), (2, .int x2), (3, .long y3), (5, .long y5), (11, .long y11)] dX9_isHeld_140 (by decide) rfl ?_
    refine gg_aload_n (pc := 142) cx 1 rfl dX9_isHeld_142 rfl ?_
    refine gf_Model_v (pc := 143) cx (hM 9 _ rfl v0) tw_1306 dX9_isHeld_143 ?_
    refine gg_iload (pc := 146) cx 0 rfl dX9_isHeld_146 ?_
    refine gg_iconst (pc := 148) cx (v := 0) dX9_isHeld_148 (by decide) ?_
    refine gg_iadd (pc := 149) cx dX9_isHeld_149 ?_
    refine gg_lload (pc := 150) cx 6 rfl dX9_isHeld_150 ?_
    have q152 := h.1
    have h := h.2
    refine gg_last (pc := 152) cx (hM 47 _ rfl v0) (fun _ _ => rfl) q152 dX9_isHeld_152 ?_
    refine gg_mem (fun M152 eM152 => ?_)
    have h := h M152 eM152
    refine gg_aload_n (pc := 153) cx 1 rfl dX9_isHeld_153 rfl ?_
    refine gf_Model_v (pc := 154) cx (hM 9 _ rfl v0) tw_1306 dX9_isHeld_154 ?_
    refine gg_iload (pc := 157) cx 0 rfl dX9_isHeld_157 ?_
    refine gg_iconst (pc := 159) cx (v := 1) dX9_isHeld_159 (by decide) ?_
    refine gg_iadd (pc := 160) cx dX9_isHeld_160 ?_
    refine gg_aload_n (pc := 161) cx 1 rfl dX9_isHeld_161 rfl ?_
    refine gf_Model_v (pc := 162) cx (hM 9 _ rfl v0) tw_1306 dX9_isHeld_162 ?_
    refine gg_bipush (pc := 165) cx (v := 6) dX9_isHeld_165 (by decide) ?_
    have q167 := h.1
    have h := h.2
    refine gg_lald (pc := 167) cx (hM 47 _ rfl v0) rfl q167 dX9_isHeld_167 ?_
    have q168 := h.1
    have h := h.2
    refine gg_last (pc := 168) cx (hM 47 _ rfl v0) (fun _ _ => rfl) q168 dX9_isHeld_168 ?_
    refine gg_mem (fun M168 eM168 => ?_)
    have h := h M168 eM168
    refine gg_aload_n (pc := 169) cx 1 rfl dX9_isHeld_169 rfl ?_
    refine gf_Model_v (pc := 170) cx (hM 9 _ rfl v0) tw_1306 dX9_isHeld_170 ?_
    refine gg_iload (pc := 173) cx 0 rfl dX9_isHeld_173 ?_
    refine gg_iconst (pc := 175) cx (v := 2) dX9_isHeld_175 (by decide) ?_
    refine gg_iadd (pc := 176) cx dX9_isHeld_176 ?_
    refine gg_iload_n (pc := 177) cx 2 rfl dX9_isHeld_177 rfl ?_
    refine gg_i2l (pc := 178) cx dX9_isHeld_178 ?_
    have q179 := h.1
    have h := h.2
    refine gg_last (pc := 179) cx (hM 47 _ rfl v0) (fun _ _ => rfl) q179 dX9_isHeld_179 ?_
    refine gg_mem (fun M179 eM179 => ?_)
    have h := h M179 eM179
    refine gg_aload_n (pc := 180) cx 1 rfl dX9_isHeld_180 rfl ?_
    refine gf_Model_v (pc := 181) cx (hM 9 _ rfl v0) tw_1306 dX9_isHeld_181 ?_
    refine gg_iload (pc := 184) cx 0 rfl dX9_isHeld_184 ?_
    refine gg_iconst (pc := 186) cx (v := 3) dX9_isHeld_186 (by decide) ?_
    refine gg_iadd (pc := 187) cx dX9_isHeld_187 ?_
    refine gg_iload_n (pc := 188) cx 3 rfl dX9_isHeld_188 rfl ?_
    refine gg_i2l (pc := 189) cx dX9_isHeld_189 ?_
    have q190 := h.1
    have h := h.2
    refine gg_last (pc := 190) cx (hM 47 _ rfl v0) (fun _ _ => rfl) q190 dX9_isHeld_190 ?_
    refine gg_mem (fun M190 eM190 => ?_)
    have h := h M190 eM190
    refine gg_aload_n (pc := 191) cx 1 rfl dX9_isHeld_191 rfl ?_
    refine gf_Model_v (pc := 192) cx (hM 9 _ rfl v0) tw_1306 dX9_isHeld_192 ?_
    refine gg_iconst (pc := 195) cx (v := 4) dX9_isHeld_195 (by decide) ?_
    refine gg_dup2 (pc := 196) cx dX9_isHeld_196 rfl rfl ?_
    have q197 := h.1
    have h := h.2
    refine gg_lald (pc := 197) cx (hM 47 _ rfl v0) rfl q197 dX9_isHeld_197 ?_
    refine gg_lconst (pc := 198) cx (v := 1) dX9_isHeld_198 (by decide) ?_
    refine gg_ladd (pc := 199) cx dX9_isHeld_199 ?_
    have q200 := h.1
    have h := h.2
    refine gg_last (pc := 200) cx (hM 47 _ rfl v0) (fun _ _ => rfl) q200 dX9_isHeld_200 ?_
    refine gg_mem (fun M200 eM200 => ?_)
    have h := h M200 eM200
    refine gg_aload_n (pc := 201) cx 1 rfl dX9_isHeld_201 rfl ?_
    refine gf_Model_v (pc := 202) cx (hM 9 _ rfl v0) tw_1306 dX9_isHeld_202 ?_
    refine gg_bipush (pc := 205) cx (v := 6) dX9_isHeld_205 (by decide) ?_
    refine gg_dup2 (pc := 207) cx dX9_isHeld_207 rfl rfl ?_
    have q208 := h.1
    have h := h.2
    refine gg_lald (pc := 208) cx (hM 47 _ rfl v0) rfl q208 dX9_isHeld_208 ?_
    refine gg_lconst (pc := 209) cx (v := 1) dX9_isHeld_209 (by decide) ?_
    refine gg_ladd (pc := 210) cx dX9_isHeld_210 ?_
    have q211 := h.1
    have h := h.2
    refine gg_last (pc := 211) cx (hM 47 _ rfl v0) (fun _ _ => rfl) q211 dX9_isHeld_211 ?_
    refine gg_mem (fun M211 eM211 => ?_)
    have h := h M211 eM211
    refine gg_iconst (pc := 212) cx (v := 1) dX9_isHeld_212 (by decide) ?_
    exact gg_zret (pc := 213) cx hQ rfl h dX9_isHeld_213
  · have h := g_it c124 h
    refine gg_iconst (pc := 128) cx (v := 0) dX9_isHeld_128 (by decide) ?_
    exact gg_zret (pc := 129) cx hQ rfl h dX9_isHeld_129
set_option maxRecDepth 100000 in
set_option maxHeartbeats 4000000 in
theorem wk_X9_isHeld_b71 {t : gT} {X : gX} (cx : g_Cx t X cX9_isHeld 14 RX9 (some .boolean)) (hM : g_hM t) {K : Int32 → gM → Prop} (hQ : gXQ X = MQ (gXb X) (va_Qi K (g_B t) (g_A t)) (gXa X) (gXs X) rm_X9_isHeld.cells rm_X9_isHeld.slots (g_A t)) {o0 : Nat} {x1 : Int32} {x2 : Int32} {y3 : Int64} {y5 : Int64} {y7 : Int64} {ys0 : Int64} {M : gM} (v0 : o0 < 1) (h : wp_X9_isHeld_b71 K o0 x1 x2 y3 y5 y7 ys0 M) : G t rm_X9_isHeld X 14 0 0 M [(0, .ref (gAd t 9 o0)), (1, .int x1), (2, .int x2), (3, .long y3), (5, .long y5), (7, .long y7)] [.long ys0] 71 := by
  refine gg_lstore (pc := 71) cx [(11, .long ys0), (0, .ref (gAd t 9 o0)), (1, .int x1), (2, .int x2), (3, .long y3), (5, .long y5), (7, .long y7)] dX9_isHeld_71 (by decide) rfl ?_
  refine gg_aload_n (pc := 73) cx 1 rfl dX9_isHeld_73 rfl ?_
  refine gf_Model_v (pc := 74) cx (hM 9 _ rfl v0) tw_1306 dX9_isHeld_74 ?_
  refine gg_iload_n (pc := 77) cx 2 rfl dX9_isHeld_77 rfl ?_
  refine gg_callSi (pc := 78) cx cal_X9_node tw_1300 (ct_X9_node cx.tr hM  h) tw_1299 rfl (st := [.ref (gAd t 47 o0)]) rfl (Nat.le_of_ble_eq_true rfl) ⟨Nat.le_of_ble_eq_true rfl, Nat.le_of_ble_eq_true rfl⟩ ⟨Nat.le_of_ble_eq_true rfl, Nat.le_of_ble_eq_true rfl⟩ dX9_isHeld_78 (fun r78 M78 h => ?_)
  refine gg_iconst (pc := 81) cx (v := 4) dX9_isHeld_81 (by decide) ?_
  refine gg_iadd (pc := 82) cx dX9_isHeld_82 ?_
  refine gg_lload (pc := 83) cx 6 rfl dX9_isHeld_83 ?_
  refine gg_lload_n (pc := 85) cx 4 rfl dX9_isHeld_85 rfl ?_
  refine gg_lcmp_le (pc := 86) cx (tgt := 95) dX9_isHeld_86 dX9_isHeld_87 (by decide) (fun c86 => ?_) (fun c86 => ?_)
  · have h := g_it c86 h
    refine gg_lload_n (pc := 95) cx 4 rfl dX9_isHeld_95 rfl ?_
    refine gg_lv (lv' := [(0, .ref (gAd t 9 o0)), (1, .int x1), (2, .int x2), (3, .long y3), (5, .long y5), (11, .long ys0)]) [1, 2, 3, 4, 5, 0] rfl ?_
    exact wk_X9_isHeld_b96 cx hM hQ v0 v0 h
  · have h := g_if c86 h
    refine gg_lload (pc := 90) cx 6 rfl dX9_isHeld_90 ?_
    refine gg_goto (pc := 92) cx (tgt := 96) dX9_isHeld_92 (by decide) ?_
    refine gg_lv (lv' := [(0, .ref (gAd t 9 o0)), (1, .int x1), (2, .int x2), (3, .long y3), (5, .long y5), (11, .long ys0)]) [1, 2, 3, 4, 5, 0] rfl ?_
    exact wk_X9_isHeld_b96 cx hM hQ v0 v0 h
theorem cal_X9_isHeld : g_Cal yX9_isHeld cX9_isHeld 14 (some .boolean) 3 := ⟨tw_17, tw_1503, by decide, by decide, by decide +kernel⟩
theorem calv_X9_isHeld : g_CalV yX9_isHeld := ⟨tw_1502, ts_56⟩
set_option maxRecDepth 100000 in
set_option maxHeartbeats 4000000 in
theorem ct_X9_isHeld {l : Launch} (hl : l.stackTraces = false) {t : gT} (hM : g_hM t) {o0 : Nat} {x1 : Int32} {x2 : Int32} {y3 : Int64} (v0 : o0 < 1) {M : gM} {K : Int32 → gM → Prop} (h : wp_X9_isHeld o0 x1 x2 y3 M K) : Met l yX9_isHeld (g_y yX9_isHeld cX9_isHeld 14 (some .boolean)) rm_X9_isHeld (va_Pc [.ref (gAd t 9 o0), .int x1, .int x2, .long y3] (g_Pre t M)) (va_Qi K (g_B t) (g_A t)) rm_X9_isHeld.cells rm_X9_isHeld.slots (g_A t) := by
  refine g_met hl rfl (Nat.le_of_ble_eq_true rfl) (fun X hlX cx hQ => ?_)
  subst hlX
  refine gg_aload_n (pc := 0) cx 0 rfl dX9_isHeld_0 rfl ?_
  refine gf_Model_v (pc := 1) cx (hM 9 _ rfl v0) tw_1306 dX9_isHeld_1 ?_
  refine gg_iload_n (pc := 4) cx 1 rfl dX9_isHeld_4 rfl ?_
  refine gg_callSi (pc := 5) cx cal_X9_node tw_1300 (ct_X9_node cx.tr hM  h) tw_1299 rfl (st := [.ref (gAd t 47 o0)]) rfl (Nat.le_of_ble_eq_true rfl) ⟨Nat.le_of_ble_eq_true rfl, Nat.le_of_ble_eq_true rfl⟩ ⟨Nat.le_of_ble_eq_true rfl, Nat.le_of_ble_eq_true rfl⟩ dX9_isHeld_5 (fun r5 M5 h => ?_)
  refine gg_iconst (pc := 8) cx (v := 2) dX9_isHeld_8 (by decide) ?_
  refine gg_iadd (pc := 9) cx dX9_isHeld_9 ?_
  have q10 := h.1
  have h := h.2
  refine gg_lald (pc := 10) cx (hM 47 _ rfl v0) rfl q10 dX9_isHeld_10 ?_
  refine gg_topl (fun n11 en11 => ?_)
  have h := h n11 en11
  refine gg_lstore (pc := 11) cx [(5, .long n11), (0, .ref (gAd t 9 o0)), (1, .int x1), (2, .int x2), (3, .long y3)] dX9_isHeld_11 (by decide) rfl ?_
  refine gg_lload (pc := 13) cx 0 rfl dX9_isHeld_13 ?_
  refine gg_lconst (pc := 15) cx (v := 0) dX9_isHeld_15 (by decide) ?_
  refine gg_lcmp_ne (pc := 16) cx (tgt := 22) dX9_isHeld_16 dX9_isHeld_17 (by decide) (fun c16 => ?_) (fun c16 => ?_)
  · have h := g_if c16 h
    refine gg_aload_n (pc := 22) cx 1 rfl dX9_isHeld_22 rfl ?_
    refine gf_Model_v (pc := 23) cx (hM 9 _ rfl v0) tw_1306 dX9_isHeld_23 ?_
    refine gg_iload_n (pc := 26) cx 2 rfl dX9_isHeld_26 rfl ?_
    refine gg_callSi (pc := 27) cx cal_X9_node tw_1300 (ct_X9_node cx.tr hM  h) tw_1299 rfl (st := [.ref (gAd t 47 o0)]) rfl (Nat.le_of_ble_eq_true rfl) ⟨Nat.le_of_ble_eq_true rfl, Nat.le_of_ble_eq_true rfl⟩ ⟨Nat.le_of_ble_eq_true rfl, Nat.le_of_ble_eq_true rfl⟩ dX9_isHeld_27 (fun r27 M27 h => ?_)
    refine gg_iconst (pc := 30) cx (v := 4) dX9_isHeld_30 (by decide) ?_
    refine gg_iadd (pc := 31) cx dX9_isHeld_31 ?_
    have q32 := h.1
    have h := h.2
    refine gg_lald (pc := 32) cx (hM 47 _ rfl v0) rfl q32 dX9_isHeld_32 ?_
    refine gg_topl (fun n33 en33 => ?_)
    have h := h n33 en33
    refine gg_lstore (pc := 33) cx [(7, .long n33), (5, .long n11), (0, .ref (gAd t 9 o0)), (1, .int x1), (2, .int x2), (3, .long y3)] dX9_isHeld_33 (by decide) rfl ?_
    refine gg_lload (pc := 35) cx 0 rfl dX9_isHeld_35 ?_
    refine gg_aload_n (pc := 37) cx 2 rfl dX9_isHeld_37 rfl ?_
    refine gf_Model_v (pc := 38) cx (hM 9 _ rfl v0) tw_1306 dX9_isHeld_38 ?_
    refine gg_iload_n (pc := 41) cx 3 rfl dX9_isHeld_41 rfl ?_
    refine gg_callSi (pc := 42) cx cal_X9_node tw_1300 (ct_X9_node cx.tr hM  h) tw_1299 rfl (st := [.ref (gAd t 47 o0), .long n33]) rfl (Nat.le_of_ble_eq_true rfl) ⟨Nat.le_of_ble_eq_true rfl, Nat.le_of_ble_eq_true rfl⟩ ⟨Nat.le_of_ble_eq_true rfl, Nat.le_of_ble_eq_true rfl⟩ dX9_isHeld_42 (fun r42 M42 h => ?_)
    refine gg_iconst (pc := 45) cx (v := 3) dX9_isHeld_45 (by decide) ?_
    refine gg_iadd (pc := 46) cx dX9_isHeld_46 ?_
    have q47 := h.1
    have h := h.2
    refine gg_lald (pc := 47) cx (hM 47 _ rfl v0) rfl q47 dX9_isHeld_47 ?_
    refine gg_ldc2 (pc := 48) cx (v := 1000) tw_1504 dX9_isHeld_48 ?_
    refine gg_lmul (pc := 51) cx dX9_isHeld_51 ?_
    refine gg_lload (pc := 52) cx 1 rfl dX9_isHeld_52 ?_
    refine gg_ldiv (pc := 54) cx dX9_isHeld_54 h.1 ?_
    have h := h.2
    refine gg_lsub (pc := 55) cx dX9_isHeld_55 ?_
    refine gg_topl (fun n56 en56 => ?_)
    have h := h n56 en56
    refine gg_lstore (pc := 56) cx [(9, .long n56), (7, .long n33), (5, .long n11), (0, .ref (gAd t 9 o0)), (1, .int x1), (2, .int x2), (3, .long y3)] dX9_isHeld_56 (by decide) rfl ?_
    refine gg_lload (pc := 58) cx 0 rfl dX9_isHeld_58 ?_
    refine gg_lload_n (pc := 60) cx 6 rfl dX9_isHeld_60 rfl ?_
    refine gg_lcmp_le (pc := 61) cx (tgt := 70) dX9_isHeld_61 dX9_isHeld_62 (by decide) (fun c61 => ?_) (fun c61 => ?_)
    · have h := g_it c61 h
      refine gg_lload_n (pc := 70) cx 6 rfl dX9_isHeld_70 rfl ?_
      refine gg_lv (lv' := [(0, .ref (gAd t 9 o0)), (1, .int x1), (2, .int x2), (3, .long y3), (5, .long n11), (7, .long n33)]) [3, 4, 5, 6, 2, 1] rfl ?_
      exact wk_X9_isHeld_b71 cx hM hQ v0 h
    · have h := g_if c61 h
      refine gg_lload (pc := 65) cx 0 rfl dX9_isHeld_65 ?_
      refine gg_goto (pc := 67) cx (tgt := 71) dX9_isHeld_67 (by decide) ?_
      refine gg_lv (lv' := [(0, .ref (gAd t 9 o0)), (1, .int x1), (2, .int x2), (3, .long y3), (5, .long n11), (7, .long n33)]) [3, 4, 5, 6, 2, 1] rfl ?_
      exact wk_X9_isHeld_b71 cx hM hQ v0 h
  · have h := g_it c16 h
    refine gg_iconst (pc := 20) cx (v := 0) dX9_isHeld_20 (by decide) ?_
    exact gg_zret (pc := 21) cx hQ rfl h dX9_isHeld_21
set_option maxRecDepth 100000 in
set_option maxHeartbeats 4000000 in
theorem wk_X9_climbs_b57 {t : gT} {X : gX} (cx : g_Cx t X cX9_climbs 9 RX9 (none)) (hM : g_hM t) {K : gM → Prop} (hQ : gXQ X = MQ (gXb X) (va_Qv K (g_B t) (g_A t)) (gXa X) (gXs X) rm_X9_climbs.cells rm_X9_climbs.slots (g_A t)) {R9 : Nat → Int32 → Int64 → Int32 → Int32 → Int32 → gM → Prop} (hR9 : ∀ (o0 : Nat) (x2 : Int32) (y3 : Int64) (x5 : Int32) (x6 : Int32) (x7 : Int32) (M : gM), o0 < 1 → R9 o0 x2 y3 x5 x6 x7 M → G t rm_X9_climbs X 9 0 0 M [(0, .ref (gAd t 9 o0)), (2, .int x2), (3, .long y3), (5, .int x5), (6, .int x6), (7, .int x7)] [] 9) {o0 : Nat} {x2 : Int32} {y3 : Int64} {x5 : Int32} {x7 : Int32} {x8 : Int32} {xs0 : Int32} {M : gM} (v0 : o0 < 1) (h : wp_X9_climbs_b57 R9 K o0 x2 y3 x5 x7 x8 xs0 M) : G t rm_X9_climbs X 9 0 0 M [(0, .ref (gAd t 9 o0)), (2, .int x2), (3, .long y3), (5, .int x5), (7, .int x7), (8, .int x8)] [.int xs0] 57 := by
  refine gg_istore (pc := 57) cx [(6, .int xs0), (0, .ref (gAd t 9 o0)), (2, .int x2), (3, .long y3), (5, .int x5), (7, .int x7), (8, .int x8)] dX9_climbs_57 (by decide) rfl ?_
  refine gg_iload (pc := 59) cx 0 rfl dX9_climbs_59 ?_
  refine gg_if_eq (pc := 61) cx (tgt := 92) dX9_climbs_61 (by decide) (fun c61 => ?_) (fun c61 => ?_)
  · have h := g_it c61 h
    obtain ⟨n92, en92⟩ : ∃ z : Int32, z = x7 + Int32.ofInt (1) := ⟨_, rfl⟩
    have h := h n92 en92
    refine gg_iinc (pc := 92) cx 5 [(7, .int n92), (6, .int xs0), (0, .ref (gAd t 9 o0)), (2, .int x2), (3, .long y3), (5, .int x5), (8, .int x8)] dX9_climbs_92 rfl en92.symm (by decide) rfl ?_
    refine gg_goto (pc := 95) cx (tgt := 9) dX9_climbs_95 (by decide) ?_
    refine gg_lv (lv' := [(0, .ref (gAd t 9 o0)), (2, .int x2), (3, .long y3), (5, .int x5), (6, .int xs0), (7, .int n92)]) [2, 3, 4, 5, 1, 0] rfl ?_
    exact hR9 o0 x2 y3 x5 xs0 n92 M v0 h
  · have h := g_if c61 h
    refine gg_aload_n (pc := 64) cx 1 rfl dX9_climbs_64 rfl ?_
    refine gg_iload (pc := 65) cx 6 rfl dX9_climbs_65 ?_
    refine gg_iload (pc := 67) cx 4 rfl dX9_climbs_67 ?_
    refine gg_iload (pc := 69) cx 4 rfl dX9_climbs_69 ?_
    refine gg_aload_n (pc := 71) cx 1 rfl dX9_climbs_71 rfl ?_
    refine gf_Model_v (pc := 72) cx (hM 9 _ rfl v0) tw_1306 dX9_climbs_72 ?_
    refine gg_iload (pc := 75) cx 4 rfl dX9_climbs_75 ?_
    refine gg_callSi (pc := 77) cx cal_X9_node tw_1300 (ct_X9_node cx.tr hM  h) tw_1299 rfl (st := [.ref (gAd t 47 o0), .int x5, .int x5, .int x8, .ref (gAd t 9 o0)]) rfl (Nat.le_of_ble_eq_true rfl) ⟨Nat.le_of_ble_eq_true rfl, Nat.le_of_ble_eq_true rfl⟩ ⟨Nat.le_of_ble_eq_true rfl, Nat.le_of_ble_eq_true rfl⟩ dX9_climbs_77 (fun r77 M77 h => ?_)
    refine gg_iconst (pc := 80) cx (v := 5) dX9_climbs_80 (by decide) ?_
    refine gg_iadd (pc := 81) cx dX9_climbs_81 ?_
    have q82 := h.1
    have h := h.2
    refine gg_lald (pc := 82) cx (hM 47 _ rfl v0) rfl q82 dX9_climbs_82 ?_
    refine gg_iload_n (pc := 83) cx 2 rfl dX9_climbs_83 rfl ?_
    refine gg_lload_n (pc := 84) cx 3 rfl dX9_climbs_84 rfl ?_
    refine gg_callVv (pc := 85) cx cal_X9_enters calv_X9_enters (ct_X9_enters cx.tr hM v0 h) tw_1474 (hM 9 _ rfl v0) rfl rfl rfl (st := []) rfl (Nat.le_of_ble_eq_true rfl) ⟨Nat.le_of_ble_eq_true rfl, Nat.le_of_ble_eq_true rfl⟩ ⟨Nat.le_of_ble_eq_true rfl, Nat.le_of_ble_eq_true rfl⟩ dX9_climbs_85 (fun M85 h => ?_)
    refine gg_iload (pc := 88) cx 6 rfl dX9_climbs_88 ?_
    refine gg_istore (pc := 90) cx [(5, .int x8), (6, .int xs0), (0, .ref (gAd t 9 o0)), (2, .int x2), (3, .long y3), (7, .int x7), (8, .int x8)] dX9_climbs_90 (by decide) rfl ?_
    obtain ⟨n92, en92⟩ : ∃ z : Int32, z = x7 + Int32.ofInt (1) := ⟨_, rfl⟩
    have h := h n92 en92
    refine gg_iinc (pc := 92) cx 5 [(7, .int n92), (5, .int x8), (6, .int xs0), (0, .ref (gAd t 9 o0)), (2, .int x2), (3, .long y3), (8, .int x8)] dX9_climbs_92 rfl en92.symm (by decide) rfl ?_
    refine gg_goto (pc := 95) cx (tgt := 9) dX9_climbs_95 (by decide) ?_
    refine gg_lv (lv' := [(0, .ref (gAd t 9 o0)), (2, .int x2), (3, .long y3), (5, .int x8), (6, .int xs0), (7, .int n92)]) [3, 4, 5, 1, 2, 0] rfl ?_
    exact hR9 o0 x2 y3 x8 xs0 n92 M85 v0 h
set_option maxRecDepth 100000 in
set_option maxHeartbeats 4000000 in
theorem wk_X9_climbs_b56 {t : gT} {X : gX} (cx : g_Cx t X cX9_climbs 9 RX9 (none)) (hM : g_hM t) {K : gM → Prop} (hQ : gXQ X = MQ (gXb X) (va_Qv K (g_B t) (g_A t)) (gXa X) (gXs X) rm_X9_climbs.cells rm_X9_climbs.slots (g_A t)) {R9 : Nat → Int32 → Int64 → Int32 → Int32 → Int32 → gM → Prop} (hR9 : ∀ (o0 : Nat) (x2 : Int32) (y3 : Int64) (x5 : Int32) (x6 : Int32) (x7 : Int32) (M : gM), o0 < 1 → R9 o0 x2 y3 x5 x6 x7 M → G t rm_X9_climbs X 9 0 0 M [(0, .ref (gAd t 9 o0)), (2, .int x2), (3, .long y3), (5, .int x5), (6, .int x6), (7, .int x7)] [] 9) {o0 : Nat} {x2 : Int32} {y3 : Int64} {x5 : Int32} {x7 : Int32} {x8 : Int32} {M : gM} (v0 : o0 < 1) (h : wp_X9_climbs_b56 R9 K o0 x2 y3 x5 x7 x8 M) : G t rm_X9_climbs X 9 0 0 M [(0, .ref (gAd t 9 o0)), (2, .int x2), (3, .long y3), (5, .int x5), (7, .int x7), (8, .int x8)] [] 56 := by
  refine gg_iconst (pc := 56) cx (v := 0) dX9_climbs_56 (by decide) ?_
  exact wk_X9_climbs_b57 cx hM hQ hR9 v0 h
set_option maxRecDepth 100000 in
set_option maxHeartbeats 4000000 in
theorem wk_X9_climbs_L9 {t : gT} {X : gX} (cx : g_Cx t X cX9_climbs 9 RX9 (none)) (hM : g_hM t) {K : gM → Prop} (hQ : gXQ X = MQ (gXb X) (va_Qv K (g_B t) (g_A t)) (gXa X) (gXs X) rm_X9_climbs.cells rm_X9_climbs.slots (g_A t)) (f : Nat) : ∀ (o0 : Nat) (x2 : Int32) (y3 : Int64) (x5 : Int32) (x6 : Int32) (x7 : Int32) (M : gM), o0 < 1 → wp_X9_climbs_L9 K f o0 x2 y3 x5 x6 x7 M → G t rm_X9_climbs X 9 0 0 M [(0, .ref (gAd t 9 o0)), (2, .int x2), (3, .long y3), (5, .int x5), (6, .int x6), (7, .int x7)] [] 9 := by
  induction f with
  | zero => intro _ _ _ _ _ _ _ _ _; exact False.elim (by assumption)
  | succ f ih =>
    intro o0 x2 y3 x5 x6 x7 M v0 h
    refine gg_iload (pc := 9) cx 5 rfl dX9_climbs_9 ?_
    refine gg_bipush (pc := 11) cx (v := 12) dX9_climbs_11 (by decide) ?_
    refine gg_icmp_ge (pc := 13) cx (tgt := 98) dX9_climbs_13 (by decide) (fun c13 => ?_) (fun c13 => ?_)
    · have h := g_it c13 h
      exact gg_vret (pc := 98) cx hQ h dX9_climbs_98
    · have h := g_if c13 h
      refine gg_iload (pc := 16) cx 4 rfl dX9_climbs_16 ?_
      refine gg_if_eq (pc := 18) cx (tgt := 98) dX9_climbs_18 (by decide) (fun c18 => ?_) (fun c18 => ?_)
      · have h := g_it c18 h
        exact gg_vret (pc := 98) cx hQ h dX9_climbs_98
      · have h := g_if c18 h
        refine gg_aload_n (pc := 21) cx 0 rfl dX9_climbs_21 rfl ?_
        refine gf_Model_v (pc := 22) cx (hM 9 _ rfl v0) tw_1306 dX9_climbs_22 ?_
        refine gg_iload (pc := 25) cx 3 rfl dX9_climbs_25 ?_
        refine gg_callSi (pc := 27) cx cal_X9_node tw_1300 (ct_X9_node cx.tr hM  h) tw_1299 rfl (st := [.ref (gAd t 47 o0)]) rfl (Nat.le_of_ble_eq_true rfl) ⟨Nat.le_of_ble_eq_true rfl, Nat.le_of_ble_eq_true rfl⟩ ⟨Nat.le_of_ble_eq_true rfl, Nat.le_of_ble_eq_true rfl⟩ dX9_climbs_27 (fun r27 M27 h => ?_)
        refine gg_iconst (pc := 30) cx (v := 0) dX9_climbs_30 (by decide) ?_
        refine gg_iadd (pc := 31) cx dX9_climbs_31 ?_
        have q32 := h.1
        have h := h.2
        refine gg_lald (pc := 32) cx (hM 47 _ rfl v0) rfl q32 dX9_climbs_32 ?_
        refine gg_l2i (pc := 33) cx dX9_climbs_33 ?_
        refine gg_topi (fun n34 en34 => ?_)
        have h := h n34 en34
        refine gg_istore (pc := 34) cx [(8, .int n34), (0, .ref (gAd t 9 o0)), (2, .int x2), (3, .long y3), (5, .int x5), (6, .int x6), (7, .int x7)] dX9_climbs_34 (by decide) rfl ?_
        refine gg_iload (pc := 36) cx 0 rfl dX9_climbs_36 ?_
        refine gg_if_lt (pc := 38) cx (tgt := 56) dX9_climbs_38 (by decide) (fun c38 => ?_) (fun c38 => ?_)
        · have h := g_it c38 h
          refine gg_lv (lv' := [(0, .ref (gAd t 9 o0)), (2, .int x2), (3, .long y3), (5, .int x5), (7, .int x7), (8, .int n34)]) [1, 2, 3, 4, 6, 0] rfl ?_
          exact wk_X9_climbs_b56 cx hM hQ ih v0 h
        · have h := g_if c38 h
          refine gg_aload_n (pc := 41) cx 1 rfl dX9_climbs_41 rfl ?_
          refine gg_iload (pc := 42) cx 4 rfl dX9_climbs_42 ?_
          refine gg_iload_n (pc := 44) cx 2 rfl dX9_climbs_44 rfl ?_
          refine gg_lload_n (pc := 45) cx 3 rfl dX9_climbs_45 rfl ?_
          refine gg_callVi (pc := 46) cx cal_X9_isHeld calv_X9_isHeld (ct_X9_isHeld cx.tr hM v0 h) tw_1500 (hM 9 _ rfl v0) rfl rfl rfl (st := []) rfl (Nat.le_of_ble_eq_true rfl) ⟨Nat.le_of_ble_eq_true rfl, Nat.le_of_ble_eq_true rfl⟩ ⟨Nat.le_of_ble_eq_true rfl, Nat.le_of_ble_eq_true rfl⟩ dX9_climbs_46 (fun r46 M46 h => ?_)
          refine gg_if_ne (pc := 49) cx (tgt := 56) dX9_climbs_49 (by decide) (fun c49 => ?_) (fun c49 => ?_)
          · have h := g_if c49 h
            refine gg_lv (lv' := [(0, .ref (gAd t 9 o0)), (2, .int x2), (3, .long y3), (5, .int x5), (7, .int x7), (8, .int n34)]) [1, 2, 3, 4, 6, 0] rfl ?_
            exact wk_X9_climbs_b56 cx hM hQ ih v0 h
          · have h := g_it c49 h
            refine gg_iconst (pc := 52) cx (v := 1) dX9_climbs_52 (by decide) ?_
            refine gg_goto (pc := 53) cx (tgt := 57) dX9_climbs_53 (by decide) ?_
            refine gg_lv (lv' := [(0, .ref (gAd t 9 o0)), (2, .int x2), (3, .long y3), (5, .int x5), (7, .int x7), (8, .int n34)]) [1, 2, 3, 4, 6, 0] rfl ?_
            exact wk_X9_climbs_b57 cx hM hQ ih v0 h
theorem cal_X9_climbs : g_Cal yX9_climbs cX9_climbs 9 (none) 3 := ⟨tw_17, tw_1499, by decide, by decide, by decide +kernel⟩
theorem calv_X9_climbs : g_CalV yX9_climbs := ⟨tw_1498, ts_55⟩
set_option maxRecDepth 100000 in
set_option maxHeartbeats 4000000 in
theorem ct_X9_climbs {l : Launch} (hl : l.stackTraces = false) {t : gT} (hM : g_hM t) {o0 : Nat} {x1 : Int32} {x2 : Int32} {y3 : Int64} (v0 : o0 < 1) {M : gM} {K : gM → Prop} (h : wp_X9_climbs o0 x1 x2 y3 M K) : Met l yX9_climbs (g_y yX9_climbs cX9_climbs 9 (none)) rm_X9_climbs (va_Pc [.ref (gAd t 9 o0), .int x1, .int x2, .long y3] (g_Pre t M)) (va_Qv K (g_B t) (g_A t)) rm_X9_climbs.cells rm_X9_climbs.slots (g_A t) := by
  refine g_met hl rfl (Nat.le_of_ble_eq_true rfl) (fun X hlX cx hQ => ?_)
  subst hlX
  refine gg_iload_n (pc := 0) cx 1 rfl dX9_climbs_0 rfl ?_
  refine gg_istore (pc := 1) cx [(5, .int x1), (0, .ref (gAd t 9 o0)), (1, .int x1), (2, .int x2), (3, .long y3)] dX9_climbs_1 (by decide) rfl ?_
  refine gg_iconst (pc := 3) cx (v := 1) dX9_climbs_3 (by decide) ?_
  refine gg_istore (pc := 4) cx [(6, .int 1), (5, .int x1), (0, .ref (gAd t 9 o0)), (1, .int x1), (2, .int x2), (3, .long y3)] dX9_climbs_4 (by decide) rfl ?_
  refine gg_iconst (pc := 6) cx (v := 0) dX9_climbs_6 (by decide) ?_
  refine gg_istore (pc := 7) cx [(7, .int 0), (6, .int 1), (5, .int x1), (0, .ref (gAd t 9 o0)), (1, .int x1), (2, .int x2), (3, .long y3)] dX9_climbs_7 (by decide) rfl ?_
  refine gg_lv (lv' := [(0, .ref (gAd t 9 o0)), (2, .int x2), (3, .long y3), (5, .int x1), (6, .int 1), (7, .int 0)]) [3, 5, 6, 2, 1, 0] rfl ?_
  obtain ⟨f9, h⟩ := h
  exact wk_X9_climbs_L9 cx hM hQ f9 o0 x2 y3 x1 1 0 M v0 h
set_option maxRecDepth 100000 in
set_option maxHeartbeats 4000000 in
theorem wk_X9_nextHeld_b46 {t : gT} {X : gX} (cx : g_Cx t X cX9_nextHeld 3 RX9 (some .int)) (hM : g_hM t) {K : Int32 → gM → Prop} (hQ : gXQ X = MQ (gXb X) (va_Qi K (g_B t) (g_A t)) (gXa X) (gXs X) rm_X9_nextHeld.cells rm_X9_nextHeld.slots (g_A t)) {R4 : Nat → Int32 → Int32 → gM → Prop} (hR4 : ∀ (o0 : Nat) (x1 : Int32) (x2 : Int32) (M : gM), o0 < 1 → R4 o0 x1 x2 M → G t rm_X9_nextHeld X 3 0 0 M [(0, .ref (gAd t 9 o0)), (1, .int x1), (2, .int x2)] [] 4) {o0 : Nat} {x2 : Int32} {M : gM} (v0 : o0 < 1) (h : wp_X9_nextHeld_b46 R4 K o0 x2 M) : G t rm_X9_nextHeld X 3 0 0 M [(0, .ref (gAd t 9 o0)), (2, .int x2)] [] 46 := by
  refine gg_iload_n (pc := 46) cx 1 rfl dX9_nextHeld_46 rfl ?_
  refine gg_goto (pc := 47) cx (tgt := 51) dX9_nextHeld_47 (by decide) ?_
  refine gg_istore_n (pc := 51) cx [(1, .int x2), (0, .ref (gAd t 9 o0)), (2, .int x2)] dX9_nextHeld_51 rfl (by decide) rfl ?_
  obtain ⟨n52, en52⟩ : ∃ z : Int32, z = x2 + Int32.ofInt (1) := ⟨_, rfl⟩
  have h := h n52 en52
  refine gg_iinc (pc := 52) cx 2 [(2, .int n52), (1, .int x2), (0, .ref (gAd t 9 o0))] dX9_nextHeld_52 rfl en52.symm (by decide) rfl ?_
  refine gg_goto (pc := 55) cx (tgt := 4) dX9_nextHeld_55 (by decide) ?_
  refine gg_lv (lv' := [(0, .ref (gAd t 9 o0)), (1, .int x2), (2, .int n52)]) [2, 1, 0] rfl ?_
  exact hR4 o0 x2 n52 M v0 h
set_option maxRecDepth 100000 in
set_option maxHeartbeats 4000000 in
theorem wk_X9_nextHeld_L4 {t : gT} {X : gX} (cx : g_Cx t X cX9_nextHeld 3 RX9 (some .int)) (hM : g_hM t) {K : Int32 → gM → Prop} (hQ : gXQ X = MQ (gXb X) (va_Qi K (g_B t) (g_A t)) (gXa X) (gXs X) rm_X9_nextHeld.cells rm_X9_nextHeld.slots (g_A t)) (f : Nat) : ∀ (o0 : Nat) (x1 : Int32) (x2 : Int32) (M : gM), o0 < 1 → wp_X9_nextHeld_L4 K f o0 x1 x2 M → G t rm_X9_nextHeld X 3 0 0 M [(0, .ref (gAd t 9 o0)), (1, .int x1), (2, .int x2)] [] 4 := by
  induction f with
  | zero => intro _ _ _ _ _ _; exact False.elim (by assumption)
  | succ f ih =>
    intro o0 x1 x2 M v0 h
    refine gg_iload_n (pc := 4) cx 2 rfl dX9_nextHeld_4 rfl ?_
    refine gg_i2l (pc := 5) cx dX9_nextHeld_5 ?_
    refine gg_aload_n (pc := 6) cx 0 rfl dX9_nextHeld_6 rfl ?_
    refine gf_Model_v (pc := 7) cx (hM 9 _ rfl v0) tw_1306 dX9_nextHeld_7 ?_
    refine gg_iconst (pc := 10) cx (v := 4) dX9_nextHeld_10 (by decide) ?_
    have q11 := h.1
    have h := h.2
    refine gg_lald (pc := 11) cx (hM 47 _ rfl v0) rfl q11 dX9_nextHeld_11 ?_
    refine gg_lcmp_ge (pc := 12) cx (tgt := 58) dX9_nextHeld_12 dX9_nextHeld_13 (by decide) (fun c12 => ?_) (fun c12 => ?_)
    · have h := g_it c12 h
      refine gg_iload_n (pc := 58) cx 1 rfl dX9_nextHeld_58 rfl ?_
      exact gg_iret (pc := 59) cx hQ h dX9_nextHeld_59
    · have h := g_if c12 h
      refine gg_iload_n (pc := 16) cx 1 rfl dX9_nextHeld_16 rfl ?_
      refine gg_if_lt (pc := 17) cx (tgt := 46) dX9_nextHeld_17 (by decide) (fun c17 => ?_) (fun c17 => ?_)
      · have h := g_it c17 h
        refine gg_lv (lv' := [(0, .ref (gAd t 9 o0)), (2, .int x2)]) [0, 2] rfl ?_
        exact wk_X9_nextHeld_b46 cx hM hQ ih v0 h
      · have h := g_if c17 h
        refine gg_aload_n (pc := 20) cx 0 rfl dX9_nextHeld_20 rfl ?_
        refine gf_Model_v (pc := 21) cx (hM 9 _ rfl v0) tw_1306 dX9_nextHeld_21 ?_
        refine gg_iload_n (pc := 24) cx 2 rfl dX9_nextHeld_24 rfl ?_
        refine gg_callSi (pc := 25) cx cal_X9_hold tw_1506 (ct_X9_hold cx.tr hM  h) tw_1505 rfl (st := [.ref (gAd t 47 o0)]) rfl (Nat.le_of_ble_eq_true rfl) ⟨Nat.le_of_ble_eq_true rfl, Nat.le_of_ble_eq_true rfl⟩ ⟨Nat.le_of_ble_eq_true rfl, Nat.le_of_ble_eq_true rfl⟩ dX9_nextHeld_25 (fun r25 M25 h => ?_)
        refine gg_iconst (pc := 28) cx (v := 0) dX9_nextHeld_28 (by decide) ?_
        refine gg_iadd (pc := 29) cx dX9_nextHeld_29 ?_
        have q30 := h.1
        have h := h.2
        refine gg_lald (pc := 30) cx (hM 47 _ rfl v0) rfl q30 dX9_nextHeld_30 ?_
        refine gg_aload_n (pc := 31) cx 0 rfl dX9_nextHeld_31 rfl ?_
        refine gf_Model_v (pc := 32) cx (hM 9 _ rfl v0) tw_1306 dX9_nextHeld_32 ?_
        refine gg_iload_n (pc := 35) cx 1 rfl dX9_nextHeld_35 rfl ?_
        refine gg_callSi (pc := 36) cx cal_X9_hold tw_1506 (ct_X9_hold cx.tr hM  h) tw_1505 rfl (st := [.ref (gAd t 47 o0), .long (M25.2 47 o0 (r25 + 0).toNatClampNeg)]) rfl (Nat.le_of_ble_eq_true rfl) ⟨Nat.le_of_ble_eq_true rfl, Nat.le_of_ble_eq_true rfl⟩ ⟨Nat.le_of_ble_eq_true rfl, Nat.le_of_ble_eq_true rfl⟩ dX9_nextHeld_36 (fun r36 M36 h => ?_)
        refine gg_iconst (pc := 39) cx (v := 0) dX9_nextHeld_39 (by decide) ?_
        refine gg_iadd (pc := 40) cx dX9_nextHeld_40 ?_
        have q41 := h.1
        have h := h.2
        refine gg_lald (pc := 41) cx (hM 47 _ rfl v0) rfl q41 dX9_nextHeld_41 ?_
        refine gg_lcmp_ge (pc := 42) cx (tgt := 50) dX9_nextHeld_42 dX9_nextHeld_43 (by decide) (fun c42 => ?_) (fun c42 => ?_)
        · have h := g_it c42 h
          refine gg_iload_n (pc := 50) cx 1 rfl dX9_nextHeld_50 rfl ?_
          refine gg_istore_n (pc := 51) cx [(1, .int x1), (0, .ref (gAd t 9 o0)), (2, .int x2)] dX9_nextHeld_51 rfl (by decide) rfl ?_
          obtain ⟨n52, en52⟩ : ∃ z : Int32, z = x2 + Int32.ofInt (1) := ⟨_, rfl⟩
          have h := h n52 en52
          refine gg_iinc (pc := 52) cx 2 [(2, .int n52), (1, .int x1), (0, .ref (gAd t 9 o0))] dX9_nextHeld_52 rfl en52.symm (by decide) rfl ?_
          refine gg_goto (pc := 55) cx (tgt := 4) dX9_nextHeld_55 (by decide) ?_
          refine gg_lv (lv' := [(0, .ref (gAd t 9 o0)), (1, .int x1), (2, .int n52)]) [2, 1, 0] rfl ?_
          exact ih o0 x1 n52 M36 v0 h
        · have h := g_if c42 h
          refine gg_lv (lv' := [(0, .ref (gAd t 9 o0)), (2, .int x2)]) [0, 2] rfl ?_
          exact wk_X9_nextHeld_b46 cx hM hQ ih v0 h
theorem cal_X9_nextHeld : g_Cal yX9_nextHeld cX9_nextHeld 3 (some .int) 0 := ⟨tw_17, tw_1553, by decide, by decide, by decide +kernel⟩
theorem calv_X9_nextHeld : g_CalV yX9_nextHeld := ⟨tw_1552, ts_65⟩
set_option maxRecDepth 100000 in
set_option maxHeartbeats 4000000 in
theorem ct_X9_nextHeld {l : Launch} (hl : l.stackTraces = false) {t : gT} (hM : g_hM t) {o0 : Nat} (v0 : o0 < 1) {M : gM} {K : Int32 → gM → Prop} (h : wp_X9_nextHeld o0 M K) : Met l yX9_nextHeld (g_y yX9_nextHeld cX9_nextHeld 3 (some .int)) rm_X9_nextHeld (va_Pc [.ref (gAd t 9 o0)] (g_Pre t M)) (va_Qi K (g_B t) (g_A t)) rm_X9_nextHeld.cells rm_X9_nextHeld.slots (g_A t) := by
  refine g_met hl rfl (Nat.le_of_ble_eq_true rfl) (fun X hlX cx hQ => ?_)
  subst hlX
  refine gg_iconst (pc := 0) cx (v := (-1)) dX9_nextHeld_0 (by decide) ?_
  refine gg_istore_n (pc := 1) cx [(1, .int (-1)), (0, .ref (gAd t 9 o0))] dX9_nextHeld_1 rfl (by decide) rfl ?_
  refine gg_iconst (pc := 2) cx (v := 0) dX9_nextHeld_2 (by decide) ?_
  refine gg_istore_n (pc := 3) cx [(2, .int 0), (1, .int (-1)), (0, .ref (gAd t 9 o0))] dX9_nextHeld_3 rfl (by decide) rfl ?_
  refine gg_lv (lv' := [(0, .ref (gAd t 9 o0)), (1, .int (-1)), (2, .int 0)]) [2, 1, 0] rfl ?_
  obtain ⟨f4, h⟩ := h
  exact wk_X9_nextHeld_L4 cx hM hQ f4 o0 (-1) 0 M v0 h
set_option maxRecDepth 100000 in
set_option maxHeartbeats 4000000 in
theorem wk_X9_passes_b191 {t : gT} {X : gX} (cx : g_Cx t X cX9_passes 10 RX9 (some .int)) (hM : g_hM t) {K : Int32 → gM → Prop} (hQ : gXQ X = MQ (gXb X) (va_Qi K (g_B t) (g_A t)) (gXa X) (gXs X) rm_X9_passes.cells rm_X9_passes.slots (g_A t)) {o0 : Nat} {y1 : Int64} {x3 : Int32} {M : gM} (v0 : o0 < 1) (h : wp_X9_passes_b191 K o0 y1 x3 M) : G t rm_X9_passes X 10 0 0 M [(0, .ref (gAd t 9 o0)), (1, .long y1), (3, .int x3)] [] 191 := by
  refine gg_aload_n (pc := 191) cx 0 rfl dX9_passes_191 rfl ?_
  refine gf_Model_v (pc := 192) cx (hM 9 _ rfl v0) tw_1306 dX9_passes_192 ?_
  refine gg_iconst (pc := 195) cx (v := 0) dX9_passes_195 (by decide) ?_
  refine gg_lload_n (pc := 196) cx 1 rfl dX9_passes_196 rfl ?_
  have q197 := h.1
  have h := h.2
  refine gg_last (pc := 197) cx (hM 47 _ rfl v0) (fun _ _ => rfl) q197 dX9_passes_197 ?_
  refine gg_mem (fun M197 eM197 => ?_)
  have h := h M197 eM197
  refine gg_iload_n (pc := 198) cx 2 rfl dX9_passes_198 rfl ?_
  exact gg_iret (pc := 199) cx hQ h dX9_passes_199
set_option maxRecDepth 100000 in
set_option maxHeartbeats 4000000 in
theorem wk_X9_passes_L91 {t : gT} {X : gX} (cx : g_Cx t X cX9_passes 10 RX9 (some .int)) (hM : g_hM t) {K : Int32 → gM → Prop} (hQ : gXQ X = MQ (gXb X) (va_Qi K (g_B t) (g_A t)) (gXa X) (gXs X) rm_X9_passes.cells rm_X9_passes.slots (g_A t)) {R8 : Nat → Int64 → Int32 → Int32 → gM → Prop} (hR8 : ∀ (o0 : Nat) (y1 : Int64) (x3 : Int32) (x4 : Int32) (M : gM), o0 < 1 → R8 o0 y1 x3 x4 M → G t rm_X9_passes X 10 0 0 M [(0, .ref (gAd t 9 o0)), (1, .long y1), (3, .int x3), (4, .int x4)] [] 8) (f : Nat) : ∀ (o0 : Nat) (y1 : Int64) (x3 : Int32) (y5 : Int64) (x7 : Int32) (x8 : Int32) (x9 : Int32) (M : gM), o0 < 1 → wp_X9_passes_L91 R8 K f o0 y1 x3 y5 x7 x8 x9 M → G t rm_X9_passes X 10 0 0 M [(0, .ref (gAd t 9 o0)), (1, .long y1), (3, .int x3), (5, .long y5), (7, .int x7), (8, .int x8), (9, .int x9)] [] 91 := by
  induction f with
  | zero => intro _ _ _ _ _ _ _ _ _ _; exact False.elim (by assumption)
  | succ f ih =>
    intro o0 y1 x3 y5 x7 x8 x9 M v0 h
    refine gg_iload (pc := 91) cx 6 rfl dX9_passes_91 ?_
    refine gg_aload_n (pc := 93) cx 0 rfl dX9_passes_93 rfl ?_
    refine gf_Model_v (pc := 94) cx (hM 9 _ rfl v0) tw_1306 dX9_passes_94 ?_
    refine gg_iconst (pc := 97) cx (v := 4) dX9_passes_97 (by decide) ?_
    have q98 := h.1
    have h := h.2
    refine gg_lald (pc := 98) cx (hM 47 _ rfl v0) rfl q98 dX9_passes_98 ?_
    refine gg_l2i (pc := 99) cx dX9_passes_99 ?_
    refine gg_callSi (pc := 100) cx cal_X9_hold tw_1506 (ct_X9_hold cx.tr hM  h) tw_1505 rfl (st := [.int x9]) rfl (Nat.le_of_ble_eq_true rfl) ⟨Nat.le_of_ble_eq_true rfl, Nat.le_of_ble_eq_true rfl⟩ ⟨Nat.le_of_ble_eq_true rfl, Nat.le_of_ble_eq_true rfl⟩ dX9_passes_100 (fun r100 M100 h => ?_)
    refine gg_icmp_ge (pc := 103) cx (tgt := 128) dX9_passes_103 (by decide) (fun c103 => ?_) (fun c103 => ?_)
    · have h := g_it c103 h
      refine gg_aload_n (pc := 128) cx 0 rfl dX9_passes_128 rfl ?_
      refine gf_Model_v (pc := 129) cx (hM 9 _ rfl v0) tw_1306 dX9_passes_129 ?_
      refine gg_iload (pc := 132) cx 4 rfl dX9_passes_132 ?_
      refine gg_callSi (pc := 134) cx cal_X9_node tw_1300 (ct_X9_node cx.tr hM  h) tw_1299 rfl (st := [.ref (gAd t 47 o0)]) rfl (Nat.le_of_ble_eq_true rfl) ⟨Nat.le_of_ble_eq_true rfl, Nat.le_of_ble_eq_true rfl⟩ ⟨Nat.le_of_ble_eq_true rfl, Nat.le_of_ble_eq_true rfl⟩ dX9_passes_134 (fun r134 M134 h => ?_)
      refine gg_iconst (pc := 137) cx (v := 0) dX9_passes_137 (by decide) ?_
      refine gg_iadd (pc := 138) cx dX9_passes_138 ?_
      have q139 := h.1
      have h := h.2
      refine gg_lald (pc := 139) cx (hM 47 _ rfl v0) rfl q139 dX9_passes_139 ?_
      refine gg_l2i (pc := 140) cx dX9_passes_140 ?_
      refine gg_topi (fun n141 en141 => ?_)
      have h := h n141 en141
      refine gg_istore (pc := 141) cx [(9, .int n141), (0, .ref (gAd t 9 o0)), (1, .long y1), (3, .int x3), (5, .long y5), (7, .int x7), (8, .int x8)] dX9_passes_141 (by decide) rfl ?_
      refine gg_aload_n (pc := 143) cx 1 rfl dX9_passes_143 rfl ?_
      refine gg_iload (pc := 144) cx 0 rfl dX9_passes_144 ?_
      refine gg_iload (pc := 146) cx 5 rfl dX9_passes_146 ?_
      refine gg_iload (pc := 148) cx 5 rfl dX9_passes_148 ?_
      refine gg_aload_n (pc := 150) cx 1 rfl dX9_passes_150 rfl ?_
      refine gf_Model_v (pc := 151) cx (hM 9 _ rfl v0) tw_1306 dX9_passes_151 ?_
      refine gg_iload (pc := 154) cx 5 rfl dX9_passes_154 ?_
      refine gg_callSi (pc := 156) cx cal_X9_node tw_1300 (ct_X9_node cx.tr hM  h) tw_1299 rfl (st := [.ref (gAd t 47 o0), .int x7, .int x7, .int n141, .ref (gAd t 9 o0)]) rfl (Nat.le_of_ble_eq_true rfl) ⟨Nat.le_of_ble_eq_true rfl, Nat.le_of_ble_eq_true rfl⟩ ⟨Nat.le_of_ble_eq_true rfl, Nat.le_of_ble_eq_true rfl⟩ dX9_passes_156 (fun r156 M156 h => ?_)
      refine gg_iconst (pc := 159) cx (v := 5) dX9_passes_159 (by decide) ?_
      refine gg_iadd (pc := 160) cx dX9_passes_160 ?_
      have q161 := h.1
      have h := h.2
      refine gg_lald (pc := 161) cx (hM 47 _ rfl v0) rfl q161 dX9_passes_161 ?_
      refine gg_iload (pc := 162) cx 6 rfl dX9_passes_162 ?_
      refine gg_lload (pc := 164) cx 4 rfl dX9_passes_164 ?_
      refine gg_callVv (pc := 166) cx cal_X9_enters calv_X9_enters (ct_X9_enters cx.tr hM v0 h) tw_1474 (hM 9 _ rfl v0) rfl rfl rfl (st := []) rfl (Nat.le_of_ble_eq_true rfl) ⟨Nat.le_of_ble_eq_true rfl, Nat.le_of_ble_eq_true rfl⟩ ⟨Nat.le_of_ble_eq_true rfl, Nat.le_of_ble_eq_true rfl⟩ dX9_passes_166 (fun M166 h => ?_)
      refine gg_aload_n (pc := 169) cx 1 rfl dX9_passes_169 rfl ?_
      refine gg_iload (pc := 170) cx 0 rfl dX9_passes_170 ?_
      refine gg_iload (pc := 172) cx 6 rfl dX9_passes_172 ?_
      refine gg_lload (pc := 174) cx 4 rfl dX9_passes_174 ?_
      refine gg_callVv (pc := 176) cx cal_X9_climbs calv_X9_climbs (ct_X9_climbs cx.tr hM v0 h) tw_1496 (hM 9 _ rfl v0) rfl rfl rfl (st := []) rfl (Nat.le_of_ble_eq_true rfl) ⟨Nat.le_of_ble_eq_true rfl, Nat.le_of_ble_eq_true rfl⟩ ⟨Nat.le_of_ble_eq_true rfl, Nat.le_of_ble_eq_true rfl⟩ dX9_passes_176 (fun M176 h => ?_)
      obtain ⟨n179, en179⟩ : ∃ z : Int32, z = x3 + Int32.ofInt (1) := ⟨_, rfl⟩
      have h := h n179 en179
      refine gg_iinc (pc := 179) cx 3 [(3, .int n179), (9, .int n141), (0, .ref (gAd t 9 o0)), (1, .long y1), (5, .long y5), (7, .int x7), (8, .int x8)] dX9_passes_179 rfl en179.symm (by decide) rfl ?_
      refine gg_aload_n (pc := 182) cx 2 rfl dX9_passes_182 rfl ?_
      refine gg_callVi (pc := 183) cx cal_X9_nextHeld calv_X9_nextHeld (ct_X9_nextHeld cx.tr hM v0 h) tw_1550 (hM 9 _ rfl v0) rfl rfl rfl (st := []) rfl (Nat.le_of_ble_eq_true rfl) ⟨Nat.le_of_ble_eq_true rfl, Nat.le_of_ble_eq_true rfl⟩ ⟨Nat.le_of_ble_eq_true rfl, Nat.le_of_ble_eq_true rfl⟩ dX9_passes_183 (fun r183 M183 h => ?_)
      refine gg_istore (pc := 186) cx [(4, .int r183), (3, .int n179), (9, .int n141), (0, .ref (gAd t 9 o0)), (1, .long y1), (5, .long y5), (7, .int x7), (8, .int x8)] dX9_passes_186 (by decide) rfl ?_
      refine gg_goto (pc := 188) cx (tgt := 8) dX9_passes_188 (by decide) ?_
      refine gg_lv (lv' := [(0, .ref (gAd t 9 o0)), (1, .long y1), (3, .int n179), (4, .int r183)]) [3, 4, 1, 0] rfl ?_
      exact hR8 o0 y1 n179 r183 M183 v0 h
    · have h := g_if c103 h
      refine gg_aload_n (pc := 106) cx 0 rfl dX9_passes_106 rfl ?_
      refine gf_Model_v (pc := 107) cx (hM 9 _ rfl v0) tw_1306 dX9_passes_107 ?_
      refine gg_iload (pc := 110) cx 6 rfl dX9_passes_110 ?_
      refine gg_aload_n (pc := 112) cx 0 rfl dX9_passes_112 rfl ?_
      refine gf_Model_v (pc := 113) cx (hM 9 _ rfl v0) tw_1306 dX9_passes_113 ?_
      refine gg_iload (pc := 116) cx 6 rfl dX9_passes_116 ?_
      refine gg_iconst (pc := 118) cx (v := 4) dX9_passes_118 (by decide) ?_
      refine gg_iadd (pc := 119) cx dX9_passes_119 ?_
      have q120 := h.1
      have h := h.2
      refine gg_lald (pc := 120) cx (hM 47 _ rfl v0) rfl q120 dX9_passes_120 ?_
      have q121 := h.1
      have h := h.2
      refine gg_last (pc := 121) cx (hM 47 _ rfl v0) (fun _ _ => rfl) q121 dX9_passes_121 ?_
      refine gg_mem (fun M121 eM121 => ?_)
      have h := h M121 eM121
      obtain ⟨n122, en122⟩ : ∃ z : Int32, z = x9 + Int32.ofInt (1) := ⟨_, rfl⟩
      have h := h n122 en122
      refine gg_iinc (pc := 122) cx 6 [(9, .int n122), (0, .ref (gAd t 9 o0)), (1, .long y1), (3, .int x3), (5, .long y5), (7, .int x7), (8, .int x8)] dX9_passes_122 rfl en122.symm (by decide) rfl ?_
      refine gg_goto (pc := 125) cx (tgt := 91) dX9_passes_125 (by decide) ?_
      refine gg_lv (lv' := [(0, .ref (gAd t 9 o0)), (1, .long y1), (3, .int x3), (5, .long y5), (7, .int x7), (8, .int x8), (9, .int n122)]) [1, 2, 3, 4, 5, 6, 0] rfl ?_
      exact ih o0 y1 x3 y5 x7 x8 n122 M121 v0 h
set_option maxRecDepth 100000 in
set_option maxHeartbeats 4000000 in
theorem wk_X9_passes_L8 {t : gT} {X : gX} (cx : g_Cx t X cX9_passes 10 RX9 (some .int)) (hM : g_hM t) {K : Int32 → gM → Prop} (hQ : gXQ X = MQ (gXb X) (va_Qi K (g_B t) (g_A t)) (gXa X) (gXs X) rm_X9_passes.cells rm_X9_passes.slots (g_A t)) (f : Nat) : ∀ (o0 : Nat) (y1 : Int64) (x3 : Int32) (x4 : Int32) (M : gM), o0 < 1 → wp_X9_passes_L8 K f o0 y1 x3 x4 M → G t rm_X9_passes X 10 0 0 M [(0, .ref (gAd t 9 o0)), (1, .long y1), (3, .int x3), (4, .int x4)] [] 8 := by
  induction f with
  | zero => intro _ _ _ _ _ _ _; exact False.elim (by assumption)
  | succ f ih =>
    intro o0 y1 x3 x4 M v0 h
    refine gg_iload (pc := 8) cx 3 rfl dX9_passes_8 ?_
    refine gg_if_lt (pc := 10) cx (tgt := 191) dX9_passes_10 (by decide) (fun c10 => ?_) (fun c10 => ?_)
    · have h := g_it c10 h
      refine gg_lv (lv' := [(0, .ref (gAd t 9 o0)), (1, .long y1), (3, .int x3)]) [0, 1, 2] rfl ?_
      exact wk_X9_passes_b191 cx hM hQ v0 h
    · have h := g_if c10 h
      refine gg_aload_n (pc := 13) cx 0 rfl dX9_passes_13 rfl ?_
      refine gf_Model_v (pc := 14) cx (hM 9 _ rfl v0) tw_1306 dX9_passes_14 ?_
      refine gg_iload (pc := 17) cx 3 rfl dX9_passes_17 ?_
      refine gg_callSi (pc := 19) cx cal_X9_hold tw_1506 (ct_X9_hold cx.tr hM  h) tw_1505 rfl (st := [.ref (gAd t 47 o0)]) rfl (Nat.le_of_ble_eq_true rfl) ⟨Nat.le_of_ble_eq_true rfl, Nat.le_of_ble_eq_true rfl⟩ ⟨Nat.le_of_ble_eq_true rfl, Nat.le_of_ble_eq_true rfl⟩ dX9_passes_19 (fun r19 M19 h => ?_)
      refine gg_iconst (pc := 22) cx (v := 0) dX9_passes_22 (by decide) ?_
      refine gg_iadd (pc := 23) cx dX9_passes_23 ?_
      have q24 := h.1
      have h := h.2
      refine gg_lald (pc := 24) cx (hM 47 _ rfl v0) rfl q24 dX9_passes_24 ?_
      refine gg_lload_n (pc := 25) cx 1 rfl dX9_passes_25 rfl ?_
      refine gg_lcmp_gt (pc := 26) cx (tgt := 191) dX9_passes_26 dX9_passes_27 (by decide) (fun c26 => ?_) (fun c26 => ?_)
      · have h := g_it c26 h
        refine gg_lv (lv' := [(0, .ref (gAd t 9 o0)), (1, .long y1), (3, .int x3)]) [0, 1, 2] rfl ?_
        exact wk_X9_passes_b191 cx hM hQ v0 h
      · have h := g_if c26 h
        refine gg_aload_n (pc := 30) cx 0 rfl dX9_passes_30 rfl ?_
        refine gf_Model_v (pc := 31) cx (hM 9 _ rfl v0) tw_1306 dX9_passes_31 ?_
        refine gg_iload (pc := 34) cx 3 rfl dX9_passes_34 ?_
        refine gg_callSi (pc := 36) cx cal_X9_hold tw_1506 (ct_X9_hold cx.tr hM  h) tw_1505 rfl (st := [.ref (gAd t 47 o0)]) rfl (Nat.le_of_ble_eq_true rfl) ⟨Nat.le_of_ble_eq_true rfl, Nat.le_of_ble_eq_true rfl⟩ ⟨Nat.le_of_ble_eq_true rfl, Nat.le_of_ble_eq_true rfl⟩ dX9_passes_36 (fun r36 M36 h => ?_)
        refine gg_iconst (pc := 39) cx (v := 0) dX9_passes_39 (by decide) ?_
        refine gg_iadd (pc := 40) cx dX9_passes_40 ?_
        have q41 := h.1
        have h := h.2
        refine gg_lald (pc := 41) cx (hM 47 _ rfl v0) rfl q41 dX9_passes_41 ?_
        refine gg_topl (fun n42 en42 => ?_)
        have h := h n42 en42
        refine gg_lstore (pc := 42) cx [(5, .long n42), (0, .ref (gAd t 9 o0)), (1, .long y1), (3, .int x3), (4, .int x4)] dX9_passes_42 (by decide) rfl ?_
        refine gg_aload_n (pc := 44) cx 1 rfl dX9_passes_44 rfl ?_
        refine gf_Model_v (pc := 45) cx (hM 9 _ rfl v0) tw_1306 dX9_passes_45 ?_
        refine gg_iload (pc := 48) cx 4 rfl dX9_passes_48 ?_
        refine gg_callSi (pc := 50) cx cal_X9_hold tw_1506 (ct_X9_hold cx.tr hM  h) tw_1505 rfl (st := [.ref (gAd t 47 o0)]) rfl (Nat.le_of_ble_eq_true rfl) ⟨Nat.le_of_ble_eq_true rfl, Nat.le_of_ble_eq_true rfl⟩ ⟨Nat.le_of_ble_eq_true rfl, Nat.le_of_ble_eq_true rfl⟩ dX9_passes_50 (fun r50 M50 h => ?_)
        refine gg_iconst (pc := 53) cx (v := 2) dX9_passes_53 (by decide) ?_
        refine gg_iadd (pc := 54) cx dX9_passes_54 ?_
        have q55 := h.1
        have h := h.2
        refine gg_lald (pc := 55) cx (hM 47 _ rfl v0) rfl q55 dX9_passes_55 ?_
        refine gg_l2i (pc := 56) cx dX9_passes_56 ?_
        refine gg_topi (fun n57 en57 => ?_)
        have h := h n57 en57
        refine gg_istore (pc := 57) cx [(7, .int n57), (5, .long n42), (0, .ref (gAd t 9 o0)), (1, .long y1), (3, .int x3), (4, .int x4)] dX9_passes_57 (by decide) rfl ?_
        refine gg_aload_n (pc := 59) cx 2 rfl dX9_passes_59 rfl ?_
        refine gf_Model_v (pc := 60) cx (hM 9 _ rfl v0) tw_1306 dX9_passes_60 ?_
        refine gg_iload (pc := 63) cx 5 rfl dX9_passes_63 ?_
        refine gg_callSi (pc := 65) cx cal_X9_hold tw_1506 (ct_X9_hold cx.tr hM  h) tw_1505 rfl (st := [.ref (gAd t 47 o0)]) rfl (Nat.le_of_ble_eq_true rfl) ⟨Nat.le_of_ble_eq_true rfl, Nat.le_of_ble_eq_true rfl⟩ ⟨Nat.le_of_ble_eq_true rfl, Nat.le_of_ble_eq_true rfl⟩ dX9_passes_65 (fun r65 M65 h => ?_)
        refine gg_iconst (pc := 68) cx (v := 3) dX9_passes_68 (by decide) ?_
        refine gg_iadd (pc := 69) cx dX9_passes_69 ?_
        have q70 := h.1
        have h := h.2
        refine gg_lald (pc := 70) cx (hM 47 _ rfl v0) rfl q70 dX9_passes_70 ?_
        refine gg_l2i (pc := 71) cx dX9_passes_71 ?_
        refine gg_topi (fun n72 en72 => ?_)
        have h := h n72 en72
        refine gg_istore (pc := 72) cx [(8, .int n72), (7, .int n57), (5, .long n42), (0, .ref (gAd t 9 o0)), (1, .long y1), (3, .int x3), (4, .int x4)] dX9_passes_72 (by decide) rfl ?_
        refine gg_aload_n (pc := 74) cx 3 rfl dX9_passes_74 rfl ?_
        refine gf_Model_v (pc := 75) cx (hM 9 _ rfl v0) tw_1306 dX9_passes_75 ?_
        refine gg_iconst (pc := 78) cx (v := 4) dX9_passes_78 (by decide) ?_
        refine gg_dup2 (pc := 79) cx dX9_passes_79 rfl rfl ?_
        have q80 := h.1
        have h := h.2
        refine gg_lald (pc := 80) cx (hM 47 _ rfl v0) rfl q80 dX9_passes_80 ?_
        refine gg_lconst (pc := 81) cx (v := 1) dX9_passes_81 (by decide) ?_
        refine gg_lsub (pc := 82) cx dX9_passes_82 ?_
        have q83 := h.1
        have h := h.2
        refine gg_last (pc := 83) cx (hM 47 _ rfl v0) (fun _ _ => rfl) q83 dX9_passes_83 ?_
        refine gg_mem (fun M83 eM83 => ?_)
        have h := h M83 eM83
        refine gg_iload (pc := 84) cx 6 rfl dX9_passes_84 ?_
        refine gg_callSi (pc := 86) cx cal_X9_hold tw_1506 (ct_X9_hold cx.tr hM  h) tw_1505 rfl (st := []) rfl (Nat.le_of_ble_eq_true rfl) ⟨Nat.le_of_ble_eq_true rfl, Nat.le_of_ble_eq_true rfl⟩ ⟨Nat.le_of_ble_eq_true rfl, Nat.le_of_ble_eq_true rfl⟩ dX9_passes_86 (fun r86 M86 h => ?_)
        refine gg_istore (pc := 89) cx [(9, .int r86), (8, .int n72), (7, .int n57), (5, .long n42), (0, .ref (gAd t 9 o0)), (1, .long y1), (3, .int x3), (4, .int x4)] dX9_passes_89 (by decide) rfl ?_
        refine gg_lv (lv' := [(0, .ref (gAd t 9 o0)), (1, .long y1), (3, .int x3), (5, .long n42), (7, .int n57), (8, .int n72), (9, .int r86)]) [4, 5, 6, 3, 2, 1, 0] rfl ?_
        obtain ⟨f91, h⟩ := h
        exact wk_X9_passes_L91 cx hM hQ ih f91 o0 y1 x3 n42 n57 n72 r86 M86 v0 h
theorem cal_X9_passes : g_Cal yX9_passes cX9_passes 10 (some .int) 1 := ⟨tw_17, tw_1549, by decide, by decide, by decide +kernel⟩
theorem calv_X9_passes : g_CalV yX9_passes := ⟨tw_1548, ts_64⟩
set_option maxRecDepth 100000 in
set_option maxHeartbeats 4000000 in
theorem ct_X9_passes {l : Launch} (hl : l.stackTraces = false) {t : gT} (hM : g_hM t) {o0 : Nat} {y1 : Int64} (v0 : o0 < 1) {M : gM} {K : Int32 → gM → Prop} (h : wp_X9_passes o0 y1 M K) : Met l yX9_passes (g_y yX9_passes cX9_passes 10 (some .int)) rm_X9_passes (va_Pc [.ref (gAd t 9 o0), .long y1] (g_Pre t M)) (va_Qi K (g_B t) (g_A t)) rm_X9_passes.cells rm_X9_passes.slots (g_A t) := by
  refine g_met hl rfl (Nat.le_of_ble_eq_true rfl) (fun X hlX cx hQ => ?_)
  subst hlX
  refine gg_iconst (pc := 0) cx (v := 0) dX9_passes_0 (by decide) ?_
  refine gg_istore_n (pc := 1) cx [(3, .int 0), (0, .ref (gAd t 9 o0)), (1, .long y1)] dX9_passes_1 rfl (by decide) rfl ?_
  refine gg_aload_n (pc := 2) cx 1 rfl dX9_passes_2 rfl ?_
  refine gg_callVi (pc := 3) cx cal_X9_nextHeld calv_X9_nextHeld (ct_X9_nextHeld cx.tr hM v0 h) tw_1550 (hM 9 _ rfl v0) rfl rfl rfl (st := []) rfl (Nat.le_of_ble_eq_true rfl) ⟨Nat.le_of_ble_eq_true rfl, Nat.le_of_ble_eq_true rfl⟩ ⟨Nat.le_of_ble_eq_true rfl, Nat.le_of_ble_eq_true rfl⟩ dX9_passes_3 (fun r3 M3 h => ?_)
  refine gg_istore (pc := 6) cx [(4, .int r3), (3, .int 0), (0, .ref (gAd t 9 o0)), (1, .long y1)] dX9_passes_6 (by decide) rfl ?_
  refine gg_lv (lv' := [(0, .ref (gAd t 9 o0)), (1, .long y1), (3, .int 0), (4, .int r3)]) [2, 3, 1, 0] rfl ?_
  obtain ⟨f8, h⟩ := h
  exact wk_X9_passes_L8 cx hM hQ f8 o0 y1 0 r3 M3 v0 h
theorem cal_X9_keyOf : g_Cal yX9_keyOf cX9_keyOf 3 (some .int) 2 := ⟨tw_17, tw_1533, by decide, by decide, by decide +kernel⟩
theorem calv_X9_keyOf : g_CalV yX9_keyOf := ⟨tw_1532, ts_61⟩
set_option maxRecDepth 100000 in
set_option maxHeartbeats 4000000 in
theorem ct_X9_keyOf {l : Launch} (hl : l.stackTraces = false) {t : gT} (hM : g_hM t) {o0 : Nat} {x1 : Int32} {x2 : Int32} (v0 : o0 < 1) {M : gM} {K : Int32 → gM → Prop} (h : wp_X9_keyOf o0 x1 x2 M K) : Met l yX9_keyOf (g_y yX9_keyOf cX9_keyOf 3 (some .int)) rm_X9_keyOf (va_Pc [.ref (gAd t 9 o0), .int x1, .int x2] (g_Pre t M)) (va_Qi K (g_B t) (g_A t)) rm_X9_keyOf.cells rm_X9_keyOf.slots (g_A t) := by
  refine g_met hl rfl (Nat.le_of_ble_eq_true rfl) (fun X hlX cx hQ => ?_)
  subst hlX
  refine gg_aload_n (pc := 0) cx 0 rfl dX9_keyOf_0 rfl ?_
  refine gg_iload_n (pc := 1) cx 1 rfl dX9_keyOf_1 rfl ?_
  refine gg_callVi (pc := 2) cx cal_X9_isLeaf calv_X9_isLeaf (ct_X9_isLeaf cx.tr hM v0 h) tw_1302 (hM 9 _ rfl v0) rfl rfl rfl (st := []) rfl (Nat.le_of_ble_eq_true rfl) ⟨Nat.le_of_ble_eq_true rfl, Nat.le_of_ble_eq_true rfl⟩ ⟨Nat.le_of_ble_eq_true rfl, Nat.le_of_ble_eq_true rfl⟩ dX9_keyOf_2 (fun r2 M2 h => ?_)
  refine gg_if_eq (pc := 5) cx (tgt := 31) dX9_keyOf_5 (by decide) (fun c5 => ?_) (fun c5 => ?_)
  · have h := g_it c5 h
    refine gg_aload_n (pc := 31) cx 0 rfl dX9_keyOf_31 rfl ?_
    refine gf_Model_v (pc := 32) cx (hM 9 _ rfl v0) tw_1306 dX9_keyOf_32 ?_
    refine gg_iload_n (pc := 35) cx 2 rfl dX9_keyOf_35 rfl ?_
    refine gg_iconst (pc := 36) cx (v := 0) dX9_keyOf_36 (by decide) ?_
    refine gg_iadd (pc := 37) cx dX9_keyOf_37 ?_
    have q38 := h.1
    have h := h.2
    refine gg_lald (pc := 38) cx (hM 47 _ rfl v0) rfl q38 dX9_keyOf_38 ?_
    refine gg_l2i (pc := 39) cx dX9_keyOf_39 ?_
    exact gg_iret (pc := 40) cx hQ h dX9_keyOf_40
  · have h := g_if c5 h
    refine gg_aload_n (pc := 8) cx 0 rfl dX9_keyOf_8 rfl ?_
    refine gf_Model_v (pc := 9) cx (hM 9 _ rfl v0) tw_1306 dX9_keyOf_9 ?_
    refine gg_aload_n (pc := 12) cx 0 rfl dX9_keyOf_12 rfl ?_
    refine gf_Model_v (pc := 13) cx (hM 9 _ rfl v0) tw_1306 dX9_keyOf_13 ?_
    refine gg_iload_n (pc := 16) cx 2 rfl dX9_keyOf_16 rfl ?_
    refine gg_iconst (pc := 17) cx (v := 0) dX9_keyOf_17 (by decide) ?_
    refine gg_iadd (pc := 18) cx dX9_keyOf_18 ?_
    have q19 := h.1
    have h := h.2
    refine gg_lald (pc := 19) cx (hM 47 _ rfl v0) rfl q19 dX9_keyOf_19 ?_
    refine gg_l2i (pc := 20) cx dX9_keyOf_20 ?_
    refine gg_callSi (pc := 21) cx cal_X9_packet tw_1472 (ct_X9_packet cx.tr hM  h) tw_1471 rfl (st := [.ref (gAd t 47 o0)]) rfl (Nat.le_of_ble_eq_true rfl) ⟨Nat.le_of_ble_eq_true rfl, Nat.le_of_ble_eq_true rfl⟩ ⟨Nat.le_of_ble_eq_true rfl, Nat.le_of_ble_eq_true rfl⟩ dX9_keyOf_21 (fun r21 M21 h => ?_)
    refine gg_iconst (pc := 24) cx (v := 0) dX9_keyOf_24 (by decide) ?_
    refine gg_iadd (pc := 25) cx dX9_keyOf_25 ?_
    have q26 := h.1
    have h := h.2
    refine gg_lald (pc := 26) cx (hM 47 _ rfl v0) rfl q26 dX9_keyOf_26 ?_
    refine gg_l2i (pc := 27) cx dX9_keyOf_27 ?_
    refine gg_goto (pc := 28) cx (tgt := 40) dX9_keyOf_28 (by decide) ?_
    exact gg_iret (pc := 40) cx hQ h dX9_keyOf_40
set_option maxRecDepth 100000 in
set_option maxHeartbeats 4000000 in
theorem wk_X9_isAhead_b185 {t : gT} {X : gX} (cx : g_Cx t X cX9_isAhead 12 RX9 (some .boolean)) (hM : g_hM t) {K : Int32 → gM → Prop} (hQ : gXQ X = MQ (gXb X) (va_Qi K (g_B t) (g_A t)) (gXa X) (gXs X) rm_X9_isAhead.cells rm_X9_isAhead.slots (g_A t)) {o0 : Nat} {x4 : Int32} {x5 : Int32} {y6 : Int64} {y8 : Int64} {ys0 : Int64} {M : gM} (v0 : o0 < 1) (h : wp_X9_isAhead_b185 K o0 x4 x5 y6 y8 ys0 M) : G t rm_X9_isAhead X 12 0 0 M [(0, .ref (gAd t 9 o0)), (4, .int x4), (5, .int x5), (6, .long y6), (8, .long y8)] [.long ys0] 185 := by
  refine gg_lstore (pc := 185) cx [(10, .long ys0), (0, .ref (gAd t 9 o0)), (4, .int x4), (5, .int x5), (6, .long y6), (8, .long y8)] dX9_isAhead_185 (by decide) rfl ?_
  refine gg_lload (pc := 187) cx 5 rfl dX9_isAhead_187 ?_
  refine gg_lload (pc := 189) cx 0 rfl dX9_isAhead_189 ?_
  refine gg_lcmp_eq (pc := 191) cx (tgt := 209) dX9_isAhead_191 dX9_isAhead_192 (by decide) (fun c191 => ?_) (fun c191 => ?_)
  · have h := g_it c191 h
    refine gg_lload (pc := 209) cx 4 rfl dX9_isAhead_209 ?_
    refine gg_lconst (pc := 211) cx (v := 1) dX9_isAhead_211 (by decide) ?_
    refine gg_lcmp_ne (pc := 212) cx (tgt := 246) dX9_isAhead_212 dX9_isAhead_213 (by decide) (fun c212 => ?_) (fun c212 => ?_)
    · have h := g_if c212 h
      refine gg_aload_n (pc := 246) cx 1 rfl dX9_isAhead_246 rfl ?_
      refine gf_Model_v (pc := 247) cx (hM 9 _ rfl v0) tw_1306 dX9_isAhead_247 ?_
      refine gg_iload (pc := 250) cx 2 rfl dX9_isAhead_250 ?_
      refine gg_iconst (pc := 252) cx (v := 2) dX9_isAhead_252 (by decide) ?_
      refine gg_iadd (pc := 253) cx dX9_isAhead_253 ?_
      have q254 := h.1
      have h := h.2
      refine gg_lald (pc := 254) cx (hM 47 _ rfl v0) rfl q254 dX9_isAhead_254 ?_
      refine gg_aload_n (pc := 255) cx 1 rfl dX9_isAhead_255 rfl ?_
      refine gf_Model_v (pc := 256) cx (hM 9 _ rfl v0) tw_1306 dX9_isAhead_256 ?_
      refine gg_iload (pc := 259) cx 3 rfl dX9_isAhead_259 ?_
      refine gg_iconst (pc := 261) cx (v := 2) dX9_isAhead_261 (by decide) ?_
      refine gg_iadd (pc := 262) cx dX9_isAhead_262 ?_
      have q263 := h.1
      have h := h.2
      refine gg_lald (pc := 263) cx (hM 47 _ rfl v0) rfl q263 dX9_isAhead_263 ?_
      refine gg_lcmp_ge (pc := 264) cx (tgt := 272) dX9_isAhead_264 dX9_isAhead_265 (by decide) (fun c264 => ?_) (fun c264 => ?_)
      · have h := g_it c264 h
        refine gg_iconst (pc := 272) cx (v := 0) dX9_isAhead_272 (by decide) ?_
        exact gg_zret (pc := 273) cx hQ rfl h dX9_isAhead_273
      · have h := g_if c264 h
        refine gg_iconst (pc := 268) cx (v := 1) dX9_isAhead_268 (by decide) ?_
        refine gg_goto (pc := 269) cx (tgt := 273) dX9_isAhead_269 (by decide) ?_
        exact gg_zret (pc := 273) cx hQ rfl h dX9_isAhead_273
    · have h := g_it c212 h
      refine gg_aload_n (pc := 216) cx 1 rfl dX9_isAhead_216 rfl ?_
      refine gf_Model_v (pc := 217) cx (hM 9 _ rfl v0) tw_1306 dX9_isAhead_217 ?_
      refine gg_iload (pc := 220) cx 2 rfl dX9_isAhead_220 ?_
      refine gg_iconst (pc := 222) cx (v := 2) dX9_isAhead_222 (by decide) ?_
      refine gg_iadd (pc := 223) cx dX9_isAhead_223 ?_
      have q224 := h.1
      have h := h.2
      refine gg_lald (pc := 224) cx (hM 47 _ rfl v0) rfl q224 dX9_isAhead_224 ?_
      refine gg_aload_n (pc := 225) cx 1 rfl dX9_isAhead_225 rfl ?_
      refine gf_Model_v (pc := 226) cx (hM 9 _ rfl v0) tw_1306 dX9_isAhead_226 ?_
      refine gg_iload (pc := 229) cx 3 rfl dX9_isAhead_229 ?_
      refine gg_iconst (pc := 231) cx (v := 2) dX9_isAhead_231 (by decide) ?_
      refine gg_iadd (pc := 232) cx dX9_isAhead_232 ?_
      have q233 := h.1
      have h := h.2
      refine gg_lald (pc := 233) cx (hM 47 _ rfl v0) rfl q233 dX9_isAhead_233 ?_
      refine gg_lcmp_le (pc := 234) cx (tgt := 242) dX9_isAhead_234 dX9_isAhead_235 (by decide) (fun c234 => ?_) (fun c234 => ?_)
      · have h := g_it c234 h
        refine gg_iconst (pc := 242) cx (v := 0) dX9_isAhead_242 (by decide) ?_
        refine gg_goto (pc := 243) cx (tgt := 273) dX9_isAhead_243 (by decide) ?_
        exact gg_zret (pc := 273) cx hQ rfl h dX9_isAhead_273
      · have h := g_if c234 h
        refine gg_iconst (pc := 238) cx (v := 1) dX9_isAhead_238 (by decide) ?_
        refine gg_goto (pc := 239) cx (tgt := 273) dX9_isAhead_239 (by decide) ?_
        exact gg_zret (pc := 273) cx hQ rfl h dX9_isAhead_273
  · have h := g_if c191 h
    refine gg_lload (pc := 195) cx 5 rfl dX9_isAhead_195 ?_
    refine gg_lload (pc := 197) cx 0 rfl dX9_isAhead_197 ?_
    refine gg_lcmp_ge (pc := 199) cx (tgt := 207) dX9_isAhead_199 dX9_isAhead_200 (by decide) (fun c199 => ?_) (fun c199 => ?_)
    · have h := g_it c199 h
      refine gg_iconst (pc := 207) cx (v := 0) dX9_isAhead_207 (by decide) ?_
      exact gg_zret (pc := 208) cx hQ rfl h dX9_isAhead_208
    · have h := g_if c199 h
      refine gg_iconst (pc := 203) cx (v := 1) dX9_isAhead_203 (by decide) ?_
      refine gg_goto (pc := 204) cx (tgt := 208) dX9_isAhead_204 (by decide) ?_
      exact gg_zret (pc := 208) cx hQ rfl h dX9_isAhead_208
set_option maxRecDepth 100000 in
set_option maxHeartbeats 4000000 in
theorem wk_X9_isAhead_b130 {t : gT} {X : gX} (cx : g_Cx t X cX9_isAhead 12 RX9 (some .boolean)) (hM : g_hM t) {K : Int32 → gM → Prop} (hQ : gXQ X = MQ (gXb X) (va_Qi K (g_B t) (g_A t)) (gXa X) (gXs X) rm_X9_isAhead.cells rm_X9_isAhead.slots (g_A t)) {o0 : Nat} {x1 : Int32} {x4 : Int32} {x5 : Int32} {y6 : Int64} {ys0 : Int64} {M : gM} (v0 : o0 < 1) (h : wp_X9_isAhead_b130 K o0 x1 x4 x5 y6 ys0 M) : G t rm_X9_isAhead X 12 0 0 M [(0, .ref (gAd t 9 o0)), (1, .int x1), (4, .int x4), (5, .int x5), (6, .long y6)] [.long ys0] 130 := by
  refine gg_lstore (pc := 130) cx [(8, .long ys0), (0, .ref (gAd t 9 o0)), (1, .int x1), (4, .int x4), (5, .int x5), (6, .long y6)] dX9_isAhead_130 (by decide) rfl ?_
  refine gg_lload (pc := 132) cx 5 rfl dX9_isAhead_132 ?_
  refine gg_ldc2 (pc := 134) cx (v := 2) tw_1528 dX9_isAhead_134 ?_
  refine gg_lcmp_ne (pc := 137) cx (tgt := 164) dX9_isAhead_137 dX9_isAhead_138 (by decide) (fun c137 => ?_) (fun c137 => ?_)
  · have h := g_if c137 h
    refine gg_lload (pc := 164) cx 5 rfl dX9_isAhead_164 ?_
    refine gg_ldc2 (pc := 166) cx (v := 3) tw_1529 dX9_isAhead_166 ?_
    refine gg_lcmp_ne (pc := 169) cx (tgt := 184) dX9_isAhead_169 dX9_isAhead_170 (by decide) (fun c169 => ?_) (fun c169 => ?_)
    · have h := g_if c169 h
      refine gg_lconst (pc := 184) cx (v := 0) dX9_isAhead_184 (by decide) ?_
      refine gg_lv (lv' := [(0, .ref (gAd t 9 o0)), (4, .int x4), (5, .int x5), (6, .long y6), (8, .long ys0)]) [1, 3, 4, 5, 0] rfl ?_
      exact wk_X9_isAhead_b185 cx hM hQ v0 h
    · have h := g_it c169 h
      refine gg_aload_n (pc := 173) cx 1 rfl dX9_isAhead_173 rfl ?_
      refine gg_iload_n (pc := 174) cx 2 rfl dX9_isAhead_174 rfl ?_
      refine gg_iload (pc := 175) cx 4 rfl dX9_isAhead_175 ?_
      refine gg_callVi (pc := 177) cx cal_X9_keyOf calv_X9_keyOf (ct_X9_keyOf cx.tr hM v0 h) tw_1530 (hM 9 _ rfl v0) rfl rfl rfl (st := []) rfl (Nat.le_of_ble_eq_true rfl) ⟨Nat.le_of_ble_eq_true rfl, Nat.le_of_ble_eq_true rfl⟩ ⟨Nat.le_of_ble_eq_true rfl, Nat.le_of_ble_eq_true rfl⟩ dX9_isAhead_177 (fun r177 M177 h => ?_)
      refine gg_i2l (pc := 180) cx dX9_isAhead_180 ?_
      refine gg_goto (pc := 181) cx (tgt := 185) dX9_isAhead_181 (by decide) ?_
      refine gg_lv (lv' := [(0, .ref (gAd t 9 o0)), (4, .int x4), (5, .int x5), (6, .long y6), (8, .long ys0)]) [1, 3, 4, 5, 0] rfl ?_
      exact wk_X9_isAhead_b185 cx hM hQ v0 h
  · have h := g_it c137 h
    refine gg_aload_n (pc := 141) cx 1 rfl dX9_isAhead_141 rfl ?_
    refine gf_Model_v (pc := 142) cx (hM 9 _ rfl v0) tw_1306 dX9_isAhead_142 ?_
    refine gg_aload_n (pc := 145) cx 1 rfl dX9_isAhead_145 rfl ?_
    refine gf_Model_v (pc := 146) cx (hM 9 _ rfl v0) tw_1306 dX9_isAhead_146 ?_
    refine gg_iload (pc := 149) cx 4 rfl dX9_isAhead_149 ?_
    refine gg_iconst (pc := 151) cx (v := 3) dX9_isAhead_151 (by decide) ?_
    refine gg_iadd (pc := 152) cx dX9_isAhead_152 ?_
    have q153 := h.1
    have h := h.2
    refine gg_lald (pc := 153) cx (hM 47 _ rfl v0) rfl q153 dX9_isAhead_153 ?_
    refine gg_l2i (pc := 154) cx dX9_isAhead_154 ?_
    refine gg_callSi (pc := 155) cx cal_X9_packet tw_1472 (ct_X9_packet cx.tr hM  h) tw_1471 rfl (st := [.ref (gAd t 47 o0)]) rfl (Nat.le_of_ble_eq_true rfl) ⟨Nat.le_of_ble_eq_true rfl, Nat.le_of_ble_eq_true rfl⟩ ⟨Nat.le_of_ble_eq_true rfl, Nat.le_of_ble_eq_true rfl⟩ dX9_isAhead_155 (fun r155 M155 h => ?_)
    refine gg_iconst (pc := 158) cx (v := 1) dX9_isAhead_158 (by decide) ?_
    refine gg_iadd (pc := 159) cx dX9_isAhead_159 ?_
    have q160 := h.1
    have h := h.2
    refine gg_lald (pc := 160) cx (hM 47 _ rfl v0) rfl q160 dX9_isAhead_160 ?_
    refine gg_goto (pc := 161) cx (tgt := 185) dX9_isAhead_161 (by decide) ?_
    refine gg_lv (lv' := [(0, .ref (gAd t 9 o0)), (4, .int x4), (5, .int x5), (6, .long y6), (8, .long ys0)]) [1, 3, 4, 5, 0] rfl ?_
    exact wk_X9_isAhead_b185 cx hM hQ v0 h
theorem cal_X9_isAhead : g_Cal yX9_isAhead cX9_isAhead 12 (some .boolean) 3 := ⟨tw_17, tw_1527, by decide, by decide, by decide +kernel⟩
theorem calv_X9_isAhead : g_CalV yX9_isAhead := ⟨tw_1526, ts_60⟩
set_option maxRecDepth 100000 in
set_option maxHeartbeats 4000000 in
theorem ct_X9_isAhead {l : Launch} (hl : l.stackTraces = false) {t : gT} (hM : g_hM t) {o0 : Nat} {x1 : Int32} {x2 : Int32} {x3 : Int32} (v0 : o0 < 1) {M : gM} {K : Int32 → gM → Prop} (h : wp_X9_isAhead o0 x1 x2 x3 M K) : Met l yX9_isAhead (g_y yX9_isAhead cX9_isAhead 12 (some .boolean)) rm_X9_isAhead (va_Pc [.ref (gAd t 9 o0), .int x1, .int x2, .int x3] (g_Pre t M)) (va_Qi K (g_B t) (g_A t)) rm_X9_isAhead.cells rm_X9_isAhead.slots (g_A t) := by
  refine g_met hl rfl (Nat.le_of_ble_eq_true rfl) (fun X hlX cx hQ => ?_)
  subst hlX
  refine gg_iload_n (pc := 0) cx 1 rfl dX9_isAhead_0 rfl ?_
  refine gg_iload_n (pc := 1) cx 2 rfl dX9_isAhead_1 rfl ?_
  refine gg_callSi (pc := 2) cx cal_X9_element tw_1494 (ct_X9_element cx.tr hM  h) tw_1493 rfl (st := []) rfl (Nat.le_of_ble_eq_true rfl) ⟨Nat.le_of_ble_eq_true rfl, Nat.le_of_ble_eq_true rfl⟩ ⟨Nat.le_of_ble_eq_true rfl, Nat.le_of_ble_eq_true rfl⟩ dX9_isAhead_2 (fun r2 M2 h => ?_)
  refine gg_istore (pc := 5) cx [(4, .int r2), (0, .ref (gAd t 9 o0)), (1, .int x1), (2, .int x2), (3, .int x3)] dX9_isAhead_5 (by decide) rfl ?_
  refine gg_iload_n (pc := 7) cx 2 rfl dX9_isAhead_7 rfl ?_
  refine gg_iload_n (pc := 8) cx 4 rfl dX9_isAhead_8 rfl ?_
  refine gg_callSi (pc := 9) cx cal_X9_element tw_1494 (ct_X9_element cx.tr hM  h) tw_1493 rfl (st := []) rfl (Nat.le_of_ble_eq_true rfl) ⟨Nat.le_of_ble_eq_true rfl, Nat.le_of_ble_eq_true rfl⟩ ⟨Nat.le_of_ble_eq_true rfl, Nat.le_of_ble_eq_true rfl⟩ dX9_isAhead_9 (fun r9 M9 h => ?_)
  refine gg_istore (pc := 12) cx [(5, .int r9), (4, .int r2), (0, .ref (gAd t 9 o0)), (1, .int x1), (2, .int x2), (3, .int x3)] dX9_isAhead_12 (by decide) rfl ?_
  refine gg_aload_n (pc := 14) cx 2 rfl dX9_isAhead_14 rfl ?_
  refine gf_Model_v (pc := 15) cx (hM 9 _ rfl v0) tw_1306 dX9_isAhead_15 ?_
  refine gg_iload (pc := 18) cx 1 rfl dX9_isAhead_18 ?_
  refine gg_iconst (pc := 20) cx (v := 1) dX9_isAhead_20 (by decide) ?_
  refine gg_iadd (pc := 21) cx dX9_isAhead_21 ?_
  have q22 := h.1
  have h := h.2
  refine gg_lald (pc := 22) cx (hM 47 _ rfl v0) rfl q22 dX9_isAhead_22 ?_
  refine gg_aload_n (pc := 23) cx 2 rfl dX9_isAhead_23 rfl ?_
  refine gf_Model_v (pc := 24) cx (hM 9 _ rfl v0) tw_1306 dX9_isAhead_24 ?_
  refine gg_iload (pc := 27) cx 0 rfl dX9_isAhead_27 ?_
  refine gg_iconst (pc := 29) cx (v := 1) dX9_isAhead_29 (by decide) ?_
  refine gg_iadd (pc := 30) cx dX9_isAhead_30 ?_
  have q31 := h.1
  have h := h.2
  refine gg_lald (pc := 31) cx (hM 47 _ rfl v0) rfl q31 dX9_isAhead_31 ?_
  refine gg_lcmp_eq (pc := 32) cx (tgt := 64) dX9_isAhead_32 dX9_isAhead_33 (by decide) (fun c32 => ?_) (fun c32 => ?_)
  · have h := g_it c32 h
    refine gg_aload_n (pc := 64) cx 2 rfl dX9_isAhead_64 rfl ?_
    refine gf_Model_v (pc := 65) cx (hM 9 _ rfl v0) tw_1306 dX9_isAhead_65 ?_
    refine gg_iload_n (pc := 68) cx 3 rfl dX9_isAhead_68 rfl ?_
    refine gg_callSi (pc := 69) cx cal_X9_node tw_1300 (ct_X9_node cx.tr hM  h) tw_1299 rfl (st := [.ref (gAd t 47 o0)]) rfl (Nat.le_of_ble_eq_true rfl) ⟨Nat.le_of_ble_eq_true rfl, Nat.le_of_ble_eq_true rfl⟩ ⟨Nat.le_of_ble_eq_true rfl, Nat.le_of_ble_eq_true rfl⟩ dX9_isAhead_69 (fun r69 M69 h => ?_)
    refine gg_iconst (pc := 72) cx (v := 1) dX9_isAhead_72 (by decide) ?_
    refine gg_iadd (pc := 73) cx dX9_isAhead_73 ?_
    have q74 := h.1
    have h := h.2
    refine gg_lald (pc := 74) cx (hM 47 _ rfl v0) rfl q74 dX9_isAhead_74 ?_
    refine gg_topl (fun n75 en75 => ?_)
    have h := h n75 en75
    refine gg_lstore (pc := 75) cx [(6, .long n75), (5, .int r9), (4, .int r2), (0, .ref (gAd t 9 o0)), (1, .int x1), (2, .int x2), (3, .int x3)] dX9_isAhead_75 (by decide) rfl ?_
    refine gg_lload (pc := 77) cx 0 rfl dX9_isAhead_77 ?_
    refine gg_ldc2 (pc := 79) cx (v := 2) tw_1528 dX9_isAhead_79 ?_
    refine gg_lcmp_ne (pc := 82) cx (tgt := 109) dX9_isAhead_82 dX9_isAhead_83 (by decide) (fun c82 => ?_) (fun c82 => ?_)
    · have h := g_if c82 h
      refine gg_lload (pc := 109) cx 0 rfl dX9_isAhead_109 ?_
      refine gg_ldc2 (pc := 111) cx (v := 3) tw_1529 dX9_isAhead_111 ?_
      refine gg_lcmp_ne (pc := 114) cx (tgt := 129) dX9_isAhead_114 dX9_isAhead_115 (by decide) (fun c114 => ?_) (fun c114 => ?_)
      · have h := g_if c114 h
        refine gg_lconst (pc := 129) cx (v := 0) dX9_isAhead_129 (by decide) ?_
        refine gg_lv (lv' := [(0, .ref (gAd t 9 o0)), (1, .int x1), (4, .int r2), (5, .int r9), (6, .long n75)]) [3, 4, 2, 1, 0] rfl ?_
        exact wk_X9_isAhead_b130 cx hM hQ v0 h
      · have h := g_it c114 h
        refine gg_aload_n (pc := 118) cx 3 rfl dX9_isAhead_118 rfl ?_
        refine gg_iload_n (pc := 119) cx 4 rfl dX9_isAhead_119 rfl ?_
        refine gg_iload (pc := 120) cx 2 rfl dX9_isAhead_120 ?_
        refine gg_callVi (pc := 122) cx cal_X9_keyOf calv_X9_keyOf (ct_X9_keyOf cx.tr hM v0 h) tw_1530 (hM 9 _ rfl v0) rfl rfl rfl (st := []) rfl (Nat.le_of_ble_eq_true rfl) ⟨Nat.le_of_ble_eq_true rfl, Nat.le_of_ble_eq_true rfl⟩ ⟨Nat.le_of_ble_eq_true rfl, Nat.le_of_ble_eq_true rfl⟩ dX9_isAhead_122 (fun r122 M122 h => ?_)
        refine gg_i2l (pc := 125) cx dX9_isAhead_125 ?_
        refine gg_goto (pc := 126) cx (tgt := 130) dX9_isAhead_126 (by decide) ?_
        refine gg_lv (lv' := [(0, .ref (gAd t 9 o0)), (1, .int x1), (4, .int r2), (5, .int r9), (6, .long n75)]) [3, 4, 2, 1, 0] rfl ?_
        exact wk_X9_isAhead_b130 cx hM hQ v0 h
    · have h := g_it c82 h
      refine gg_aload_n (pc := 86) cx 3 rfl dX9_isAhead_86 rfl ?_
      refine gf_Model_v (pc := 87) cx (hM 9 _ rfl v0) tw_1306 dX9_isAhead_87 ?_
      refine gg_aload_n (pc := 90) cx 3 rfl dX9_isAhead_90 rfl ?_
      refine gf_Model_v (pc := 91) cx (hM 9 _ rfl v0) tw_1306 dX9_isAhead_91 ?_
      refine gg_iload (pc := 94) cx 2 rfl dX9_isAhead_94 ?_
      refine gg_iconst (pc := 96) cx (v := 3) dX9_isAhead_96 (by decide) ?_
      refine gg_iadd (pc := 97) cx dX9_isAhead_97 ?_
      have q98 := h.1
      have h := h.2
      refine gg_lald (pc := 98) cx (hM 47 _ rfl v0) rfl q98 dX9_isAhead_98 ?_
      refine gg_l2i (pc := 99) cx dX9_isAhead_99 ?_
      refine gg_callSi (pc := 100) cx cal_X9_packet tw_1472 (ct_X9_packet cx.tr hM  h) tw_1471 rfl (st := [.ref (gAd t 47 o0)]) rfl (Nat.le_of_ble_eq_true rfl) ⟨Nat.le_of_ble_eq_true rfl, Nat.le_of_ble_eq_true rfl⟩ ⟨Nat.le_of_ble_eq_true rfl, Nat.le_of_ble_eq_true rfl⟩ dX9_isAhead_100 (fun r100 M100 h => ?_)
      refine gg_iconst (pc := 103) cx (v := 1) dX9_isAhead_103 (by decide) ?_
      refine gg_iadd (pc := 104) cx dX9_isAhead_104 ?_
      have q105 := h.1
      have h := h.2
      refine gg_lald (pc := 105) cx (hM 47 _ rfl v0) rfl q105 dX9_isAhead_105 ?_
      refine gg_goto (pc := 106) cx (tgt := 130) dX9_isAhead_106 (by decide) ?_
      refine gg_lv (lv' := [(0, .ref (gAd t 9 o0)), (1, .int x1), (4, .int r2), (5, .int r9), (6, .long n75)]) [3, 4, 2, 1, 0] rfl ?_
      exact wk_X9_isAhead_b130 cx hM hQ v0 h
  · have h := g_if c32 h
    refine gg_aload_n (pc := 36) cx 2 rfl dX9_isAhead_36 rfl ?_
    refine gf_Model_v (pc := 37) cx (hM 9 _ rfl v0) tw_1306 dX9_isAhead_37 ?_
    refine gg_iload (pc := 40) cx 1 rfl dX9_isAhead_40 ?_
    refine gg_iconst (pc := 42) cx (v := 1) dX9_isAhead_42 (by decide) ?_
    refine gg_iadd (pc := 43) cx dX9_isAhead_43 ?_
    have q44 := h.1
    have h := h.2
    refine gg_lald (pc := 44) cx (hM 47 _ rfl v0) rfl q44 dX9_isAhead_44 ?_
    refine gg_aload_n (pc := 45) cx 2 rfl dX9_isAhead_45 rfl ?_
    refine gf_Model_v (pc := 46) cx (hM 9 _ rfl v0) tw_1306 dX9_isAhead_46 ?_
    refine gg_iload (pc := 49) cx 0 rfl dX9_isAhead_49 ?_
    refine gg_iconst (pc := 51) cx (v := 1) dX9_isAhead_51 (by decide) ?_
    refine gg_iadd (pc := 52) cx dX9_isAhead_52 ?_
    have q53 := h.1
    have h := h.2
    refine gg_lald (pc := 53) cx (hM 47 _ rfl v0) rfl q53 dX9_isAhead_53 ?_
    refine gg_lcmp_ge (pc := 54) cx (tgt := 62) dX9_isAhead_54 dX9_isAhead_55 (by decide) (fun c54 => ?_) (fun c54 => ?_)
    · have h := g_it c54 h
      refine gg_iconst (pc := 62) cx (v := 0) dX9_isAhead_62 (by decide) ?_
      exact gg_zret (pc := 63) cx hQ rfl h dX9_isAhead_63
    · have h := g_if c54 h
      refine gg_iconst (pc := 58) cx (v := 1) dX9_isAhead_58 (by decide) ?_
      refine gg_goto (pc := 59) cx (tgt := 63) dX9_isAhead_59 (by decide) ?_
      exact gg_zret (pc := 63) cx hQ rfl h dX9_isAhead_63
set_option maxRecDepth 100000 in
set_option maxHeartbeats 4000000 in
theorem wk_X9_placeOf_b61 {t : gT} {X : gX} (cx : g_Cx t X cX9_placeOf 7 RX9 (some .int)) (hM : g_hM t) {K : Int32 → gM → Prop} (hQ : gXQ X = MQ (gXb X) (va_Qi K (g_B t) (g_A t)) (gXa X) (gXs X) rm_X9_placeOf.cells rm_X9_placeOf.slots (g_A t)) {R29 : Nat → Int32 → Int32 → Int32 → Int32 → Int32 → Int32 → gM → Prop} (hR29 : ∀ (o0 : Nat) (x1 : Int32) (x2 : Int32) (x3 : Int32) (x4 : Int32) (x5 : Int32) (x6 : Int32) (M : gM), o0 < 1 → R29 o0 x1 x2 x3 x4 x5 x6 M → G t rm_X9_placeOf X 7 0 0 M [(0, .ref (gAd t 9 o0)), (1, .int x1), (2, .int x2), (3, .int x3), (4, .int x4), (5, .int x5), (6, .int x6)] [] 29) {o0 : Nat} {x1 : Int32} {x2 : Int32} {x3 : Int32} {x4 : Int32} {x6 : Int32} {xs0 : Int32} {xs1 : Int32} {M : gM} (v0 : o0 < 1) (h : wp_X9_placeOf_b61 R29 K o0 x1 x2 x3 x4 x6 xs0 xs1 M) : G t rm_X9_placeOf X 7 0 0 M [(0, .ref (gAd t 9 o0)), (1, .int x1), (2, .int x2), (3, .int x3), (4, .int x4), (6, .int x6)] [.int xs1, .int xs0] 61 := by
  refine gg_iadd (pc := 61) cx dX9_placeOf_61 ?_
  refine gg_topi (fun n62 en62 => ?_)
  have h := h n62 en62
  refine gg_istore (pc := 62) cx [(5, .int n62), (0, .ref (gAd t 9 o0)), (1, .int x1), (2, .int x2), (3, .int x3), (4, .int x4), (6, .int x6)] dX9_placeOf_62 (by decide) rfl ?_
  obtain ⟨n64, en64⟩ : ∃ z : Int32, z = x6 + Int32.ofInt (1) := ⟨_, rfl⟩
  have h := h n64 en64
  refine gg_iinc (pc := 64) cx 6 [(6, .int n64), (5, .int n62), (0, .ref (gAd t 9 o0)), (1, .int x1), (2, .int x2), (3, .int x3), (4, .int x4)] dX9_placeOf_64 rfl en64.symm (by decide) rfl ?_
  refine gg_goto (pc := 67) cx (tgt := 29) dX9_placeOf_67 (by decide) ?_
  refine gg_lv (lv' := [(0, .ref (gAd t 9 o0)), (1, .int x1), (2, .int x2), (3, .int x3), (4, .int x4), (5, .int n62), (6, .int n64)]) [2, 3, 4, 5, 6, 1, 0] rfl ?_
  exact hR29 o0 x1 x2 x3 x4 n62 n64 M v0 h
set_option maxRecDepth 100000 in
set_option maxHeartbeats 4000000 in
theorem wk_X9_placeOf_b60 {t : gT} {X : gX} (cx : g_Cx t X cX9_placeOf 7 RX9 (some .int)) (hM : g_hM t) {K : Int32 → gM → Prop} (hQ : gXQ X = MQ (gXb X) (va_Qi K (g_B t) (g_A t)) (gXa X) (gXs X) rm_X9_placeOf.cells rm_X9_placeOf.slots (g_A t)) {R29 : Nat → Int32 → Int32 → Int32 → Int32 → Int32 → Int32 → gM → Prop} (hR29 : ∀ (o0 : Nat) (x1 : Int32) (x2 : Int32) (x3 : Int32) (x4 : Int32) (x5 : Int32) (x6 : Int32) (M : gM), o0 < 1 → R29 o0 x1 x2 x3 x4 x5 x6 M → G t rm_X9_placeOf X 7 0 0 M [(0, .ref (gAd t 9 o0)), (1, .int x1), (2, .int x2), (3, .int x3), (4, .int x4), (5, .int x5), (6, .int x6)] [] 29) {o0 : Nat} {x1 : Int32} {x2 : Int32} {x3 : Int32} {x4 : Int32} {x6 : Int32} {xs0 : Int32} {M : gM} (v0 : o0 < 1) (h : wp_X9_placeOf_b60 R29 K o0 x1 x2 x3 x4 x6 xs0 M) : G t rm_X9_placeOf X 7 0 0 M [(0, .ref (gAd t 9 o0)), (1, .int x1), (2, .int x2), (3, .int x3), (4, .int x4), (6, .int x6)] [.int xs0] 60 := by
  refine gg_iconst (pc := 60) cx (v := 0) dX9_placeOf_60 (by decide) ?_
  exact wk_X9_placeOf_b61 cx hM hQ hR29 v0 h
set_option maxRecDepth 100000 in
set_option maxHeartbeats 4000000 in
theorem wk_X9_placeOf_L29 {t : gT} {X : gX} (cx : g_Cx t X cX9_placeOf 7 RX9 (some .int)) (hM : g_hM t) {K : Int32 → gM → Prop} (hQ : gXQ X = MQ (gXb X) (va_Qi K (g_B t) (g_A t)) (gXa X) (gXs X) rm_X9_placeOf.cells rm_X9_placeOf.slots (g_A t)) {R17 : Nat → Int32 → Int32 → Int32 → Int32 → gM → Prop} (hR17 : ∀ (o0 : Nat) (x1 : Int32) (x2 : Int32) (x3 : Int32) (x4 : Int32) (M : gM), o0 < 1 → R17 o0 x1 x2 x3 x4 M → G t rm_X9_placeOf X 7 0 0 M [(0, .ref (gAd t 9 o0)), (1, .int x1), (2, .int x2), (3, .int x3), (4, .int x4)] [] 17) (f : Nat) : ∀ (o0 : Nat) (x1 : Int32) (x2 : Int32) (x3 : Int32) (x4 : Int32) (x5 : Int32) (x6 : Int32) (M : gM), o0 < 1 → wp_X9_placeOf_L29 R17 K f o0 x1 x2 x3 x4 x5 x6 M → G t rm_X9_placeOf X 7 0 0 M [(0, .ref (gAd t 9 o0)), (1, .int x1), (2, .int x2), (3, .int x3), (4, .int x4), (5, .int x5), (6, .int x6)] [] 29 := by
  induction f with
  | zero => intro _ _ _ _ _ _ _ _ _ _; exact False.elim (by assumption)
  | succ f ih =>
    intro o0 x1 x2 x3 x4 x5 x6 M v0 h
    refine gg_iload (pc := 29) cx 6 rfl dX9_placeOf_29 ?_
    refine gg_iload_n (pc := 31) cx 3 rfl dX9_placeOf_31 rfl ?_
    refine gg_icmp_ge (pc := 32) cx (tgt := 70) dX9_placeOf_32 (by decide) (fun c32 => ?_) (fun c32 => ?_)
    · have h := g_it c32 h
      refine gg_iload (pc := 70) cx 5 rfl dX9_placeOf_70 ?_
      refine gg_iload_n (pc := 72) cx 2 rfl dX9_placeOf_72 rfl ?_
      refine gg_icmp_ne (pc := 73) cx (tgt := 79) dX9_placeOf_73 (by decide) (fun c73 => ?_) (fun c73 => ?_)
      · have h := g_if c73 h
        obtain ⟨n79, en79⟩ : ∃ z : Int32, z = x4 + Int32.ofInt (1) := ⟨_, rfl⟩
        have h := h n79 en79
        refine gg_iinc (pc := 79) cx 4 [(4, .int n79), (0, .ref (gAd t 9 o0)), (1, .int x1), (2, .int x2), (3, .int x3), (5, .int x5), (6, .int x6)] dX9_placeOf_79 rfl en79.symm (by decide) rfl ?_
        refine gg_goto (pc := 82) cx (tgt := 17) dX9_placeOf_82 (by decide) ?_
        refine gg_lv (lv' := [(0, .ref (gAd t 9 o0)), (1, .int x1), (2, .int x2), (3, .int x3), (4, .int n79)]) [1, 2, 3, 4, 0] rfl ?_
        exact hR17 o0 x1 x2 x3 n79 M v0 h
      · have h := g_it c73 h
        refine gg_iload (pc := 76) cx 4 rfl dX9_placeOf_76 ?_
        exact gg_iret (pc := 78) cx hQ h dX9_placeOf_78
    · have h := g_if c32 h
      refine gg_iload (pc := 35) cx 5 rfl dX9_placeOf_35 ?_
      refine gg_iload (pc := 37) cx 4 rfl dX9_placeOf_37 ?_
      refine gg_iload (pc := 39) cx 6 rfl dX9_placeOf_39 ?_
      refine gg_icmp_eq (pc := 41) cx (tgt := 60) dX9_placeOf_41 (by decide) (fun c41 => ?_) (fun c41 => ?_)
      · have h := g_it c41 h
        refine gg_lv (lv' := [(0, .ref (gAd t 9 o0)), (1, .int x1), (2, .int x2), (3, .int x3), (4, .int x4), (6, .int x6)]) [0, 1, 2, 3, 4, 6] rfl ?_
        exact wk_X9_placeOf_b60 cx hM hQ ih v0 h
      · have h := g_if c41 h
        refine gg_aload_n (pc := 44) cx 0 rfl dX9_placeOf_44 rfl ?_
        refine gg_iload_n (pc := 45) cx 1 rfl dX9_placeOf_45 rfl ?_
        refine gg_iload (pc := 46) cx 6 rfl dX9_placeOf_46 ?_
        refine gg_iload (pc := 48) cx 4 rfl dX9_placeOf_48 ?_
        refine gg_callVi (pc := 50) cx cal_X9_isAhead calv_X9_isAhead (ct_X9_isAhead cx.tr hM v0 h) tw_1524 (hM 9 _ rfl v0) rfl rfl rfl (st := [.int x5]) rfl (Nat.le_of_ble_eq_true rfl) ⟨Nat.le_of_ble_eq_true rfl, Nat.le_of_ble_eq_true rfl⟩ ⟨Nat.le_of_ble_eq_true rfl, Nat.le_of_ble_eq_true rfl⟩ dX9_placeOf_50 (fun r50 M50 h => ?_)
        refine gg_if_eq (pc := 53) cx (tgt := 60) dX9_placeOf_53 (by decide) (fun c53 => ?_) (fun c53 => ?_)
        · have h := g_it c53 h
          refine gg_lv (lv' := [(0, .ref (gAd t 9 o0)), (1, .int x1), (2, .int x2), (3, .int x3), (4, .int x4), (6, .int x6)]) [0, 1, 2, 3, 4, 6] rfl ?_
          exact wk_X9_placeOf_b60 cx hM hQ ih v0 h
        · have h := g_if c53 h
          refine gg_iconst (pc := 56) cx (v := 1) dX9_placeOf_56 (by decide) ?_
          refine gg_goto (pc := 57) cx (tgt := 61) dX9_placeOf_57 (by decide) ?_
          refine gg_lv (lv' := [(0, .ref (gAd t 9 o0)), (1, .int x1), (2, .int x2), (3, .int x3), (4, .int x4), (6, .int x6)]) [0, 1, 2, 3, 4, 6] rfl ?_
          exact wk_X9_placeOf_b61 cx hM hQ ih v0 h
set_option maxRecDepth 100000 in
set_option maxHeartbeats 4000000 in
theorem wk_X9_placeOf_L17 {t : gT} {X : gX} (cx : g_Cx t X cX9_placeOf 7 RX9 (some .int)) (hM : g_hM t) {K : Int32 → gM → Prop} (hQ : gXQ X = MQ (gXb X) (va_Qi K (g_B t) (g_A t)) (gXa X) (gXs X) rm_X9_placeOf.cells rm_X9_placeOf.slots (g_A t)) (f : Nat) : ∀ (o0 : Nat) (x1 : Int32) (x2 : Int32) (x3 : Int32) (x4 : Int32) (M : gM), o0 < 1 → wp_X9_placeOf_L17 K f o0 x1 x2 x3 x4 M → G t rm_X9_placeOf X 7 0 0 M [(0, .ref (gAd t 9 o0)), (1, .int x1), (2, .int x2), (3, .int x3), (4, .int x4)] [] 17 := by
  induction f with
  | zero => intro _ _ _ _ _ _ _ _; exact False.elim (by assumption)
  | succ f ih =>
    intro o0 x1 x2 x3 x4 M v0 h
    refine gg_iload (pc := 17) cx 4 rfl dX9_placeOf_17 ?_
    refine gg_iload_n (pc := 19) cx 3 rfl dX9_placeOf_19 rfl ?_
    refine gg_icmp_ge (pc := 20) cx (tgt := 85) dX9_placeOf_20 (by decide) (fun c20 => ?_) (fun c20 => ?_)
    · have h := g_it c20 h
      refine gg_iconst (pc := 85) cx (v := (-1)) dX9_placeOf_85 (by decide) ?_
      exact gg_iret (pc := 86) cx hQ h dX9_placeOf_86
    · have h := g_if c20 h
      refine gg_iconst (pc := 23) cx (v := 0) dX9_placeOf_23 (by decide) ?_
      refine gg_istore (pc := 24) cx [(5, .int 0), (0, .ref (gAd t 9 o0)), (1, .int x1), (2, .int x2), (3, .int x3), (4, .int x4)] dX9_placeOf_24 (by decide) rfl ?_
      refine gg_iconst (pc := 26) cx (v := 0) dX9_placeOf_26 (by decide) ?_
      refine gg_istore (pc := 27) cx [(6, .int 0), (5, .int 0), (0, .ref (gAd t 9 o0)), (1, .int x1), (2, .int x2), (3, .int x3), (4, .int x4)] dX9_placeOf_27 (by decide) rfl ?_
      refine gg_lv (lv' := [(0, .ref (gAd t 9 o0)), (1, .int x1), (2, .int x2), (3, .int x3), (4, .int x4), (5, .int 0), (6, .int 0)]) [2, 3, 4, 5, 6, 1, 0] rfl ?_
      obtain ⟨f29, h⟩ := h
      exact wk_X9_placeOf_L29 cx hM hQ ih f29 o0 x1 x2 x3 x4 0 0 M v0 h
theorem cal_X9_placeOf : g_Cal yX9_placeOf cX9_placeOf 7 (some .int) 2 := ⟨tw_17, tw_1523, by decide, by decide, by decide +kernel⟩
theorem calv_X9_placeOf : g_CalV yX9_placeOf := ⟨tw_1522, ts_59⟩
set_option maxRecDepth 100000 in
set_option maxHeartbeats 4000000 in
theorem ct_X9_placeOf {l : Launch} (hl : l.stackTraces = false) {t : gT} (hM : g_hM t) {o0 : Nat} {x1 : Int32} {x2 : Int32} (v0 : o0 < 1) {M : gM} {K : Int32 → gM → Prop} (h : wp_X9_placeOf o0 x1 x2 M K) : Met l yX9_placeOf (g_y yX9_placeOf cX9_placeOf 7 (some .int)) rm_X9_placeOf (va_Pc [.ref (gAd t 9 o0), .int x1, .int x2] (g_Pre t M)) (va_Qi K (g_B t) (g_A t)) rm_X9_placeOf.cells rm_X9_placeOf.slots (g_A t) := by
  refine g_met hl rfl (Nat.le_of_ble_eq_true rfl) (fun X hlX cx hQ => ?_)
  subst hlX
  refine gg_aload_n (pc := 0) cx 0 rfl dX9_placeOf_0 rfl ?_
  refine gf_Model_v (pc := 1) cx (hM 9 _ rfl v0) tw_1306 dX9_placeOf_1 ?_
  refine gg_iload_n (pc := 4) cx 1 rfl dX9_placeOf_4 rfl ?_
  refine gg_callSi (pc := 5) cx cal_X9_node tw_1300 (ct_X9_node cx.tr hM  h) tw_1299 rfl (st := [.ref (gAd t 47 o0)]) rfl (Nat.le_of_ble_eq_true rfl) ⟨Nat.le_of_ble_eq_true rfl, Nat.le_of_ble_eq_true rfl⟩ ⟨Nat.le_of_ble_eq_true rfl, Nat.le_of_ble_eq_true rfl⟩ dX9_placeOf_5 (fun r5 M5 h => ?_)
  refine gg_bipush (pc := 8) cx (v := 11) dX9_placeOf_8 (by decide) ?_
  refine gg_iadd (pc := 10) cx dX9_placeOf_10 ?_
  have q11 := h.1
  have h := h.2
  refine gg_lald (pc := 11) cx (hM 47 _ rfl v0) rfl q11 dX9_placeOf_11 ?_
  refine gg_l2i (pc := 12) cx dX9_placeOf_12 ?_
  refine gg_topi (fun n13 en13 => ?_)
  have h := h n13 en13
  refine gg_istore_n (pc := 13) cx [(3, .int n13), (0, .ref (gAd t 9 o0)), (1, .int x1), (2, .int x2)] dX9_placeOf_13 rfl (by decide) rfl ?_
  refine gg_iconst (pc := 14) cx (v := 0) dX9_placeOf_14 (by decide) ?_
  refine gg_istore (pc := 15) cx [(4, .int 0), (3, .int n13), (0, .ref (gAd t 9 o0)), (1, .int x1), (2, .int x2)] dX9_placeOf_15 (by decide) rfl ?_
  refine gg_lv (lv' := [(0, .ref (gAd t 9 o0)), (1, .int x1), (2, .int x2), (3, .int n13), (4, .int 0)]) [2, 3, 4, 1, 0] rfl ?_
  obtain ⟨f17, h⟩ := h
  exact wk_X9_placeOf_L17 cx hM hQ f17 o0 x1 x2 n13 0 M5 v0 h
set_option maxRecDepth 100000 in
set_option maxHeartbeats 4000000 in
theorem wk_X9_takes_L68 {t : gT} {X : gX} (cx : g_Cx t X cX9_takes 5 RX9 (some .int)) (hM : g_hM t) {K : Int32 → gM → Prop} (hQ : gXQ X = MQ (gXb X) (va_Qi K (g_B t) (g_A t)) (gXa X) (gXs X) rm_X9_takes.cells rm_X9_takes.slots (g_A t)) (f : Nat) : ∀ (o0 : Nat) (x1 : Int32) (x3 : Int32) (x4 : Int32) (M : gM), o0 < 1 → wp_X9_takes_L68 K f o0 x1 x3 x4 M → G t rm_X9_takes X 5 0 0 M [(0, .ref (gAd t 9 o0)), (1, .int x1), (3, .int x3), (4, .int x4)] [] 68 := by
  induction f with
  | zero => intro _ _ _ _ _ _ _; exact False.elim (by assumption)
  | succ f ih =>
    intro o0 x1 x3 x4 M v0 h
    refine gg_iload (pc := 68) cx 3 rfl dX9_takes_68 ?_
    refine gg_iload_n (pc := 70) cx 1 rfl dX9_takes_70 rfl ?_
    refine gg_aload_n (pc := 71) cx 0 rfl dX9_takes_71 rfl ?_
    refine gf_Model_v (pc := 72) cx (hM 9 _ rfl v0) tw_1306 dX9_takes_72 ?_
    refine gg_iload_n (pc := 75) cx 1 rfl dX9_takes_75 rfl ?_
    refine gg_callSi (pc := 76) cx cal_X9_node tw_1300 (ct_X9_node cx.tr hM  h) tw_1299 rfl (st := [.ref (gAd t 47 o0), .int x1, .int x4]) rfl (Nat.le_of_ble_eq_true rfl) ⟨Nat.le_of_ble_eq_true rfl, Nat.le_of_ble_eq_true rfl⟩ ⟨Nat.le_of_ble_eq_true rfl, Nat.le_of_ble_eq_true rfl⟩ dX9_takes_76 (fun r76 M76 h => ?_)
    refine gg_bipush (pc := 79) cx (v := 11) dX9_takes_79 (by decide) ?_
    refine gg_iadd (pc := 81) cx dX9_takes_81 ?_
    have q82 := h.1
    have h := h.2
    refine gg_lald (pc := 82) cx (hM 47 _ rfl v0) rfl q82 dX9_takes_82 ?_
    refine gg_l2i (pc := 83) cx dX9_takes_83 ?_
    refine gg_callSi (pc := 84) cx cal_X9_element tw_1494 (ct_X9_element cx.tr hM  h) tw_1493 rfl (st := [.int x4]) rfl (Nat.le_of_ble_eq_true rfl) ⟨Nat.le_of_ble_eq_true rfl, Nat.le_of_ble_eq_true rfl⟩ ⟨Nat.le_of_ble_eq_true rfl, Nat.le_of_ble_eq_true rfl⟩ dX9_takes_84 (fun r84 M84 h => ?_)
    refine gg_icmp_ge (pc := 87) cx (tgt := 112) dX9_takes_87 (by decide) (fun c87 => ?_) (fun c87 => ?_)
    · have h := g_it c87 h
      refine gg_iload_n (pc := 112) cx 2 rfl dX9_takes_112 rfl ?_
      exact gg_iret (pc := 113) cx hQ h dX9_takes_113
    · have h := g_if c87 h
      refine gg_aload_n (pc := 90) cx 0 rfl dX9_takes_90 rfl ?_
      refine gf_Model_v (pc := 91) cx (hM 9 _ rfl v0) tw_1306 dX9_takes_91 ?_
      refine gg_iload (pc := 94) cx 3 rfl dX9_takes_94 ?_
      refine gg_aload_n (pc := 96) cx 0 rfl dX9_takes_96 rfl ?_
      refine gf_Model_v (pc := 97) cx (hM 9 _ rfl v0) tw_1306 dX9_takes_97 ?_
      refine gg_iload (pc := 100) cx 3 rfl dX9_takes_100 ?_
      refine gg_iconst (pc := 102) cx (v := 4) dX9_takes_102 (by decide) ?_
      refine gg_iadd (pc := 103) cx dX9_takes_103 ?_
      have q104 := h.1
      have h := h.2
      refine gg_lald (pc := 104) cx (hM 47 _ rfl v0) rfl q104 dX9_takes_104 ?_
      have q105 := h.1
      have h := h.2
      refine gg_last (pc := 105) cx (hM 47 _ rfl v0) (fun _ _ => rfl) q105 dX9_takes_105 ?_
      refine gg_mem (fun M105 eM105 => ?_)
      have h := h M105 eM105
      obtain ⟨n106, en106⟩ : ∃ z : Int32, z = x4 + Int32.ofInt (1) := ⟨_, rfl⟩
      have h := h n106 en106
      refine gg_iinc (pc := 106) cx 3 [(4, .int n106), (0, .ref (gAd t 9 o0)), (1, .int x1), (3, .int x3)] dX9_takes_106 rfl en106.symm (by decide) rfl ?_
      refine gg_goto (pc := 109) cx (tgt := 68) dX9_takes_109 (by decide) ?_
      refine gg_lv (lv' := [(0, .ref (gAd t 9 o0)), (1, .int x1), (3, .int x3), (4, .int n106)]) [1, 2, 3, 0] rfl ?_
      exact ih o0 x1 x3 n106 M105 v0 h
theorem cal_X9_takes : g_Cal yX9_takes cX9_takes 5 (some .int) 1 := ⟨tw_17, tw_1519, by decide, by decide, by decide +kernel⟩
theorem calv_X9_takes : g_CalV yX9_takes := ⟨tw_1518, ts_58⟩
set_option maxRecDepth 100000 in
set_option maxHeartbeats 4000000 in
theorem ct_X9_takes {l : Launch} (hl : l.stackTraces = false) {t : gT} (hM : g_hM t) {o0 : Nat} {x1 : Int32} (v0 : o0 < 1) {M : gM} {K : Int32 → gM → Prop} (h : wp_X9_takes o0 x1 M K) : Met l yX9_takes (g_y yX9_takes cX9_takes 5 (some .int)) rm_X9_takes (va_Pc [.ref (gAd t 9 o0), .int x1] (g_Pre t M)) (va_Qi K (g_B t) (g_A t)) rm_X9_takes.cells rm_X9_takes.slots (g_A t) := by
  refine g_met hl rfl (Nat.le_of_ble_eq_true rfl) (fun X hlX cx hQ => ?_)
  subst hlX
  refine gg_aload_n (pc := 0) cx 0 rfl dX9_takes_0 rfl ?_
  refine gg_iload_n (pc := 1) cx 1 rfl dX9_takes_1 rfl ?_
  refine gg_iconst (pc := 2) cx (v := 0) dX9_takes_2 (by decide) ?_
  refine gg_callVi (pc := 3) cx cal_X9_placeOf calv_X9_placeOf (ct_X9_placeOf cx.tr hM v0 h) tw_1520 (hM 9 _ rfl v0) rfl rfl rfl (st := []) rfl (Nat.le_of_ble_eq_true rfl) ⟨Nat.le_of_ble_eq_true rfl, Nat.le_of_ble_eq_true rfl⟩ ⟨Nat.le_of_ble_eq_true rfl, Nat.le_of_ble_eq_true rfl⟩ dX9_takes_3 (fun r3 M3 h => ?_)
  refine gg_istore_n (pc := 6) cx [(2, .int r3), (0, .ref (gAd t 9 o0)), (1, .int x1)] dX9_takes_6 rfl (by decide) rfl ?_
  refine gg_aload_n (pc := 7) cx 1 rfl dX9_takes_7 rfl ?_
  refine gf_Model_v (pc := 8) cx (hM 9 _ rfl v0) tw_1306 dX9_takes_8 ?_
  refine gg_iload_n (pc := 11) cx 2 rfl dX9_takes_11 rfl ?_
  refine gg_iload_n (pc := 12) cx 0 rfl dX9_takes_12 rfl ?_
  refine gg_callSi (pc := 13) cx cal_X9_element tw_1494 (ct_X9_element cx.tr hM  h) tw_1493 rfl (st := [.ref (gAd t 47 o0)]) rfl (Nat.le_of_ble_eq_true rfl) ⟨Nat.le_of_ble_eq_true rfl, Nat.le_of_ble_eq_true rfl⟩ ⟨Nat.le_of_ble_eq_true rfl, Nat.le_of_ble_eq_true rfl⟩ dX9_takes_13 (fun r13 M13 h => ?_)
  refine gg_iconst (pc := 16) cx (v := 0) dX9_takes_16 (by decide) ?_
  refine gg_iadd (pc := 17) cx dX9_takes_17 ?_
  have q18 := h.1
  have h := h.2
  refine gg_lald (pc := 18) cx (hM 47 _ rfl v0) rfl q18 dX9_takes_18 ?_
  refine gg_l2i (pc := 19) cx dX9_takes_19 ?_
  refine gg_topi (fun n20 en20 => ?_)
  have h := h n20 en20
  refine gg_istore_n (pc := 20) cx [(3, .int n20), (2, .int r3), (0, .ref (gAd t 9 o0)), (1, .int x1)] dX9_takes_20 rfl (by decide) rfl ?_
  refine gg_aload_n (pc := 21) cx 2 rfl dX9_takes_21 rfl ?_
  refine gf_Model_v (pc := 22) cx (hM 9 _ rfl v0) tw_1306 dX9_takes_22 ?_
  refine gg_iload_n (pc := 25) cx 3 rfl dX9_takes_25 rfl ?_
  refine gg_callSi (pc := 26) cx cal_X9_node tw_1300 (ct_X9_node cx.tr hM  h) tw_1299 rfl (st := [.ref (gAd t 47 o0)]) rfl (Nat.le_of_ble_eq_true rfl) ⟨Nat.le_of_ble_eq_true rfl, Nat.le_of_ble_eq_true rfl⟩ ⟨Nat.le_of_ble_eq_true rfl, Nat.le_of_ble_eq_true rfl⟩ dX9_takes_26 (fun r26 M26 h => ?_)
  refine gg_bipush (pc := 29) cx (v := 6) dX9_takes_29 (by decide) ?_
  refine gg_iadd (pc := 31) cx dX9_takes_31 ?_
  refine gg_aload_n (pc := 32) cx 2 rfl dX9_takes_32 rfl ?_
  refine gf_Model_v (pc := 33) cx (hM 9 _ rfl v0) tw_1306 dX9_takes_33 ?_
  refine gg_iload_n (pc := 36) cx 3 rfl dX9_takes_36 rfl ?_
  refine gg_iload_n (pc := 37) cx 1 rfl dX9_takes_37 rfl ?_
  refine gg_callSi (pc := 38) cx cal_X9_element tw_1494 (ct_X9_element cx.tr hM  h) tw_1493 rfl (st := [.ref (gAd t 47 o0), .int (r26 + 6), .ref (gAd t 47 o0)]) rfl (Nat.le_of_ble_eq_true rfl) ⟨Nat.le_of_ble_eq_true rfl, Nat.le_of_ble_eq_true rfl⟩ ⟨Nat.le_of_ble_eq_true rfl, Nat.le_of_ble_eq_true rfl⟩ dX9_takes_38 (fun r38 M38 h => ?_)
  refine gg_iconst (pc := 41) cx (v := 1) dX9_takes_41 (by decide) ?_
  refine gg_iadd (pc := 42) cx dX9_takes_42 ?_
  have q43 := h.1
  have h := h.2
  refine gg_lald (pc := 43) cx (hM 47 _ rfl v0) rfl q43 dX9_takes_43 ?_
  have q44 := h.1
  have h := h.2
  refine gg_last (pc := 44) cx (hM 47 _ rfl v0) (fun _ _ => rfl) q44 dX9_takes_44 ?_
  refine gg_mem (fun M44 eM44 => ?_)
  have h := h M44 eM44
  refine gg_aload_n (pc := 45) cx 2 rfl dX9_takes_45 rfl ?_
  refine gf_Model_v (pc := 46) cx (hM 9 _ rfl v0) tw_1306 dX9_takes_46 ?_
  refine gg_iload_n (pc := 49) cx 3 rfl dX9_takes_49 rfl ?_
  refine gg_callSi (pc := 50) cx cal_X9_node tw_1300 (ct_X9_node cx.tr hM  h) tw_1299 rfl (st := [.ref (gAd t 47 o0)]) rfl (Nat.le_of_ble_eq_true rfl) ⟨Nat.le_of_ble_eq_true rfl, Nat.le_of_ble_eq_true rfl⟩ ⟨Nat.le_of_ble_eq_true rfl, Nat.le_of_ble_eq_true rfl⟩ dX9_takes_50 (fun r50 M50 h => ?_)
  refine gg_bipush (pc := 53) cx (v := 11) dX9_takes_53 (by decide) ?_
  refine gg_iadd (pc := 55) cx dX9_takes_55 ?_
  refine gg_dup2 (pc := 56) cx dX9_takes_56 rfl rfl ?_
  have q57 := h.1
  have h := h.2
  refine gg_lald (pc := 57) cx (hM 47 _ rfl v0) rfl q57 dX9_takes_57 ?_
  refine gg_lconst (pc := 58) cx (v := 1) dX9_takes_58 (by decide) ?_
  refine gg_lsub (pc := 59) cx dX9_takes_59 ?_
  have q60 := h.1
  have h := h.2
  refine gg_last (pc := 60) cx (hM 47 _ rfl v0) (fun _ _ => rfl) q60 dX9_takes_60 ?_
  refine gg_mem (fun M60 eM60 => ?_)
  have h := h M60 eM60
  refine gg_iload_n (pc := 61) cx 3 rfl dX9_takes_61 rfl ?_
  refine gg_iload_n (pc := 62) cx 1 rfl dX9_takes_62 rfl ?_
  refine gg_callSi (pc := 63) cx cal_X9_element tw_1494 (ct_X9_element cx.tr hM  h) tw_1493 rfl (st := []) rfl (Nat.le_of_ble_eq_true rfl) ⟨Nat.le_of_ble_eq_true rfl, Nat.le_of_ble_eq_true rfl⟩ ⟨Nat.le_of_ble_eq_true rfl, Nat.le_of_ble_eq_true rfl⟩ dX9_takes_63 (fun r63 M63 h => ?_)
  refine gg_istore (pc := 66) cx [(4, .int r63), (3, .int n20), (2, .int r3), (0, .ref (gAd t 9 o0)), (1, .int x1)] dX9_takes_66 (by decide) rfl ?_
  refine gg_lv (lv' := [(0, .ref (gAd t 9 o0)), (1, .int x1), (3, .int n20), (4, .int r63)]) [3, 4, 1, 0] rfl ?_
  obtain ⟨f68, h⟩ := h
  exact wk_X9_takes_L68 cx hM hQ f68 o0 x1 n20 r63 M63 v0 h
set_option maxRecDepth 100000 in
set_option maxHeartbeats 4000000 in
theorem wk_X9_goes_b57 {t : gT} {X : gX} (cx : g_Cx t X cX9_goes 4 RX9 (some .int)) (hM : g_hM t) {K : Int32 → gM → Prop} (hQ : gXQ X = MQ (gXb X) (va_Qi K (g_B t) (g_A t)) (gXa X) (gXs X) rm_X9_goes.cells rm_X9_goes.slots (g_A t)) {o0 : Nat} {x2 : Int32} {M : gM} (v0 : o0 < 1) (h : wp_X9_goes_b57 K o0 x2 M) : G t rm_X9_goes X 4 0 0 M [(0, .ref (gAd t 9 o0)), (2, .int x2)] [] 57 := by
  refine gg_aload_n (pc := 57) cx 0 rfl dX9_goes_57 rfl ?_
  refine gf_Model_v (pc := 58) cx (hM 9 _ rfl v0) tw_1306 dX9_goes_58 ?_
  refine gg_bipush (pc := 61) cx (v := 7) dX9_goes_61 (by decide) ?_
  refine gg_dup2 (pc := 63) cx dX9_goes_63 rfl rfl ?_
  have q64 := h.1
  have h := h.2
  refine gg_lald (pc := 64) cx (hM 47 _ rfl v0) rfl q64 dX9_goes_64 ?_
  refine gg_lconst (pc := 65) cx (v := 1) dX9_goes_65 (by decide) ?_
  refine gg_lsub (pc := 66) cx dX9_goes_66 ?_
  have q67 := h.1
  have h := h.2
  refine gg_last (pc := 67) cx (hM 47 _ rfl v0) (fun _ _ => rfl) q67 dX9_goes_67 ?_
  refine gg_mem (fun M67 eM67 => ?_)
  have h := h M67 eM67
  refine gg_aload_n (pc := 68) cx 0 rfl dX9_goes_68 rfl ?_
  refine gf_Model_v (pc := 69) cx (hM 9 _ rfl v0) tw_1306 dX9_goes_69 ?_
  refine gg_iload_n (pc := 72) cx 1 rfl dX9_goes_72 rfl ?_
  refine gg_callSi (pc := 73) cx cal_X9_packet tw_1472 (ct_X9_packet cx.tr hM  h) tw_1471 rfl (st := [.ref (gAd t 47 o0)]) rfl (Nat.le_of_ble_eq_true rfl) ⟨Nat.le_of_ble_eq_true rfl, Nat.le_of_ble_eq_true rfl⟩ ⟨Nat.le_of_ble_eq_true rfl, Nat.le_of_ble_eq_true rfl⟩ dX9_goes_73 (fun r73 M73 h => ?_)
  refine gg_bipush (pc := 76) cx (v := 6) dX9_goes_76 (by decide) ?_
  refine gg_iadd (pc := 78) cx dX9_goes_78 ?_
  refine gg_lconst (pc := 79) cx (v := 0) dX9_goes_79 (by decide) ?_
  have q80 := h.1
  have h := h.2
  refine gg_last (pc := 80) cx (hM 47 _ rfl v0) (fun _ _ => rfl) q80 dX9_goes_80 ?_
  refine gg_mem (fun M80 eM80 => ?_)
  have h := h M80 eM80
  refine gg_iload_n (pc := 81) cx 1 rfl dX9_goes_81 rfl ?_
  exact gg_iret (pc := 82) cx hQ h dX9_goes_82
set_option maxRecDepth 100000 in
set_option maxHeartbeats 4000000 in
theorem wk_X9_goes_L29 {t : gT} {X : gX} (cx : g_Cx t X cX9_goes 4 RX9 (some .int)) (hM : g_hM t) {K : Int32 → gM → Prop} (hQ : gXQ X = MQ (gXb X) (va_Qi K (g_B t) (g_A t)) (gXa X) (gXs X) rm_X9_goes.cells rm_X9_goes.slots (g_A t)) (f : Nat) : ∀ (o0 : Nat) (x1 : Int32) (x2 : Int32) (x3 : Int32) (M : gM), o0 < 1 → wp_X9_goes_L29 K f o0 x1 x2 x3 M → G t rm_X9_goes X 4 0 0 M [(0, .ref (gAd t 9 o0)), (1, .int x1), (2, .int x2), (3, .int x3)] [] 29 := by
  induction f with
  | zero => intro _ _ _ _ _ _ _; exact False.elim (by assumption)
  | succ f ih =>
    intro o0 x1 x2 x3 M v0 h
    refine gg_iload_n (pc := 29) cx 3 rfl dX9_goes_29 rfl ?_
    refine gg_bipush (pc := 30) cx (v := 12) dX9_goes_30 (by decide) ?_
    refine gg_icmp_ge (pc := 32) cx (tgt := 57) dX9_goes_32 (by decide) (fun c32 => ?_) (fun c32 => ?_)
    · have h := g_it c32 h
      refine gg_lv (lv' := [(0, .ref (gAd t 9 o0)), (2, .int x2)]) [0, 2] rfl ?_
      exact wk_X9_goes_b57 cx hM hQ v0 h
    · have h := g_if c32 h
      refine gg_aload_n (pc := 35) cx 0 rfl dX9_goes_35 rfl ?_
      refine gg_iload_n (pc := 36) cx 1 rfl dX9_goes_36 rfl ?_
      refine gg_callVi (pc := 37) cx cal_X9_isLeaf calv_X9_isLeaf (ct_X9_isLeaf cx.tr hM v0 h) tw_1302 (hM 9 _ rfl v0) rfl rfl rfl (st := []) rfl (Nat.le_of_ble_eq_true rfl) ⟨Nat.le_of_ble_eq_true rfl, Nat.le_of_ble_eq_true rfl⟩ ⟨Nat.le_of_ble_eq_true rfl, Nat.le_of_ble_eq_true rfl⟩ dX9_goes_37 (fun r37 M37 h => ?_)
      refine gg_if_ne (pc := 40) cx (tgt := 57) dX9_goes_40 (by decide) (fun c40 => ?_) (fun c40 => ?_)
      · have h := g_if c40 h
        refine gg_lv (lv' := [(0, .ref (gAd t 9 o0)), (2, .int x2)]) [0, 2] rfl ?_
        exact wk_X9_goes_b57 cx hM hQ v0 h
      · have h := g_it c40 h
        refine gg_iload_n (pc := 43) cx 2 rfl dX9_goes_43 rfl ?_
        refine gg_istore_n (pc := 44) cx [(1, .int x2), (0, .ref (gAd t 9 o0)), (2, .int x2), (3, .int x3)] dX9_goes_44 rfl (by decide) rfl ?_
        refine gg_aload_n (pc := 45) cx 1 rfl dX9_goes_45 rfl ?_
        refine gg_iload_n (pc := 46) cx 0 rfl dX9_goes_46 rfl ?_
        refine gg_callVi (pc := 47) cx cal_X9_takes calv_X9_takes (ct_X9_takes cx.tr hM v0 h) tw_1516 (hM 9 _ rfl v0) rfl rfl rfl (st := []) rfl (Nat.le_of_ble_eq_true rfl) ⟨Nat.le_of_ble_eq_true rfl, Nat.le_of_ble_eq_true rfl⟩ ⟨Nat.le_of_ble_eq_true rfl, Nat.le_of_ble_eq_true rfl⟩ dX9_goes_47 (fun r47 M47 h => ?_)
        refine gg_istore_n (pc := 50) cx [(2, .int r47), (1, .int x2), (0, .ref (gAd t 9 o0)), (3, .int x3)] dX9_goes_50 rfl (by decide) rfl ?_
        obtain ⟨n51, en51⟩ : ∃ z : Int32, z = x3 + Int32.ofInt (1) := ⟨_, rfl⟩
        have h := h n51 en51
        refine gg_iinc (pc := 51) cx 3 [(3, .int n51), (2, .int r47), (1, .int x2), (0, .ref (gAd t 9 o0))] dX9_goes_51 rfl en51.symm (by decide) rfl ?_
        refine gg_goto (pc := 54) cx (tgt := 29) dX9_goes_54 (by decide) ?_
        refine gg_lv (lv' := [(0, .ref (gAd t 9 o0)), (1, .int x2), (2, .int r47), (3, .int n51)]) [3, 2, 1, 0] rfl ?_
        exact ih o0 x2 r47 n51 M47 v0 h
theorem cal_X9_goes : g_Cal yX9_goes cX9_goes 4 (some .int) 0 := ⟨tw_17, tw_1515, by decide, by decide, by decide +kernel⟩
theorem calv_X9_goes : g_CalV yX9_goes := ⟨tw_1514, ts_57⟩
set_option maxRecDepth 100000 in
set_option maxHeartbeats 4000000 in
theorem ct_X9_goes {l : Launch} (hl : l.stackTraces = false) {t : gT} (hM : g_hM t) {o0 : Nat} (v0 : o0 < 1) {M : gM} {K : Int32 → gM → Prop} (h : wp_X9_goes o0 M K) : Met l yX9_goes (g_y yX9_goes cX9_goes 4 (some .int)) rm_X9_goes (va_Pc [.ref (gAd t 9 o0)] (g_Pre t M)) (va_Qi K (g_B t) (g_A t)) rm_X9_goes.cells rm_X9_goes.slots (g_A t) := by
  refine g_met hl rfl (Nat.le_of_ble_eq_true rfl) (fun X hlX cx hQ => ?_)
  subst hlX
  refine gg_aload_n (pc := 0) cx 0 rfl dX9_goes_0 rfl ?_
  refine gf_Model_v (pc := 1) cx (hM 9 _ rfl v0) tw_1306 dX9_goes_1 ?_
  refine gg_iconst (pc := 4) cx (v := 0) dX9_goes_4 (by decide) ?_
  refine gg_callSi (pc := 5) cx cal_X9_node tw_1300 (ct_X9_node cx.tr hM  h) tw_1299 rfl (st := [.ref (gAd t 47 o0)]) rfl (Nat.le_of_ble_eq_true rfl) ⟨Nat.le_of_ble_eq_true rfl, Nat.le_of_ble_eq_true rfl⟩ ⟨Nat.le_of_ble_eq_true rfl, Nat.le_of_ble_eq_true rfl⟩ dX9_goes_5 (fun r5 M5 h => ?_)
  refine gg_bipush (pc := 8) cx (v := 11) dX9_goes_8 (by decide) ?_
  refine gg_iadd (pc := 10) cx dX9_goes_10 ?_
  have q11 := h.1
  have h := h.2
  refine gg_lald (pc := 11) cx (hM 47 _ rfl v0) rfl q11 dX9_goes_11 ?_
  refine gg_lconst (pc := 12) cx (v := 0) dX9_goes_12 (by decide) ?_
  refine gg_lcmp_ne (pc := 13) cx (tgt := 19) dX9_goes_13 dX9_goes_14 (by decide) (fun c13 => ?_) (fun c13 => ?_)
  · have h := g_if c13 h
    refine gg_iconst (pc := 19) cx (v := 0) dX9_goes_19 (by decide) ?_
    refine gg_istore_n (pc := 20) cx [(1, .int 0), (0, .ref (gAd t 9 o0))] dX9_goes_20 rfl (by decide) rfl ?_
    refine gg_aload_n (pc := 21) cx 1 rfl dX9_goes_21 rfl ?_
    refine gg_iconst (pc := 22) cx (v := 0) dX9_goes_22 (by decide) ?_
    refine gg_callVi (pc := 23) cx cal_X9_takes calv_X9_takes (ct_X9_takes cx.tr hM v0 h) tw_1516 (hM 9 _ rfl v0) rfl rfl rfl (st := []) rfl (Nat.le_of_ble_eq_true rfl) ⟨Nat.le_of_ble_eq_true rfl, Nat.le_of_ble_eq_true rfl⟩ ⟨Nat.le_of_ble_eq_true rfl, Nat.le_of_ble_eq_true rfl⟩ dX9_goes_23 (fun r23 M23 h => ?_)
    refine gg_istore_n (pc := 26) cx [(2, .int r23), (1, .int 0), (0, .ref (gAd t 9 o0))] dX9_goes_26 rfl (by decide) rfl ?_
    refine gg_iconst (pc := 27) cx (v := 0) dX9_goes_27 (by decide) ?_
    refine gg_istore_n (pc := 28) cx [(3, .int 0), (2, .int r23), (1, .int 0), (0, .ref (gAd t 9 o0))] dX9_goes_28 rfl (by decide) rfl ?_
    refine gg_lv (lv' := [(0, .ref (gAd t 9 o0)), (1, .int 0), (2, .int r23), (3, .int 0)]) [3, 2, 1, 0] rfl ?_
    obtain ⟨f29, h⟩ := h
    exact wk_X9_goes_L29 cx hM hQ f29 o0 0 r23 0 M23 v0 h
  · have h := g_it c13 h
    refine gg_iconst (pc := 17) cx (v := (-1)) dX9_goes_17 (by decide) ?_
    exact gg_iret (pc := 18) cx hQ h dX9_goes_18
set_option maxRecDepth 100000 in
set_option maxHeartbeats 4000000 in
theorem wk_X9_departs_b164 {t : gT} {X : gX} (cx : g_Cx t X cX9_departs 7 RX9 (none)) (hM : g_hM t) {K : gM → Prop} (hQ : gXQ X = MQ (gXb X) (va_Qv K (g_B t) (g_A t)) (gXa X) (gXs X) rm_X9_departs.cells rm_X9_departs.slots (g_A t)) {os0 : Nat} {xs1 : Int32} {ys2 : Int64} {ys3 : Int64} {M : gM} (vs0 : os0 < 1) (h : wp_X9_departs_b164 K os0 xs1 ys2 ys3 M) : G t rm_X9_departs X 7 0 0 M [] [.long ys3, .long ys2, .int xs1, .ref (gAd t 47 os0)] 164 := by
  refine gg_ladd (pc := 164) cx dX9_departs_164 ?_
  have q165 := h.1
  have h := h.2
  refine gg_last (pc := 165) cx (hM 47 _ rfl vs0) (fun _ _ => rfl) q165 dX9_departs_165 ?_
  refine gg_mem (fun M165 eM165 => ?_)
  have h := h M165 eM165
  exact gg_vret (pc := 166) cx hQ h dX9_departs_166
set_option maxRecDepth 100000 in
set_option maxHeartbeats 4000000 in
theorem wk_X9_departs_b131 {t : gT} {X : gX} (cx : g_Cx t X cX9_departs 7 RX9 (none)) (hM : g_hM t) {K : gM → Prop} (hQ : gXQ X = MQ (gXb X) (va_Qv K (g_B t) (g_A t)) (gXa X) (gXs X) rm_X9_departs.cells rm_X9_departs.slots (g_A t)) {o0 : Nat} {x1 : Int32} {y2 : Int64} {x4 : Int32} {os0 : Nat} {xs1 : Int32} {ys2 : Int64} {M : gM} (v0 : o0 < 1) (vs0 : os0 < 1) (h : wp_X9_departs_b131 K o0 x1 y2 x4 os0 xs1 ys2 M) : G t rm_X9_departs X 7 0 0 M [(0, .ref (gAd t 9 o0)), (1, .int x1), (2, .long y2), (4, .int x4)] [.long ys2, .int xs1, .ref (gAd t 47 os0)] 131 := by
  have q131 := h.1
  have h := h.2
  refine gg_last (pc := 131) cx (hM 47 _ rfl vs0) (fun _ _ => rfl) q131 dX9_departs_131 ?_
  refine gg_mem (fun M131 eM131 => ?_)
  have h := h M131 eM131
  refine gg_aload_n (pc := 132) cx 0 rfl dX9_departs_132 rfl ?_
  refine gf_Model_v (pc := 133) cx (hM 9 _ rfl v0) tw_1306 dX9_departs_133 ?_
  refine gg_iload (pc := 136) cx 3 rfl dX9_departs_136 ?_
  refine gg_bipush (pc := 138) cx (v := 6) dX9_departs_138 (by decide) ?_
  refine gg_iadd (pc := 140) cx dX9_departs_140 ?_
  refine gg_dup2 (pc := 141) cx dX9_departs_141 rfl rfl ?_
  have q142 := h.1
  have h := h.2
  refine gg_lald (pc := 142) cx (hM 47 _ rfl v0) rfl q142 dX9_departs_142 ?_
  refine gg_lload_n (pc := 143) cx 2 rfl dX9_departs_143 rfl ?_
  refine gg_aload_n (pc := 144) cx 0 rfl dX9_departs_144 rfl ?_
  refine gf_Model_v (pc := 145) cx (hM 9 _ rfl v0) tw_1306 dX9_departs_145 ?_
  refine gg_iload_n (pc := 148) cx 1 rfl dX9_departs_148 rfl ?_
  refine gg_callSi (pc := 149) cx cal_X9_packet tw_1472 (ct_X9_packet cx.tr hM  h) tw_1471 rfl (st := [.ref (gAd t 47 o0), .long y2, .long (M131.2 47 o0 (x4 + 6).toNatClampNeg), .int (x4 + 6), .ref (gAd t 47 o0)]) rfl (Nat.le_of_ble_eq_true rfl) ⟨Nat.le_of_ble_eq_true rfl, Nat.le_of_ble_eq_true rfl⟩ ⟨Nat.le_of_ble_eq_true rfl, Nat.le_of_ble_eq_true rfl⟩ dX9_departs_149 (fun r149 M149 h => ?_)
  refine gg_iconst (pc := 152) cx (v := 4) dX9_departs_152 (by decide) ?_
  refine gg_iadd (pc := 153) cx dX9_departs_153 ?_
  have q154 := h.1
  have h := h.2
  refine gg_lald (pc := 154) cx (hM 47 _ rfl v0) rfl q154 dX9_departs_154 ?_
  refine gg_lcmp_le (pc := 155) cx (tgt := 163) dX9_departs_155 dX9_departs_156 (by decide) (fun c155 => ?_) (fun c155 => ?_)
  · have h := g_it c155 h
    refine gg_lconst (pc := 163) cx (v := 0) dX9_departs_163 (by decide) ?_
    refine gg_lv (lv' := []) [] rfl ?_
    exact wk_X9_departs_b164 cx hM hQ v0 h
  · have h := g_if c155 h
    refine gg_lconst (pc := 159) cx (v := 1) dX9_departs_159 (by decide) ?_
    refine gg_goto (pc := 160) cx (tgt := 164) dX9_departs_160 (by decide) ?_
    refine gg_lv (lv' := []) [] rfl ?_
    exact wk_X9_departs_b164 cx hM hQ v0 h
theorem cal_X9_departs : g_Cal yX9_departs cX9_departs 7 (none) 2 := ⟨tw_17, tw_1537, by decide, by decide, by decide +kernel⟩
theorem calv_X9_departs : g_CalV yX9_departs := ⟨tw_1536, ts_62⟩
set_option maxRecDepth 100000 in
set_option maxHeartbeats 4000000 in
theorem ct_X9_departs {l : Launch} (hl : l.stackTraces = false) {t : gT} (hM : g_hM t) {o0 : Nat} {x1 : Int32} {y2 : Int64} (v0 : o0 < 1) {M : gM} {K : gM → Prop} (h : wp_X9_departs o0 x1 y2 M K) : Met l yX9_departs (g_y yX9_departs cX9_departs 7 (none)) rm_X9_departs (va_Pc [.ref (gAd t 9 o0), .int x1, .long y2] (g_Pre t M)) (va_Qv K (g_B t) (g_A t)) rm_X9_departs.cells rm_X9_departs.slots (g_A t) := by
  refine g_met hl rfl (Nat.le_of_ble_eq_true rfl) (fun X hlX cx hQ => ?_)
  subst hlX
  refine gg_aload_n (pc := 0) cx 0 rfl dX9_departs_0 rfl ?_
  refine gf_Model_v (pc := 1) cx (hM 9 _ rfl v0) tw_1306 dX9_departs_1 ?_
  refine gg_iload_n (pc := 4) cx 1 rfl dX9_departs_4 rfl ?_
  refine gg_callSi (pc := 5) cx cal_X9_packet tw_1472 (ct_X9_packet cx.tr hM  h) tw_1471 rfl (st := [.ref (gAd t 47 o0)]) rfl (Nat.le_of_ble_eq_true rfl) ⟨Nat.le_of_ble_eq_true rfl, Nat.le_of_ble_eq_true rfl⟩ ⟨Nat.le_of_ble_eq_true rfl, Nat.le_of_ble_eq_true rfl⟩ dX9_departs_5 (fun r5 M5 h => ?_)
  refine gg_iconst (pc := 8) cx (v := 0) dX9_departs_8 (by decide) ?_
  refine gg_iadd (pc := 9) cx dX9_departs_9 ?_
  have q10 := h.1
  have h := h.2
  refine gg_lald (pc := 10) cx (hM 47 _ rfl v0) rfl q10 dX9_departs_10 ?_
  refine gg_l2i (pc := 11) cx dX9_departs_11 ?_
  refine gg_callSi (pc := 12) cx cal_X9_flow tw_1297 (ct_X9_flow cx.tr hM  h) tw_1296 rfl (st := []) rfl (Nat.le_of_ble_eq_true rfl) ⟨Nat.le_of_ble_eq_true rfl, Nat.le_of_ble_eq_true rfl⟩ ⟨Nat.le_of_ble_eq_true rfl, Nat.le_of_ble_eq_true rfl⟩ dX9_departs_12 (fun r12 M12 h => ?_)
  refine gg_istore (pc := 15) cx [(4, .int r12), (0, .ref (gAd t 9 o0)), (1, .int x1), (2, .long y2)] dX9_departs_15 (by decide) rfl ?_
  refine gg_lload_n (pc := 17) cx 3 rfl dX9_departs_17 rfl ?_
  refine gg_aload_n (pc := 18) cx 1 rfl dX9_departs_18 rfl ?_
  refine gf_Model_v (pc := 19) cx (hM 9 _ rfl v0) tw_1306 dX9_departs_19 ?_
  refine gg_iload_n (pc := 22) cx 2 rfl dX9_departs_22 rfl ?_
  refine gg_callSi (pc := 23) cx cal_X9_packet tw_1472 (ct_X9_packet cx.tr hM  h) tw_1471 rfl (st := [.ref (gAd t 47 o0), .long y2]) rfl (Nat.le_of_ble_eq_true rfl) ⟨Nat.le_of_ble_eq_true rfl, Nat.le_of_ble_eq_true rfl⟩ ⟨Nat.le_of_ble_eq_true rfl, Nat.le_of_ble_eq_true rfl⟩ dX9_departs_23 (fun r23 M23 h => ?_)
  refine gg_iconst (pc := 26) cx (v := 3) dX9_departs_26 (by decide) ?_
  refine gg_iadd (pc := 27) cx dX9_departs_27 ?_
  have q28 := h.1
  have h := h.2
  refine gg_lald (pc := 28) cx (hM 47 _ rfl v0) rfl q28 dX9_departs_28 ?_
  refine gg_lsub (pc := 29) cx dX9_departs_29 ?_
  refine gg_topl (fun n30 en30 => ?_)
  have h := h n30 en30
  refine gg_lstore (pc := 30) cx [(5, .long n30), (4, .int r12), (0, .ref (gAd t 9 o0)), (1, .int x1), (2, .long y2)] dX9_departs_30 (by decide) rfl ?_
  refine gg_aload_n (pc := 32) cx 2 rfl dX9_departs_32 rfl ?_
  refine gf_Model_v (pc := 33) cx (hM 9 _ rfl v0) tw_1306 dX9_departs_33 ?_
  refine gg_iload_n (pc := 36) cx 3 rfl dX9_departs_36 rfl ?_
  refine gg_callSi (pc := 37) cx cal_X9_packet tw_1472 (ct_X9_packet cx.tr hM  h) tw_1471 rfl (st := [.ref (gAd t 47 o0)]) rfl (Nat.le_of_ble_eq_true rfl) ⟨Nat.le_of_ble_eq_true rfl, Nat.le_of_ble_eq_true rfl⟩ ⟨Nat.le_of_ble_eq_true rfl, Nat.le_of_ble_eq_true rfl⟩ dX9_departs_37 (fun r37 M37 h => ?_)
  refine gg_iconst (pc := 40) cx (v := 5) dX9_departs_40 (by decide) ?_
  refine gg_iadd (pc := 41) cx dX9_departs_41 ?_
  refine gg_lload_n (pc := 42) cx 4 rfl dX9_departs_42 rfl ?_
  have q43 := h.1
  have h := h.2
  refine gg_last (pc := 43) cx (hM 47 _ rfl v0) (fun _ _ => rfl) q43 dX9_departs_43 ?_
  refine gg_mem (fun M43 eM43 => ?_)
  have h := h M43 eM43
  refine gg_aload_n (pc := 44) cx 2 rfl dX9_departs_44 rfl ?_
  refine gf_Model_v (pc := 45) cx (hM 9 _ rfl v0) tw_1306 dX9_departs_45 ?_
  refine gg_iload (pc := 48) cx 1 rfl dX9_departs_48 ?_
  refine gg_iconst (pc := 50) cx (v := 2) dX9_departs_50 (by decide) ?_
  refine gg_iadd (pc := 51) cx dX9_departs_51 ?_
  refine gg_dup2 (pc := 52) cx dX9_departs_52 rfl rfl ?_
  have q53 := h.1
  have h := h.2
  refine gg_lald (pc := 53) cx (hM 47 _ rfl v0) rfl q53 dX9_departs_53 ?_
  refine gg_lconst (pc := 54) cx (v := 1) dX9_departs_54 (by decide) ?_
  refine gg_ladd (pc := 55) cx dX9_departs_55 ?_
  have q56 := h.1
  have h := h.2
  refine gg_last (pc := 56) cx (hM 47 _ rfl v0) (fun _ _ => rfl) q56 dX9_departs_56 ?_
  refine gg_mem (fun M56 eM56 => ?_)
  have h := h M56 eM56
  refine gg_aload_n (pc := 57) cx 2 rfl dX9_departs_57 rfl ?_
  refine gf_Model_v (pc := 58) cx (hM 9 _ rfl v0) tw_1306 dX9_departs_58 ?_
  refine gg_iload (pc := 61) cx 1 rfl dX9_departs_61 ?_
  refine gg_iconst (pc := 63) cx (v := 3) dX9_departs_63 (by decide) ?_
  refine gg_iadd (pc := 64) cx dX9_departs_64 ?_
  refine gg_dup2 (pc := 65) cx dX9_departs_65 rfl rfl ?_
  have q66 := h.1
  have h := h.2
  refine gg_lald (pc := 66) cx (hM 47 _ rfl v0) rfl q66 dX9_departs_66 ?_
  refine gg_aload_n (pc := 67) cx 2 rfl dX9_departs_67 rfl ?_
  refine gf_Model_v (pc := 68) cx (hM 9 _ rfl v0) tw_1306 dX9_departs_68 ?_
  refine gg_iload_n (pc := 71) cx 3 rfl dX9_departs_71 rfl ?_
  refine gg_callSi (pc := 72) cx cal_X9_packet tw_1472 (ct_X9_packet cx.tr hM  h) tw_1471 rfl (st := [.ref (gAd t 47 o0), .long (M56.2 47 o0 (r12 + 3).toNatClampNeg), .int (r12 + 3), .ref (gAd t 47 o0)]) rfl (Nat.le_of_ble_eq_true rfl) ⟨Nat.le_of_ble_eq_true rfl, Nat.le_of_ble_eq_true rfl⟩ ⟨Nat.le_of_ble_eq_true rfl, Nat.le_of_ble_eq_true rfl⟩ dX9_departs_72 (fun r72 M72 h => ?_)
  refine gg_iconst (pc := 75) cx (v := 1) dX9_departs_75 (by decide) ?_
  refine gg_iadd (pc := 76) cx dX9_departs_76 ?_
  have q77 := h.1
  have h := h.2
  refine gg_lald (pc := 77) cx (hM 47 _ rfl v0) rfl q77 dX9_departs_77 ?_
  refine gg_ladd (pc := 78) cx dX9_departs_78 ?_
  have q79 := h.1
  have h := h.2
  refine gg_last (pc := 79) cx (hM 47 _ rfl v0) (fun _ _ => rfl) q79 dX9_departs_79 ?_
  refine gg_mem (fun M79 eM79 => ?_)
  have h := h M79 eM79
  refine gg_aload_n (pc := 80) cx 2 rfl dX9_departs_80 rfl ?_
  refine gf_Model_v (pc := 81) cx (hM 9 _ rfl v0) tw_1306 dX9_departs_81 ?_
  refine gg_iload (pc := 84) cx 1 rfl dX9_departs_84 ?_
  refine gg_iconst (pc := 86) cx (v := 4) dX9_departs_86 (by decide) ?_
  refine gg_iadd (pc := 87) cx dX9_departs_87 ?_
  refine gg_dup2 (pc := 88) cx dX9_departs_88 rfl rfl ?_
  have q89 := h.1
  have h := h.2
  refine gg_lald (pc := 89) cx (hM 47 _ rfl v0) rfl q89 dX9_departs_89 ?_
  refine gg_lload (pc := 90) cx 0 rfl dX9_departs_90 ?_
  refine gg_ladd (pc := 92) cx dX9_departs_92 ?_
  have q93 := h.1
  have h := h.2
  refine gg_last (pc := 93) cx (hM 47 _ rfl v0) (fun _ _ => rfl) q93 dX9_departs_93 ?_
  refine gg_mem (fun M93 eM93 => ?_)
  have h := h M93 eM93
  refine gg_aload_n (pc := 94) cx 2 rfl dX9_departs_94 rfl ?_
  refine gf_Model_v (pc := 95) cx (hM 9 _ rfl v0) tw_1306 dX9_departs_95 ?_
  refine gg_iload (pc := 98) cx 1 rfl dX9_departs_98 ?_
  refine gg_iconst (pc := 100) cx (v := 5) dX9_departs_100 (by decide) ?_
  refine gg_iadd (pc := 101) cx dX9_departs_101 ?_
  refine gg_lload (pc := 102) cx 0 rfl dX9_departs_102 ?_
  refine gg_aload_n (pc := 104) cx 2 rfl dX9_departs_104 rfl ?_
  refine gf_Model_v (pc := 105) cx (hM 9 _ rfl v0) tw_1306 dX9_departs_105 ?_
  refine gg_iload (pc := 108) cx 1 rfl dX9_departs_108 ?_
  refine gg_iconst (pc := 110) cx (v := 5) dX9_departs_110 (by decide) ?_
  refine gg_iadd (pc := 111) cx dX9_departs_111 ?_
  have q112 := h.1
  have h := h.2
  refine gg_lald (pc := 112) cx (hM 47 _ rfl v0) rfl q112 dX9_departs_112 ?_
  refine gg_lcmp_le (pc := 113) cx (tgt := 122) dX9_departs_113 dX9_departs_114 (by decide) (fun c113 => ?_) (fun c113 => ?_)
  · have h := g_it c113 h
    refine gg_aload_n (pc := 122) cx 2 rfl dX9_departs_122 rfl ?_
    refine gf_Model_v (pc := 123) cx (hM 9 _ rfl v0) tw_1306 dX9_departs_123 ?_
    refine gg_iload (pc := 126) cx 1 rfl dX9_departs_126 ?_
    refine gg_iconst (pc := 128) cx (v := 5) dX9_departs_128 (by decide) ?_
    refine gg_iadd (pc := 129) cx dX9_departs_129 ?_
    have q130 := h.1
    have h := h.2
    refine gg_lald (pc := 130) cx (hM 47 _ rfl v0) rfl q130 dX9_departs_130 ?_
    refine gg_lv (lv' := [(0, .ref (gAd t 9 o0)), (1, .int x1), (2, .long y2), (4, .int r12)]) [2, 3, 4, 1] rfl ?_
    exact wk_X9_departs_b131 cx hM hQ v0 v0 h
  · have h := g_if c113 h
    refine gg_lload (pc := 117) cx 0 rfl dX9_departs_117 ?_
    refine gg_goto (pc := 119) cx (tgt := 131) dX9_departs_119 (by decide) ?_
    refine gg_lv (lv' := [(0, .ref (gAd t 9 o0)), (1, .int x1), (2, .long y2), (4, .int r12)]) [2, 3, 4, 1] rfl ?_
    exact wk_X9_departs_b131 cx hM hQ v0 v0 h
theorem cal_X9_sends : g_Cal yX9_sends cX9_sends 5 (some .int) 0 := ⟨tw_17, tw_1545, by decide, by decide, by decide +kernel⟩
theorem calv_X9_sends : g_CalV yX9_sends := ⟨tw_1544, ts_63⟩
set_option maxRecDepth 100000 in
set_option maxHeartbeats 4000000 in
theorem ct_X9_sends {l : Launch} (hl : l.stackTraces = false) {t : gT} (hM : g_hM t) {o0 : Nat} (v0 : o0 < 1) {M : gM} {K : Int32 → gM → Prop} (h : wp_X9_sends o0 M K) : Met l yX9_sends (g_y yX9_sends cX9_sends 5 (some .int)) rm_X9_sends (va_Pc [.ref (gAd t 9 o0)] (g_Pre t M)) (va_Qi K (g_B t) (g_A t)) rm_X9_sends.cells rm_X9_sends.slots (g_A t) := by
  refine g_met hl rfl (Nat.le_of_ble_eq_true rfl) (fun X hlX cx hQ => ?_)
  subst hlX
  refine gg_aload_n (pc := 0) cx 0 rfl dX9_sends_0 rfl ?_
  refine gg_callVi (pc := 1) cx cal_X9_goes calv_X9_goes (ct_X9_goes cx.tr hM v0 h) tw_1512 (hM 9 _ rfl v0) rfl rfl rfl (st := []) rfl (Nat.le_of_ble_eq_true rfl) ⟨Nat.le_of_ble_eq_true rfl, Nat.le_of_ble_eq_true rfl⟩ ⟨Nat.le_of_ble_eq_true rfl, Nat.le_of_ble_eq_true rfl⟩ dX9_sends_1 (fun r1 M1 h => ?_)
  refine gg_istore_n (pc := 4) cx [(1, .int r1), (0, .ref (gAd t 9 o0))] dX9_sends_4 rfl (by decide) rfl ?_
  refine gg_iload_n (pc := 5) cx 0 rfl dX9_sends_5 rfl ?_
  refine gg_if_lt (pc := 6) cx (tgt := 61) dX9_sends_6 (by decide) (fun c6 => ?_) (fun c6 => ?_)
  · have h := g_it c6 h
    refine gg_iload_n (pc := 61) cx 0 rfl dX9_sends_61 rfl ?_
    exact gg_iret (pc := 62) cx hQ h dX9_sends_62
  · have h := g_if c6 h
    refine gg_aload_n (pc := 9) cx 1 rfl dX9_sends_9 rfl ?_
    refine gf_Model_v (pc := 10) cx (hM 9 _ rfl v0) tw_1306 dX9_sends_10 ?_
    refine gg_iconst (pc := 13) cx (v := 0) dX9_sends_13 (by decide) ?_
    have q14 := h.1
    have h := h.2
    refine gg_lald (pc := 14) cx (hM 47 _ rfl v0) rfl q14 dX9_sends_14 ?_
    refine gg_aload_n (pc := 15) cx 1 rfl dX9_sends_15 rfl ?_
    refine gf_Model_v (pc := 16) cx (hM 9 _ rfl v0) tw_1306 dX9_sends_16 ?_
    refine gg_iload_n (pc := 19) cx 0 rfl dX9_sends_19 rfl ?_
    refine gg_callSi (pc := 20) cx cal_X9_packet tw_1472 (ct_X9_packet cx.tr hM  h) tw_1471 rfl (st := [.ref (gAd t 47 o0), .long (M1.2 47 o0 (0 : Int32).toNatClampNeg)]) rfl (Nat.le_of_ble_eq_true rfl) ⟨Nat.le_of_ble_eq_true rfl, Nat.le_of_ble_eq_true rfl⟩ ⟨Nat.le_of_ble_eq_true rfl, Nat.le_of_ble_eq_true rfl⟩ dX9_sends_20 (fun r20 M20 h => ?_)
    refine gg_iconst (pc := 23) cx (v := 1) dX9_sends_23 (by decide) ?_
    refine gg_iadd (pc := 24) cx dX9_sends_24 ?_
    have q25 := h.1
    have h := h.2
    refine gg_lald (pc := 25) cx (hM 47 _ rfl v0) rfl q25 dX9_sends_25 ?_
    refine gg_ldc2 (pc := 26) cx (v := 1000) tw_1504 dX9_sends_26 ?_
    refine gg_lmul (pc := 29) cx dX9_sends_29 ?_
    refine gg_aload_n (pc := 30) cx 1 rfl dX9_sends_30 rfl ?_
    refine gf_Model_v (pc := 31) cx (hM 9 _ rfl v0) tw_1306 dX9_sends_31 ?_
    refine gg_iconst (pc := 34) cx (v := 1) dX9_sends_34 (by decide) ?_
    have q35 := h.1
    have h := h.2
    refine gg_lald (pc := 35) cx (hM 47 _ rfl v0) rfl q35 dX9_sends_35 ?_
    refine gg_ladd (pc := 36) cx dX9_sends_36 ?_
    refine gg_lconst (pc := 37) cx (v := 1) dX9_sends_37 (by decide) ?_
    refine gg_lsub (pc := 38) cx dX9_sends_38 ?_
    refine gg_aload_n (pc := 39) cx 1 rfl dX9_sends_39 rfl ?_
    refine gf_Model_v (pc := 40) cx (hM 9 _ rfl v0) tw_1306 dX9_sends_40 ?_
    refine gg_iconst (pc := 43) cx (v := 1) dX9_sends_43 (by decide) ?_
    have q44 := h.1
    have h := h.2
    refine gg_lald (pc := 44) cx (hM 47 _ rfl v0) rfl q44 dX9_sends_44 ?_
    refine gg_ldiv (pc := 45) cx dX9_sends_45 h.1 ?_
    have h := h.2
    refine gg_ladd (pc := 46) cx dX9_sends_46 ?_
    refine gg_topl (fun n47 en47 => ?_)
    have h := h n47 en47
    refine gg_lstore_n (pc := 47) cx [(2, .long n47), (1, .int r1), (0, .ref (gAd t 9 o0))] dX9_sends_47 rfl (by decide) rfl ?_
    refine gg_aload_n (pc := 48) cx 2 rfl dX9_sends_48 rfl ?_
    refine gg_iload_n (pc := 49) cx 1 rfl dX9_sends_49 rfl ?_
    refine gg_lload_n (pc := 50) cx 0 rfl dX9_sends_50 rfl ?_
    refine gg_callVv (pc := 51) cx cal_X9_departs calv_X9_departs (ct_X9_departs cx.tr hM v0 h) tw_1534 (hM 9 _ rfl v0) rfl rfl rfl (st := []) rfl (Nat.le_of_ble_eq_true rfl) ⟨Nat.le_of_ble_eq_true rfl, Nat.le_of_ble_eq_true rfl⟩ ⟨Nat.le_of_ble_eq_true rfl, Nat.le_of_ble_eq_true rfl⟩ dX9_sends_51 (fun M51 h => ?_)
    refine gg_aload_n (pc := 54) cx 2 rfl dX9_sends_54 rfl ?_
    refine gg_lload_n (pc := 55) cx 0 rfl dX9_sends_55 rfl ?_
    refine gg_callVi (pc := 56) cx cal_X9_passes calv_X9_passes (ct_X9_passes cx.tr hM v0 h) tw_1546 (hM 9 _ rfl v0) rfl rfl rfl (st := []) rfl (Nat.le_of_ble_eq_true rfl) ⟨Nat.le_of_ble_eq_true rfl, Nat.le_of_ble_eq_true rfl⟩ ⟨Nat.le_of_ble_eq_true rfl, Nat.le_of_ble_eq_true rfl⟩ dX9_sends_56 (fun r56 M56 h => ?_)
    refine gg_istore (pc := 59) cx [(4, .int r56), (2, .long n47), (1, .int r1), (0, .ref (gAd t 9 o0))] dX9_sends_59 (by decide) rfl ?_
    refine gg_iload_n (pc := 61) cx 2 rfl dX9_sends_61 rfl ?_
    exact gg_iret (pc := 62) cx hQ h dX9_sends_62
theorem cal_X9_isNode : g_Cal yX9_isNode cX9_isNode 2 (some .boolean) 1 := ⟨tw_17, tw_1417, by decide, by decide, by decide +kernel⟩
theorem calv_X9_isNode : g_CalV yX9_isNode := ⟨tw_1416, ts_48⟩
set_option maxRecDepth 100000 in
set_option maxHeartbeats 4000000 in
theorem ct_X9_isNode {l : Launch} (hl : l.stackTraces = false) {t : gT} (hM : g_hM t) {o0 : Nat} {x1 : Int32} (v0 : o0 < 1) {M : gM} {K : Int32 → gM → Prop} (h : wp_X9_isNode o0 x1 M K) : Met l yX9_isNode (g_y yX9_isNode cX9_isNode 2 (some .boolean)) rm_X9_isNode (va_Pc [.ref (gAd t 9 o0), .int x1] (g_Pre t M)) (va_Qi K (g_B t) (g_A t)) rm_X9_isNode.cells rm_X9_isNode.slots (g_A t) := by
  refine g_met hl rfl (Nat.le_of_ble_eq_true rfl) (fun X hlX cx hQ => ?_)
  subst hlX
  refine gg_iload_n (pc := 0) cx 1 rfl dX9_isNode_0 rfl ?_
  refine gg_i2l (pc := 1) cx dX9_isNode_1 ?_
  refine gg_lconst (pc := 2) cx (v := 0) dX9_isNode_2 (by decide) ?_
  refine gg_aload_n (pc := 3) cx 0 rfl dX9_isNode_3 rfl ?_
  refine gf_Model_v (pc := 4) cx (hM 9 _ rfl v0) tw_1306 dX9_isNode_4 ?_
  refine gg_iconst (pc := 7) cx (v := 2) dX9_isNode_7 (by decide) ?_
  have q8 := h.1
  have h := h.2
  refine gg_lald (pc := 8) cx (hM 47 _ rfl v0) rfl q8 dX9_isNode_8 ?_
  refine gg_lconst (pc := 9) cx (v := 1) dX9_isNode_9 (by decide) ?_
  refine gg_lsub (pc := 10) cx dX9_isNode_10 ?_
  refine gg_callSi (pc := 11) cx cal_X9_in tw_1225 (ct_X9_in cx.tr hM  h) tw_1224 rfl (st := []) rfl (Nat.le_of_ble_eq_true rfl) ⟨Nat.le_of_ble_eq_true rfl, Nat.le_of_ble_eq_true rfl⟩ ⟨Nat.le_of_ble_eq_true rfl, Nat.le_of_ble_eq_true rfl⟩ dX9_isNode_11 (fun r11 M11 h => ?_)
  exact gg_zret (pc := 14) cx hQ h.1 h.2 dX9_isNode_14
theorem cal_X9_isFlow : g_Cal yX9_isFlow cX9_isFlow 1 (some .boolean) 1 := ⟨tw_17, tw_1432, by decide, by decide, by decide +kernel⟩
set_option maxRecDepth 100000 in
set_option maxHeartbeats 4000000 in
theorem ct_X9_isFlow {l : Launch} (hl : l.stackTraces = false) {t : gT} (hM : g_hM t) {x0 : Int32}  {M : gM} {K : Int32 → gM → Prop} (h : wp_X9_isFlow x0 M K) : Met l yX9_isFlow (g_y yX9_isFlow cX9_isFlow 1 (some .boolean)) rm_X9_isFlow (va_Pc [.int x0] (g_Pre t M)) (va_Qi K (g_B t) (g_A t)) rm_X9_isFlow.cells rm_X9_isFlow.slots (g_A t) := by
  refine g_met hl rfl (Nat.le_of_ble_eq_true rfl) (fun X hlX cx hQ => ?_)
  subst hlX
  refine gg_iload_n (pc := 0) cx 0 rfl dX9_isFlow_0 rfl ?_
  refine gg_i2l (pc := 1) cx dX9_isFlow_1 ?_
  refine gg_lconst (pc := 2) cx (v := 0) dX9_isFlow_2 (by decide) ?_
  refine gg_ldc2 (pc := 3) cx (v := 15) tw_1433 dX9_isFlow_3 ?_
  refine gg_callSi (pc := 6) cx cal_X9_in tw_1225 (ct_X9_in cx.tr hM  h) tw_1224 rfl (st := []) rfl (Nat.le_of_ble_eq_true rfl) ⟨Nat.le_of_ble_eq_true rfl, Nat.le_of_ble_eq_true rfl⟩ ⟨Nat.le_of_ble_eq_true rfl, Nat.le_of_ble_eq_true rfl⟩ dX9_isFlow_6 (fun r6 M6 h => ?_)
  exact gg_zret (pc := 9) cx hQ h.1 h.2 dX9_isFlow_9
theorem cal_X9_nodes : g_Cal yX9_nodes cX9_nodes 1 (some .int) 0 := ⟨tw_17, tw_1405, by decide, by decide, by decide +kernel⟩
theorem calv_X9_nodes : g_CalV yX9_nodes := ⟨tw_1403, tw_1404⟩
set_option maxRecDepth 100000 in
set_option maxHeartbeats 4000000 in
theorem ct_X9_nodes {l : Launch} (hl : l.stackTraces = false) {t : gT} (hM : g_hM t) {o0 : Nat} (v0 : o0 < 1) {M : gM} {K : Int32 → gM → Prop} (h : wp_X9_nodes o0 M K) : Met l yX9_nodes (g_y yX9_nodes cX9_nodes 1 (some .int)) rm_X9_nodes (va_Pc [.ref (gAd t 9 o0)] (g_Pre t M)) (va_Qi K (g_B t) (g_A t)) rm_X9_nodes.cells rm_X9_nodes.slots (g_A t) := by
  refine g_met hl rfl (Nat.le_of_ble_eq_true rfl) (fun X hlX cx hQ => ?_)
  subst hlX
  refine gg_aload_n (pc := 0) cx 0 rfl dX9_nodes_0 rfl ?_
  refine gg_iconst (pc := 1) cx (v := 0) dX9_nodes_1 (by decide) ?_
  refine gp_Model_thrown (pc := 2) cx (hM 9 _ rfl v0) tw_1310 dX9_nodes_2 ?_
  refine gg_mem (fun M2 eM2 => ?_)
  have h := h M2 eM2
  refine gg_aload_n (pc := 5) cx 0 rfl dX9_nodes_5 rfl ?_
  refine gf_Model_v (pc := 6) cx (hM 9 _ rfl v0) tw_1306 dX9_nodes_6 ?_
  refine gg_iconst (pc := 9) cx (v := 2) dX9_nodes_9 (by decide) ?_
  have q10 := h.1
  have h := h.2
  refine gg_lald (pc := 10) cx (hM 47 _ rfl v0) rfl q10 dX9_nodes_10 ?_
  refine gg_l2i (pc := 11) cx dX9_nodes_11 ?_
  exact gg_iret (pc := 12) cx hQ h dX9_nodes_12
set_option maxRecDepth 100000 in
set_option maxHeartbeats 4000000 in
theorem wk_X9_told_b14 {t : gT} {X : gX} (cx : g_Cx t X cX9_told 3 RX9 (some .int)) (hM : g_hM t) {K : Int32 → gM → Prop} (hQ : gXQ X = MQ (gXb X) (va_Qi K (g_B t) (g_A t)) (gXa X) (gXs X) rm_X9_told.cells rm_X9_told.slots (g_A t)) {o0 : Nat} {x1 : Int32} {x2 : Int32} {os0 : Nat} {xs1 : Int32} {M : gM} (v0 : o0 < 1) (vs0 : os0 < 1) (h : wp_X9_told_b14 K o0 x1 x2 os0 xs1 M) : G t rm_X9_told X 3 0 0 M [(0, .ref (gAd t 9 o0)), (1, .int x1), (2, .int x2)] [.int xs1, .ref (gAd t 9 os0)] 14 := by
  refine gp_Model_thrown (pc := 14) cx (hM 9 _ rfl vs0) tw_1310 dX9_told_14 ?_
  refine gg_mem (fun M14 eM14 => ?_)
  have h := h M14 eM14
  refine gg_aload_n (pc := 17) cx 0 rfl dX9_told_17 rfl ?_
  refine gg_iload_n (pc := 18) cx 1 rfl dX9_told_18 rfl ?_
  refine gg_callVi (pc := 19) cx cal_X9_isNode calv_X9_isNode (ct_X9_isNode cx.tr hM v0 h) tw_1414 (hM 9 _ rfl v0) rfl rfl rfl (st := []) rfl (Nat.le_of_ble_eq_true rfl) ⟨Nat.le_of_ble_eq_true rfl, Nat.le_of_ble_eq_true rfl⟩ ⟨Nat.le_of_ble_eq_true rfl, Nat.le_of_ble_eq_true rfl⟩ dX9_told_19 (fun r19 M19 h => ?_)
  refine gg_if_eq (pc := 22) cx (tgt := 40) dX9_told_22 (by decide) (fun c22 => ?_) (fun c22 => ?_)
  · have h := g_it c22 h
    refine gg_iconst (pc := 40) cx (v := 0) dX9_told_40 (by decide) ?_
    exact gg_iret (pc := 41) cx hQ h dX9_told_41
  · have h := g_if c22 h
    refine gg_aload_n (pc := 25) cx 0 rfl dX9_told_25 rfl ?_
    refine gf_Model_v (pc := 26) cx (hM 9 _ rfl v0) tw_1306 dX9_told_26 ?_
    refine gg_iload_n (pc := 29) cx 1 rfl dX9_told_29 rfl ?_
    refine gg_callSi (pc := 30) cx cal_X9_node tw_1300 (ct_X9_node cx.tr hM  h) tw_1299 rfl (st := [.ref (gAd t 47 o0)]) rfl (Nat.le_of_ble_eq_true rfl) ⟨Nat.le_of_ble_eq_true rfl, Nat.le_of_ble_eq_true rfl⟩ ⟨Nat.le_of_ble_eq_true rfl, Nat.le_of_ble_eq_true rfl⟩ dX9_told_30 (fun r30 M30 h => ?_)
    refine gg_iload_n (pc := 33) cx 2 rfl dX9_told_33 rfl ?_
    refine gg_iadd (pc := 34) cx dX9_told_34 ?_
    have q35 := h.1
    have h := h.2
    refine gg_lald (pc := 35) cx (hM 47 _ rfl v0) rfl q35 dX9_told_35 ?_
    refine gg_l2i (pc := 36) cx dX9_told_36 ?_
    refine gg_goto (pc := 37) cx (tgt := 41) dX9_told_37 (by decide) ?_
    exact gg_iret (pc := 41) cx hQ h dX9_told_41
theorem cal_X9_told : g_Cal yX9_told cX9_told 3 (some .int) 2 := ⟨tw_17, tw_1413, by decide, by decide, by decide +kernel⟩
theorem calv_X9_told : g_CalV yX9_told := ⟨tw_1412, ts_47⟩
set_option maxRecDepth 100000 in
set_option maxHeartbeats 4000000 in
theorem ct_X9_told {l : Launch} (hl : l.stackTraces = false) {t : gT} (hM : g_hM t) {o0 : Nat} {x1 : Int32} {x2 : Int32} (v0 : o0 < 1) {M : gM} {K : Int32 → gM → Prop} (h : wp_X9_told o0 x1 x2 M K) : Met l yX9_told (g_y yX9_told cX9_told 3 (some .int)) rm_X9_told (va_Pc [.ref (gAd t 9 o0), .int x1, .int x2] (g_Pre t M)) (va_Qi K (g_B t) (g_A t)) rm_X9_told.cells rm_X9_told.slots (g_A t) := by
  refine g_met hl rfl (Nat.le_of_ble_eq_true rfl) (fun X hlX cx hQ => ?_)
  subst hlX
  refine gg_aload_n (pc := 0) cx 0 rfl dX9_told_0 rfl ?_
  refine gg_aload_n (pc := 1) cx 0 rfl dX9_told_1 rfl ?_
  refine gg_iload_n (pc := 2) cx 1 rfl dX9_told_2 rfl ?_
  refine gg_callVi (pc := 3) cx cal_X9_isNode calv_X9_isNode (ct_X9_isNode cx.tr hM v0 h) tw_1414 (hM 9 _ rfl v0) rfl rfl rfl (st := [.ref (gAd t 9 o0)]) rfl (Nat.le_of_ble_eq_true rfl) ⟨Nat.le_of_ble_eq_true rfl, Nat.le_of_ble_eq_true rfl⟩ ⟨Nat.le_of_ble_eq_true rfl, Nat.le_of_ble_eq_true rfl⟩ dX9_told_3 (fun r3 M3 h => ?_)
  refine gg_if_eq (pc := 6) cx (tgt := 13) dX9_told_6 (by decide) (fun c6 => ?_) (fun c6 => ?_)
  · have h := g_it c6 h
    refine gg_iconst (pc := 13) cx (v := 1) dX9_told_13 (by decide) ?_
    exact wk_X9_told_b14 cx hM hQ v0 v0 h
  · have h := g_if c6 h
    refine gg_iconst (pc := 9) cx (v := 0) dX9_told_9 (by decide) ?_
    refine gg_goto (pc := 10) cx (tgt := 14) dX9_told_10 (by decide) ?_
    exact wk_X9_told_b14 cx hM hQ v0 v0 h
theorem cal_X9_parentOf : g_Cal yX9_parentOf cX9_parentOf 2 (some .int) 1 := ⟨tw_17, tw_1409, by decide, by decide, by decide +kernel⟩
theorem calv_X9_parentOf : g_CalV yX9_parentOf := ⟨tw_1407, tw_1408⟩
set_option maxRecDepth 100000 in
set_option maxHeartbeats 4000000 in
theorem ct_X9_parentOf {l : Launch} (hl : l.stackTraces = false) {t : gT} (hM : g_hM t) {o0 : Nat} {x1 : Int32} (v0 : o0 < 1) {M : gM} {K : Int32 → gM → Prop} (h : wp_X9_parentOf o0 x1 M K) : Met l yX9_parentOf (g_y yX9_parentOf cX9_parentOf 2 (some .int)) rm_X9_parentOf (va_Pc [.ref (gAd t 9 o0), .int x1] (g_Pre t M)) (va_Qi K (g_B t) (g_A t)) rm_X9_parentOf.cells rm_X9_parentOf.slots (g_A t) := by
  refine g_met hl rfl (Nat.le_of_ble_eq_true rfl) (fun X hlX cx hQ => ?_)
  subst hlX
  refine gg_aload_n (pc := 0) cx 0 rfl dX9_parentOf_0 rfl ?_
  refine gg_iload_n (pc := 1) cx 1 rfl dX9_parentOf_1 rfl ?_
  refine gg_iconst (pc := 2) cx (v := 0) dX9_parentOf_2 (by decide) ?_
  refine gg_callVi (pc := 3) cx cal_X9_told calv_X9_told (ct_X9_told cx.tr hM v0 h) tw_1410 (hM 9 _ rfl v0) rfl rfl rfl (st := []) rfl (Nat.le_of_ble_eq_true rfl) ⟨Nat.le_of_ble_eq_true rfl, Nat.le_of_ble_eq_true rfl⟩ ⟨Nat.le_of_ble_eq_true rfl, Nat.le_of_ble_eq_true rfl⟩ dX9_parentOf_3 (fun r3 M3 h => ?_)
  exact gg_iret (pc := 6) cx hQ h dX9_parentOf_6
set_option maxRecDepth 100000 in
set_option maxHeartbeats 4000000 in
theorem wk_X9_children_b63 {t : gT} {X : gX} (cx : g_Cx t X cX9_children 4 RX9 (some .int)) (hM : g_hM t) {K : Int32 → gM → Prop} (hQ : gXQ X = MQ (gXb X) (va_Qi K (g_B t) (g_A t)) (gXa X) (gXs X) rm_X9_children.cells rm_X9_children.slots (g_A t)) {R21 : Nat → Int32 → Int32 → Int32 → gM → Prop} (hR21 : ∀ (o0 : Nat) (x1 : Int32) (x2 : Int32) (x3 : Int32) (M : gM), o0 < 1 → R21 o0 x1 x2 x3 M → G t rm_X9_children X 4 0 0 M [(0, .ref (gAd t 9 o0)), (1, .int x1), (2, .int x2), (3, .int x3)] [] 21) {o0 : Nat} {x1 : Int32} {x3 : Int32} {xs0 : Int32} {xs1 : Int32} {M : gM} (v0 : o0 < 1) (h : wp_X9_children_b63 R21 K o0 x1 x3 xs0 xs1 M) : G t rm_X9_children X 4 0 0 M [(0, .ref (gAd t 9 o0)), (1, .int x1), (3, .int x3)] [.int xs1, .int xs0] 63 := by
  refine gg_iadd (pc := 63) cx dX9_children_63 ?_
  refine gg_topi (fun n64 en64 => ?_)
  have h := h n64 en64
  refine gg_istore_n (pc := 64) cx [(2, .int n64), (0, .ref (gAd t 9 o0)), (1, .int x1), (3, .int x3)] dX9_children_64 rfl (by decide) rfl ?_
  obtain ⟨n65, en65⟩ : ∃ z : Int32, z = x3 + Int32.ofInt (1) := ⟨_, rfl⟩
  have h := h n65 en65
  refine gg_iinc (pc := 65) cx 3 [(3, .int n65), (2, .int n64), (0, .ref (gAd t 9 o0)), (1, .int x1)] dX9_children_65 rfl en65.symm (by decide) rfl ?_
  refine gg_goto (pc := 68) cx (tgt := 21) dX9_children_68 (by decide) ?_
  refine gg_lv (lv' := [(0, .ref (gAd t 9 o0)), (1, .int x1), (2, .int n64), (3, .int n65)]) [2, 3, 1, 0] rfl ?_
  exact hR21 o0 x1 n64 n65 M v0 h
set_option maxRecDepth 100000 in
set_option maxHeartbeats 4000000 in
theorem wk_X9_children_L21 {t : gT} {X : gX} (cx : g_Cx t X cX9_children 4 RX9 (some .int)) (hM : g_hM t) {K : Int32 → gM → Prop} (hQ : gXQ X = MQ (gXb X) (va_Qi K (g_B t) (g_A t)) (gXa X) (gXs X) rm_X9_children.cells rm_X9_children.slots (g_A t)) (f : Nat) : ∀ (o0 : Nat) (x1 : Int32) (x2 : Int32) (x3 : Int32) (M : gM), o0 < 1 → wp_X9_children_L21 K f o0 x1 x2 x3 M → G t rm_X9_children X 4 0 0 M [(0, .ref (gAd t 9 o0)), (1, .int x1), (2, .int x2), (3, .int x3)] [] 21 := by
  induction f with
  | zero => intro _ _ _ _ _ _ _; exact False.elim (by assumption)
  | succ f ih =>
    intro o0 x1 x2 x3 M v0 h
    refine gg_iload_n (pc := 21) cx 3 rfl dX9_children_21 rfl ?_
    refine gg_i2l (pc := 22) cx dX9_children_22 ?_
    refine gg_aload_n (pc := 23) cx 0 rfl dX9_children_23 rfl ?_
    refine gf_Model_v (pc := 24) cx (hM 9 _ rfl v0) tw_1306 dX9_children_24 ?_
    refine gg_iconst (pc := 27) cx (v := 2) dX9_children_27 (by decide) ?_
    have q28 := h.1
    have h := h.2
    refine gg_lald (pc := 28) cx (hM 47 _ rfl v0) rfl q28 dX9_children_28 ?_
    refine gg_lcmp_ge (pc := 29) cx (tgt := 71) dX9_children_29 dX9_children_30 (by decide) (fun c29 => ?_) (fun c29 => ?_)
    · have h := g_it c29 h
      refine gg_iload_n (pc := 71) cx 2 rfl dX9_children_71 rfl ?_
      exact gg_iret (pc := 72) cx hQ h dX9_children_72
    · have h := g_if c29 h
      refine gg_aload_n (pc := 33) cx 0 rfl dX9_children_33 rfl ?_
      refine gf_Model_thrown (pc := 34) cx (hM 9 _ rfl v0) tw_1310 dX9_children_34 ?_
      refine gg_if_ne (pc := 37) cx (tgt := 71) dX9_children_37 (by decide) (fun c37 => ?_) (fun c37 => ?_)
      · have h := g_if c37 h
        refine gg_iload_n (pc := 71) cx 2 rfl dX9_children_71 rfl ?_
        exact gg_iret (pc := 72) cx hQ h dX9_children_72
      · have h := g_it c37 h
        refine gg_iload_n (pc := 40) cx 2 rfl dX9_children_40 rfl ?_
        refine gg_aload_n (pc := 41) cx 0 rfl dX9_children_41 rfl ?_
        refine gf_Model_v (pc := 42) cx (hM 9 _ rfl v0) tw_1306 dX9_children_42 ?_
        refine gg_iload_n (pc := 45) cx 3 rfl dX9_children_45 rfl ?_
        refine gg_callSi (pc := 46) cx cal_X9_node tw_1300 (ct_X9_node cx.tr hM  h) tw_1299 rfl (st := [.ref (gAd t 47 o0), .int x2]) rfl (Nat.le_of_ble_eq_true rfl) ⟨Nat.le_of_ble_eq_true rfl, Nat.le_of_ble_eq_true rfl⟩ ⟨Nat.le_of_ble_eq_true rfl, Nat.le_of_ble_eq_true rfl⟩ dX9_children_46 (fun r46 M46 h => ?_)
        refine gg_iconst (pc := 49) cx (v := 0) dX9_children_49 (by decide) ?_
        refine gg_iadd (pc := 50) cx dX9_children_50 ?_
        have q51 := h.1
        have h := h.2
        refine gg_lald (pc := 51) cx (hM 47 _ rfl v0) rfl q51 dX9_children_51 ?_
        refine gg_iload_n (pc := 52) cx 1 rfl dX9_children_52 rfl ?_
        refine gg_i2l (pc := 53) cx dX9_children_53 ?_
        refine gg_lcmp_ne (pc := 54) cx (tgt := 62) dX9_children_54 dX9_children_55 (by decide) (fun c54 => ?_) (fun c54 => ?_)
        · have h := g_if c54 h
          refine gg_iconst (pc := 62) cx (v := 0) dX9_children_62 (by decide) ?_
          refine gg_lv (lv' := [(0, .ref (gAd t 9 o0)), (1, .int x1), (3, .int x3)]) [0, 1, 3] rfl ?_
          exact wk_X9_children_b63 cx hM hQ ih v0 h
        · have h := g_it c54 h
          refine gg_iconst (pc := 58) cx (v := 1) dX9_children_58 (by decide) ?_
          refine gg_goto (pc := 59) cx (tgt := 63) dX9_children_59 (by decide) ?_
          refine gg_lv (lv' := [(0, .ref (gAd t 9 o0)), (1, .int x1), (3, .int x3)]) [0, 1, 3] rfl ?_
          exact wk_X9_children_b63 cx hM hQ ih v0 h
set_option maxRecDepth 100000 in
set_option maxHeartbeats 4000000 in
theorem wk_X9_children_b14 {t : gT} {X : gX} (cx : g_Cx t X cX9_children 4 RX9 (some .int)) (hM : g_hM t) {K : Int32 → gM → Prop} (hQ : gXQ X = MQ (gXb X) (va_Qi K (g_B t) (g_A t)) (gXa X) (gXs X) rm_X9_children.cells rm_X9_children.slots (g_A t)) {o0 : Nat} {x1 : Int32} {os0 : Nat} {xs1 : Int32} {M : gM} (v0 : o0 < 1) (vs0 : os0 < 1) (h : wp_X9_children_b14 K o0 x1 os0 xs1 M) : G t rm_X9_children X 4 0 0 M [(0, .ref (gAd t 9 o0)), (1, .int x1)] [.int xs1, .ref (gAd t 9 os0)] 14 := by
  refine gp_Model_thrown (pc := 14) cx (hM 9 _ rfl vs0) tw_1310 dX9_children_14 ?_
  refine gg_mem (fun M14 eM14 => ?_)
  have h := h M14 eM14
  refine gg_iconst (pc := 17) cx (v := 0) dX9_children_17 (by decide) ?_
  refine gg_istore_n (pc := 18) cx [(2, .int 0), (0, .ref (gAd t 9 o0)), (1, .int x1)] dX9_children_18 rfl (by decide) rfl ?_
  refine gg_iconst (pc := 19) cx (v := 0) dX9_children_19 (by decide) ?_
  refine gg_istore_n (pc := 20) cx [(3, .int 0), (2, .int 0), (0, .ref (gAd t 9 o0)), (1, .int x1)] dX9_children_20 rfl (by decide) rfl ?_
  refine gg_lv (lv' := [(0, .ref (gAd t 9 o0)), (1, .int x1), (2, .int 0), (3, .int 0)]) [2, 3, 1, 0] rfl ?_
  obtain ⟨f21, h⟩ := h
  exact wk_X9_children_L21 cx hM hQ f21 o0 x1 0 0 M14 v0 h
theorem cal_X9_children : g_Cal yX9_children cX9_children 4 (some .int) 1 := ⟨tw_17, tw_1421, by decide, by decide, by decide +kernel⟩
theorem calv_X9_children : g_CalV yX9_children := ⟨tw_1419, tw_1420⟩
set_option maxRecDepth 100000 in
set_option maxHeartbeats 4000000 in
theorem ct_X9_children {l : Launch} (hl : l.stackTraces = false) {t : gT} (hM : g_hM t) {o0 : Nat} {x1 : Int32} (v0 : o0 < 1) {M : gM} {K : Int32 → gM → Prop} (h : wp_X9_children o0 x1 M K) : Met l yX9_children (g_y yX9_children cX9_children 4 (some .int)) rm_X9_children (va_Pc [.ref (gAd t 9 o0), .int x1] (g_Pre t M)) (va_Qi K (g_B t) (g_A t)) rm_X9_children.cells rm_X9_children.slots (g_A t) := by
  refine g_met hl rfl (Nat.le_of_ble_eq_true rfl) (fun X hlX cx hQ => ?_)
  subst hlX
  refine gg_aload_n (pc := 0) cx 0 rfl dX9_children_0 rfl ?_
  refine gg_aload_n (pc := 1) cx 0 rfl dX9_children_1 rfl ?_
  refine gg_iload_n (pc := 2) cx 1 rfl dX9_children_2 rfl ?_
  refine gg_callVi (pc := 3) cx cal_X9_isNode calv_X9_isNode (ct_X9_isNode cx.tr hM v0 h) tw_1414 (hM 9 _ rfl v0) rfl rfl rfl (st := [.ref (gAd t 9 o0)]) rfl (Nat.le_of_ble_eq_true rfl) ⟨Nat.le_of_ble_eq_true rfl, Nat.le_of_ble_eq_true rfl⟩ ⟨Nat.le_of_ble_eq_true rfl, Nat.le_of_ble_eq_true rfl⟩ dX9_children_3 (fun r3 M3 h => ?_)
  refine gg_if_eq (pc := 6) cx (tgt := 13) dX9_children_6 (by decide) (fun c6 => ?_) (fun c6 => ?_)
  · have h := g_it c6 h
    refine gg_iconst (pc := 13) cx (v := 1) dX9_children_13 (by decide) ?_
    exact wk_X9_children_b14 cx hM hQ v0 v0 h
  · have h := g_if c6 h
    refine gg_iconst (pc := 9) cx (v := 0) dX9_children_9 (by decide) ?_
    refine gg_goto (pc := 10) cx (tgt := 14) dX9_children_10 (by decide) ?_
    exact wk_X9_children_b14 cx hM hQ v0 v0 h
theorem cal_X9_tieRule : g_Cal yX9_tieRule cX9_tieRule 2 (some .int) 1 := ⟨tw_17, tw_1425, by decide, by decide, by decide +kernel⟩
theorem calv_X9_tieRule : g_CalV yX9_tieRule := ⟨tw_1423, tw_1424⟩
set_option maxRecDepth 100000 in
set_option maxHeartbeats 4000000 in
theorem ct_X9_tieRule {l : Launch} (hl : l.stackTraces = false) {t : gT} (hM : g_hM t) {o0 : Nat} {x1 : Int32} (v0 : o0 < 1) {M : gM} {K : Int32 → gM → Prop} (h : wp_X9_tieRule o0 x1 M K) : Met l yX9_tieRule (g_y yX9_tieRule cX9_tieRule 2 (some .int)) rm_X9_tieRule (va_Pc [.ref (gAd t 9 o0), .int x1] (g_Pre t M)) (va_Qi K (g_B t) (g_A t)) rm_X9_tieRule.cells rm_X9_tieRule.slots (g_A t) := by
  refine g_met hl rfl (Nat.le_of_ble_eq_true rfl) (fun X hlX cx hQ => ?_)
  subst hlX
  refine gg_aload_n (pc := 0) cx 0 rfl dX9_tieRule_0 rfl ?_
  refine gg_iload_n (pc := 1) cx 1 rfl dX9_tieRule_1 rfl ?_
  refine gg_iconst (pc := 2) cx (v := 1) dX9_tieRule_2 (by decide) ?_
  refine gg_callVi (pc := 3) cx cal_X9_told calv_X9_told (ct_X9_told cx.tr hM v0 h) tw_1410 (hM 9 _ rfl v0) rfl rfl rfl (st := []) rfl (Nat.le_of_ble_eq_true rfl) ⟨Nat.le_of_ble_eq_true rfl, Nat.le_of_ble_eq_true rfl⟩ ⟨Nat.le_of_ble_eq_true rfl, Nat.le_of_ble_eq_true rfl⟩ dX9_tieRule_3 (fun r3 M3 h => ?_)
  exact gg_iret (pc := 6) cx hQ h dX9_tieRule_6
theorem cal_X9_sets : g_Cal yX9_sets cX9_sets 4 (some .int) 2 := ⟨tw_17, tw_1438, by decide, by decide, by decide +kernel⟩
theorem calv_X9_sets : g_CalV yX9_sets := ⟨tw_1437, ts_49⟩
set_option maxRecDepth 100000 in
set_option maxHeartbeats 4000000 in
theorem ct_X9_sets {l : Launch} (hl : l.stackTraces = false) {t : gT} (hM : g_hM t) {o0 : Nat} {x1 : Int32} {x2 : Int32} (v0 : o0 < 1) {M : gM} {K : Int32 → gM → Prop} (h : wp_X9_sets o0 x1 x2 M K) : Met l yX9_sets (g_y yX9_sets cX9_sets 4 (some .int)) rm_X9_sets (va_Pc [.ref (gAd t 9 o0), .int x1, .int x2] (g_Pre t M)) (va_Qi K (g_B t) (g_A t)) rm_X9_sets.cells rm_X9_sets.slots (g_A t) := by
  refine g_met hl rfl (Nat.le_of_ble_eq_true rfl) (fun X hlX cx hQ => ?_)
  subst hlX
  refine gg_aload_n (pc := 0) cx 0 rfl dX9_sets_0 rfl ?_
  refine gf_Model_v (pc := 1) cx (hM 9 _ rfl v0) tw_1306 dX9_sets_1 ?_
  refine gg_iload_n (pc := 4) cx 1 rfl dX9_sets_4 rfl ?_
  have q5 := h.1
  have h := h.2
  refine gg_lald (pc := 5) cx (hM 47 _ rfl v0) rfl q5 dX9_sets_5 ?_
  refine gg_l2i (pc := 6) cx dX9_sets_6 ?_
  refine gg_topi (fun n7 en7 => ?_)
  have h := h n7 en7
  refine gg_istore_n (pc := 7) cx [(3, .int n7), (0, .ref (gAd t 9 o0)), (1, .int x1), (2, .int x2)] dX9_sets_7 rfl (by decide) rfl ?_
  refine gg_aload_n (pc := 8) cx 1 rfl dX9_sets_8 rfl ?_
  refine gf_Model_v (pc := 9) cx (hM 9 _ rfl v0) tw_1306 dX9_sets_9 ?_
  refine gg_iload_n (pc := 12) cx 2 rfl dX9_sets_12 rfl ?_
  refine gg_iload_n (pc := 13) cx 3 rfl dX9_sets_13 rfl ?_
  refine gg_i2l (pc := 14) cx dX9_sets_14 ?_
  have q15 := h.1
  have h := h.2
  refine gg_last (pc := 15) cx (hM 47 _ rfl v0) (fun _ _ => rfl) q15 dX9_sets_15 ?_
  refine gg_mem (fun M15 eM15 => ?_)
  have h := h M15 eM15
  refine gg_iload_n (pc := 16) cx 0 rfl dX9_sets_16 rfl ?_
  exact gg_iret (pc := 17) cx hQ h dX9_sets_17
theorem cal_X9_setFlowWeight : g_Cal yX9_setFlowWeight cX9_setFlowWeight 3 (some .int) 2 := ⟨tw_17, tw_1429, by decide, by decide, by decide +kernel⟩
theorem calv_X9_setFlowWeight : g_CalV yX9_setFlowWeight := ⟨tw_1427, tw_1428⟩
set_option maxRecDepth 100000 in
set_option maxHeartbeats 4000000 in
theorem ct_X9_setFlowWeight {l : Launch} (hl : l.stackTraces = false) {t : gT} (hM : g_hM t) {o0 : Nat} {x1 : Int32} {x2 : Int32} (v0 : o0 < 1) {M : gM} {K : Int32 → gM → Prop} (h : wp_X9_setFlowWeight o0 x1 x2 M K) : Met l yX9_setFlowWeight (g_y yX9_setFlowWeight cX9_setFlowWeight 3 (some .int)) rm_X9_setFlowWeight (va_Pc [.ref (gAd t 9 o0), .int x1, .int x2] (g_Pre t M)) (va_Qi K (g_B t) (g_A t)) rm_X9_setFlowWeight.cells rm_X9_setFlowWeight.slots (g_A t) := by
  refine g_met hl rfl (Nat.le_of_ble_eq_true rfl) (fun X hlX cx hQ => ?_)
  subst hlX
  refine gg_aload_n (pc := 0) cx 0 rfl dX9_setFlowWeight_0 rfl ?_
  refine gg_iconst (pc := 1) cx (v := 0) dX9_setFlowWeight_1 (by decide) ?_
  refine gp_Model_thrown (pc := 2) cx (hM 9 _ rfl v0) tw_1310 dX9_setFlowWeight_2 ?_
  refine gg_mem (fun M2 eM2 => ?_)
  have h := h M2 eM2
  refine gg_iload_n (pc := 5) cx 1 rfl dX9_setFlowWeight_5 rfl ?_
  refine gg_callSi (pc := 6) cx cal_X9_isFlow tw_1431 (ct_X9_isFlow cx.tr hM  h) tw_1430 rfl (st := []) rfl (Nat.le_of_ble_eq_true rfl) ⟨Nat.le_of_ble_eq_true rfl, Nat.le_of_ble_eq_true rfl⟩ ⟨Nat.le_of_ble_eq_true rfl, Nat.le_of_ble_eq_true rfl⟩ dX9_setFlowWeight_6 (fun r6 M6 h => ?_)
  refine gg_if_ne (pc := 9) cx (tgt := 18) dX9_setFlowWeight_9 (by decide) (fun c9 => ?_) (fun c9 => ?_)
  · have h := g_if c9 h
    refine gg_iload_n (pc := 18) cx 2 rfl dX9_setFlowWeight_18 rfl ?_
    refine gg_i2l (pc := 19) cx dX9_setFlowWeight_19 ?_
    refine gg_lconst (pc := 20) cx (v := 1) dX9_setFlowWeight_20 (by decide) ?_
    refine gg_ldc2 (pc := 21) cx (v := 100) tw_1434 dX9_setFlowWeight_21 ?_
    refine gg_callSi (pc := 24) cx cal_X9_in tw_1225 (ct_X9_in cx.tr hM  h) tw_1224 rfl (st := []) rfl (Nat.le_of_ble_eq_true rfl) ⟨Nat.le_of_ble_eq_true rfl, Nat.le_of_ble_eq_true rfl⟩ ⟨Nat.le_of_ble_eq_true rfl, Nat.le_of_ble_eq_true rfl⟩ dX9_setFlowWeight_24 (fun r24 M24 h => ?_)
    refine gg_if_eq (pc := 27) cx (tgt := 44) dX9_setFlowWeight_27 (by decide) (fun c27 => ?_) (fun c27 => ?_)
    · have h := g_it c27 h
      refine gg_aload_n (pc := 44) cx 0 rfl dX9_setFlowWeight_44 rfl ?_
      refine gg_iconst (pc := 45) cx (v := 2) dX9_setFlowWeight_45 (by decide) ?_
      refine gg_callVi (pc := 46) cx cal_X9_fails calv_X9_fails (ct_X9_fails cx.tr hM v0 h) tw_1377 (hM 9 _ rfl v0) rfl rfl rfl (st := []) rfl (Nat.le_of_ble_eq_true rfl) ⟨Nat.le_of_ble_eq_true rfl, Nat.le_of_ble_eq_true rfl⟩ ⟨Nat.le_of_ble_eq_true rfl, Nat.le_of_ble_eq_true rfl⟩ dX9_setFlowWeight_46 (fun r46 M46 h => ?_)
      exact gg_iret (pc := 49) cx hQ h dX9_setFlowWeight_49
    · have h := g_if c27 h
      refine gg_aload_n (pc := 30) cx 0 rfl dX9_setFlowWeight_30 rfl ?_
      refine gg_iload_n (pc := 31) cx 1 rfl dX9_setFlowWeight_31 rfl ?_
      refine gg_callSi (pc := 32) cx cal_X9_flow tw_1297 (ct_X9_flow cx.tr hM  h) tw_1296 rfl (st := [.ref (gAd t 9 o0)]) rfl (Nat.le_of_ble_eq_true rfl) ⟨Nat.le_of_ble_eq_true rfl, Nat.le_of_ble_eq_true rfl⟩ ⟨Nat.le_of_ble_eq_true rfl, Nat.le_of_ble_eq_true rfl⟩ dX9_setFlowWeight_32 (fun r32 M32 h => ?_)
      refine gg_iconst (pc := 35) cx (v := 0) dX9_setFlowWeight_35 (by decide) ?_
      refine gg_iadd (pc := 36) cx dX9_setFlowWeight_36 ?_
      refine gg_iload_n (pc := 37) cx 2 rfl dX9_setFlowWeight_37 rfl ?_
      refine gg_callVi (pc := 38) cx cal_X9_sets calv_X9_sets (ct_X9_sets cx.tr hM v0 h) tw_1435 (hM 9 _ rfl v0) rfl rfl rfl (st := []) rfl (Nat.le_of_ble_eq_true rfl) ⟨Nat.le_of_ble_eq_true rfl, Nat.le_of_ble_eq_true rfl⟩ ⟨Nat.le_of_ble_eq_true rfl, Nat.le_of_ble_eq_true rfl⟩ dX9_setFlowWeight_38 (fun r38 M38 h => ?_)
      refine gg_goto (pc := 41) cx (tgt := 49) dX9_setFlowWeight_41 (by decide) ?_
      exact gg_iret (pc := 49) cx hQ h dX9_setFlowWeight_49
  · have h := g_it c9 h
    refine gg_aload_n (pc := 12) cx 0 rfl dX9_setFlowWeight_12 rfl ?_
    refine gg_iconst (pc := 13) cx (v := 1) dX9_setFlowWeight_13 (by decide) ?_
    refine gg_callVi (pc := 14) cx cal_X9_fails calv_X9_fails (ct_X9_fails cx.tr hM v0 h) tw_1377 (hM 9 _ rfl v0) rfl rfl rfl (st := []) rfl (Nat.le_of_ble_eq_true rfl) ⟨Nat.le_of_ble_eq_true rfl, Nat.le_of_ble_eq_true rfl⟩ ⟨Nat.le_of_ble_eq_true rfl, Nat.le_of_ble_eq_true rfl⟩ dX9_setFlowWeight_14 (fun r14 M14 h => ?_)
    exact gg_iret (pc := 17) cx hQ h dX9_setFlowWeight_17
theorem cal_X9_setNodeWeight : g_Cal yX9_setNodeWeight cX9_setNodeWeight 3 (some .int) 2 := ⟨tw_17, tw_1442, by decide, by decide, by decide +kernel⟩
theorem calv_X9_setNodeWeight : g_CalV yX9_setNodeWeight := ⟨tw_1440, tw_1441⟩
set_option maxRecDepth 100000 in
set_option maxHeartbeats 4000000 in
theorem ct_X9_setNodeWeight {l : Launch} (hl : l.stackTraces = false) {t : gT} (hM : g_hM t) {o0 : Nat} {x1 : Int32} {x2 : Int32} (v0 : o0 < 1) {M : gM} {K : Int32 → gM → Prop} (h : wp_X9_setNodeWeight o0 x1 x2 M K) : Met l yX9_setNodeWeight (g_y yX9_setNodeWeight cX9_setNodeWeight 3 (some .int)) rm_X9_setNodeWeight (va_Pc [.ref (gAd t 9 o0), .int x1, .int x2] (g_Pre t M)) (va_Qi K (g_B t) (g_A t)) rm_X9_setNodeWeight.cells rm_X9_setNodeWeight.slots (g_A t) := by
  refine g_met hl rfl (Nat.le_of_ble_eq_true rfl) (fun X hlX cx hQ => ?_)
  subst hlX
  refine gg_aload_n (pc := 0) cx 0 rfl dX9_setNodeWeight_0 rfl ?_
  refine gg_iconst (pc := 1) cx (v := 0) dX9_setNodeWeight_1 (by decide) ?_
  refine gp_Model_thrown (pc := 2) cx (hM 9 _ rfl v0) tw_1310 dX9_setNodeWeight_2 ?_
  refine gg_mem (fun M2 eM2 => ?_)
  have h := h M2 eM2
  refine gg_aload_n (pc := 5) cx 0 rfl dX9_setNodeWeight_5 rfl ?_
  refine gg_iload_n (pc := 6) cx 1 rfl dX9_setNodeWeight_6 rfl ?_
  refine gg_callVi (pc := 7) cx cal_X9_isNode calv_X9_isNode (ct_X9_isNode cx.tr hM v0 h) tw_1414 (hM 9 _ rfl v0) rfl rfl rfl (st := []) rfl (Nat.le_of_ble_eq_true rfl) ⟨Nat.le_of_ble_eq_true rfl, Nat.le_of_ble_eq_true rfl⟩ ⟨Nat.le_of_ble_eq_true rfl, Nat.le_of_ble_eq_true rfl⟩ dX9_setNodeWeight_7 (fun r7 M7 h => ?_)
  refine gg_if_ne (pc := 10) cx (tgt := 19) dX9_setNodeWeight_10 (by decide) (fun c10 => ?_) (fun c10 => ?_)
  · have h := g_if c10 h
    refine gg_iload_n (pc := 19) cx 2 rfl dX9_setNodeWeight_19 rfl ?_
    refine gg_i2l (pc := 20) cx dX9_setNodeWeight_20 ?_
    refine gg_lconst (pc := 21) cx (v := 1) dX9_setNodeWeight_21 (by decide) ?_
    refine gg_ldc2 (pc := 22) cx (v := 100) tw_1434 dX9_setNodeWeight_22 ?_
    refine gg_callSi (pc := 25) cx cal_X9_in tw_1225 (ct_X9_in cx.tr hM  h) tw_1224 rfl (st := []) rfl (Nat.le_of_ble_eq_true rfl) ⟨Nat.le_of_ble_eq_true rfl, Nat.le_of_ble_eq_true rfl⟩ ⟨Nat.le_of_ble_eq_true rfl, Nat.le_of_ble_eq_true rfl⟩ dX9_setNodeWeight_25 (fun r25 M25 h => ?_)
    refine gg_if_eq (pc := 28) cx (tgt := 45) dX9_setNodeWeight_28 (by decide) (fun c28 => ?_) (fun c28 => ?_)
    · have h := g_it c28 h
      refine gg_aload_n (pc := 45) cx 0 rfl dX9_setNodeWeight_45 rfl ?_
      refine gg_iconst (pc := 46) cx (v := 2) dX9_setNodeWeight_46 (by decide) ?_
      refine gg_callVi (pc := 47) cx cal_X9_fails calv_X9_fails (ct_X9_fails cx.tr hM v0 h) tw_1377 (hM 9 _ rfl v0) rfl rfl rfl (st := []) rfl (Nat.le_of_ble_eq_true rfl) ⟨Nat.le_of_ble_eq_true rfl, Nat.le_of_ble_eq_true rfl⟩ ⟨Nat.le_of_ble_eq_true rfl, Nat.le_of_ble_eq_true rfl⟩ dX9_setNodeWeight_47 (fun r47 M47 h => ?_)
      exact gg_iret (pc := 50) cx hQ h dX9_setNodeWeight_50
    · have h := g_if c28 h
      refine gg_aload_n (pc := 31) cx 0 rfl dX9_setNodeWeight_31 rfl ?_
      refine gg_iload_n (pc := 32) cx 1 rfl dX9_setNodeWeight_32 rfl ?_
      refine gg_callSi (pc := 33) cx cal_X9_node tw_1300 (ct_X9_node cx.tr hM  h) tw_1299 rfl (st := [.ref (gAd t 9 o0)]) rfl (Nat.le_of_ble_eq_true rfl) ⟨Nat.le_of_ble_eq_true rfl, Nat.le_of_ble_eq_true rfl⟩ ⟨Nat.le_of_ble_eq_true rfl, Nat.le_of_ble_eq_true rfl⟩ dX9_setNodeWeight_33 (fun r33 M33 h => ?_)
      refine gg_iconst (pc := 36) cx (v := 5) dX9_setNodeWeight_36 (by decide) ?_
      refine gg_iadd (pc := 37) cx dX9_setNodeWeight_37 ?_
      refine gg_iload_n (pc := 38) cx 2 rfl dX9_setNodeWeight_38 rfl ?_
      refine gg_callVi (pc := 39) cx cal_X9_sets calv_X9_sets (ct_X9_sets cx.tr hM v0 h) tw_1435 (hM 9 _ rfl v0) rfl rfl rfl (st := []) rfl (Nat.le_of_ble_eq_true rfl) ⟨Nat.le_of_ble_eq_true rfl, Nat.le_of_ble_eq_true rfl⟩ ⟨Nat.le_of_ble_eq_true rfl, Nat.le_of_ble_eq_true rfl⟩ dX9_setNodeWeight_39 (fun r39 M39 h => ?_)
      refine gg_goto (pc := 42) cx (tgt := 50) dX9_setNodeWeight_42 (by decide) ?_
      exact gg_iret (pc := 50) cx hQ h dX9_setNodeWeight_50
  · have h := g_it c10 h
    refine gg_aload_n (pc := 13) cx 0 rfl dX9_setNodeWeight_13 rfl ?_
    refine gg_iconst (pc := 14) cx (v := 1) dX9_setNodeWeight_14 (by decide) ?_
    refine gg_callVi (pc := 15) cx cal_X9_fails calv_X9_fails (ct_X9_fails cx.tr hM v0 h) tw_1377 (hM 9 _ rfl v0) rfl rfl rfl (st := []) rfl (Nat.le_of_ble_eq_true rfl) ⟨Nat.le_of_ble_eq_true rfl, Nat.le_of_ble_eq_true rfl⟩ ⟨Nat.le_of_ble_eq_true rfl, Nat.le_of_ble_eq_true rfl⟩ dX9_setNodeWeight_15 (fun r15 M15 h => ?_)
    exact gg_iret (pc := 18) cx hQ h dX9_setNodeWeight_18
set_option maxRecDepth 100000 in
set_option maxHeartbeats 4000000 in
theorem wk_X9_assign_b20 {t : gT} {X : gX} (cx : g_Cx t X cX9_assign 3 RX9 (some .int)) (hM : g_hM t) {K : Int32 → gM → Prop} (hQ : gXQ X = MQ (gXb X) (va_Qi K (g_B t) (g_A t)) (gXa X) (gXs X) rm_X9_assign.cells rm_X9_assign.slots (g_A t)) {o0 : Nat} {M : gM} (v0 : o0 < 1) (h : wp_X9_assign_b20 K o0 M) : G t rm_X9_assign X 3 0 0 M [(0, .ref (gAd t 9 o0))] [] 20 := by
  refine gg_aload_n (pc := 20) cx 0 rfl dX9_assign_20 rfl ?_
  refine gg_iconst (pc := 21) cx (v := 1) dX9_assign_21 (by decide) ?_
  refine gg_callVi (pc := 22) cx cal_X9_fails calv_X9_fails (ct_X9_fails cx.tr hM v0 h) tw_1377 (hM 9 _ rfl v0) rfl rfl rfl (st := []) rfl (Nat.le_of_ble_eq_true rfl) ⟨Nat.le_of_ble_eq_true rfl, Nat.le_of_ble_eq_true rfl⟩ ⟨Nat.le_of_ble_eq_true rfl, Nat.le_of_ble_eq_true rfl⟩ dX9_assign_22 (fun r22 M22 h => ?_)
  exact gg_iret (pc := 25) cx hQ h dX9_assign_25
theorem cal_X9_assign : g_Cal yX9_assign cX9_assign 3 (some .int) 2 := ⟨tw_17, tw_1446, by decide, by decide, by decide +kernel⟩
theorem calv_X9_assign : g_CalV yX9_assign := ⟨tw_1444, tw_1445⟩
set_option maxRecDepth 100000 in
set_option maxHeartbeats 4000000 in
theorem ct_X9_assign {l : Launch} (hl : l.stackTraces = false) {t : gT} (hM : g_hM t) {o0 : Nat} {x1 : Int32} {x2 : Int32} (v0 : o0 < 1) {M : gM} {K : Int32 → gM → Prop} (h : wp_X9_assign o0 x1 x2 M K) : Met l yX9_assign (g_y yX9_assign cX9_assign 3 (some .int)) rm_X9_assign (va_Pc [.ref (gAd t 9 o0), .int x1, .int x2] (g_Pre t M)) (va_Qi K (g_B t) (g_A t)) rm_X9_assign.cells rm_X9_assign.slots (g_A t) := by
  refine g_met hl rfl (Nat.le_of_ble_eq_true rfl) (fun X hlX cx hQ => ?_)
  subst hlX
  refine gg_aload_n (pc := 0) cx 0 rfl dX9_assign_0 rfl ?_
  refine gg_iconst (pc := 1) cx (v := 0) dX9_assign_1 (by decide) ?_
  refine gp_Model_thrown (pc := 2) cx (hM 9 _ rfl v0) tw_1310 dX9_assign_2 ?_
  refine gg_mem (fun M2 eM2 => ?_)
  have h := h M2 eM2
  refine gg_iload_n (pc := 5) cx 1 rfl dX9_assign_5 rfl ?_
  refine gg_callSi (pc := 6) cx cal_X9_isFlow tw_1431 (ct_X9_isFlow cx.tr hM  h) tw_1430 rfl (st := []) rfl (Nat.le_of_ble_eq_true rfl) ⟨Nat.le_of_ble_eq_true rfl, Nat.le_of_ble_eq_true rfl⟩ ⟨Nat.le_of_ble_eq_true rfl, Nat.le_of_ble_eq_true rfl⟩ dX9_assign_6 (fun r6 M6 h => ?_)
  refine gg_if_eq (pc := 9) cx (tgt := 20) dX9_assign_9 (by decide) (fun c9 => ?_) (fun c9 => ?_)
  · have h := g_it c9 h
    refine gg_lv (lv' := [(0, .ref (gAd t 9 o0))]) [0] rfl ?_
    exact wk_X9_assign_b20 cx hM hQ v0 h
  · have h := g_if c9 h
    refine gg_aload_n (pc := 12) cx 0 rfl dX9_assign_12 rfl ?_
    refine gg_iload_n (pc := 13) cx 2 rfl dX9_assign_13 rfl ?_
    refine gg_callVi (pc := 14) cx cal_X9_isNode calv_X9_isNode (ct_X9_isNode cx.tr hM v0 h) tw_1414 (hM 9 _ rfl v0) rfl rfl rfl (st := []) rfl (Nat.le_of_ble_eq_true rfl) ⟨Nat.le_of_ble_eq_true rfl, Nat.le_of_ble_eq_true rfl⟩ ⟨Nat.le_of_ble_eq_true rfl, Nat.le_of_ble_eq_true rfl⟩ dX9_assign_14 (fun r14 M14 h => ?_)
    refine gg_if_ne (pc := 17) cx (tgt := 26) dX9_assign_17 (by decide) (fun c17 => ?_) (fun c17 => ?_)
    · have h := g_if c17 h
      refine gg_aload_n (pc := 26) cx 0 rfl dX9_assign_26 rfl ?_
      refine gg_iload_n (pc := 27) cx 2 rfl dX9_assign_27 rfl ?_
      refine gg_callVi (pc := 28) cx cal_X9_isLeaf calv_X9_isLeaf (ct_X9_isLeaf cx.tr hM v0 h) tw_1302 (hM 9 _ rfl v0) rfl rfl rfl (st := []) rfl (Nat.le_of_ble_eq_true rfl) ⟨Nat.le_of_ble_eq_true rfl, Nat.le_of_ble_eq_true rfl⟩ ⟨Nat.le_of_ble_eq_true rfl, Nat.le_of_ble_eq_true rfl⟩ dX9_assign_28 (fun r28 M28 h => ?_)
      refine gg_if_eq (pc := 31) cx (tgt := 48) dX9_assign_31 (by decide) (fun c31 => ?_) (fun c31 => ?_)
      · have h := g_it c31 h
        refine gg_aload_n (pc := 48) cx 0 rfl dX9_assign_48 rfl ?_
        refine gg_iconst (pc := 49) cx (v := 2) dX9_assign_49 (by decide) ?_
        refine gg_callVi (pc := 50) cx cal_X9_fails calv_X9_fails (ct_X9_fails cx.tr hM v0 h) tw_1377 (hM 9 _ rfl v0) rfl rfl rfl (st := []) rfl (Nat.le_of_ble_eq_true rfl) ⟨Nat.le_of_ble_eq_true rfl, Nat.le_of_ble_eq_true rfl⟩ ⟨Nat.le_of_ble_eq_true rfl, Nat.le_of_ble_eq_true rfl⟩ dX9_assign_50 (fun r50 M50 h => ?_)
        exact gg_iret (pc := 53) cx hQ h dX9_assign_53
      · have h := g_if c31 h
        refine gg_aload_n (pc := 34) cx 0 rfl dX9_assign_34 rfl ?_
        refine gg_iload_n (pc := 35) cx 1 rfl dX9_assign_35 rfl ?_
        refine gg_callSi (pc := 36) cx cal_X9_flow tw_1297 (ct_X9_flow cx.tr hM  h) tw_1296 rfl (st := [.ref (gAd t 9 o0)]) rfl (Nat.le_of_ble_eq_true rfl) ⟨Nat.le_of_ble_eq_true rfl, Nat.le_of_ble_eq_true rfl⟩ ⟨Nat.le_of_ble_eq_true rfl, Nat.le_of_ble_eq_true rfl⟩ dX9_assign_36 (fun r36 M36 h => ?_)
        refine gg_iconst (pc := 39) cx (v := 1) dX9_assign_39 (by decide) ?_
        refine gg_iadd (pc := 40) cx dX9_assign_40 ?_
        refine gg_iload_n (pc := 41) cx 2 rfl dX9_assign_41 rfl ?_
        refine gg_callVi (pc := 42) cx cal_X9_sets calv_X9_sets (ct_X9_sets cx.tr hM v0 h) tw_1435 (hM 9 _ rfl v0) rfl rfl rfl (st := []) rfl (Nat.le_of_ble_eq_true rfl) ⟨Nat.le_of_ble_eq_true rfl, Nat.le_of_ble_eq_true rfl⟩ ⟨Nat.le_of_ble_eq_true rfl, Nat.le_of_ble_eq_true rfl⟩ dX9_assign_42 (fun r42 M42 h => ?_)
        refine gg_goto (pc := 45) cx (tgt := 53) dX9_assign_45 (by decide) ?_
        exact gg_iret (pc := 53) cx hQ h dX9_assign_53
    · have h := g_it c17 h
      refine gg_lv (lv' := [(0, .ref (gAd t 9 o0))]) [0] rfl ?_
      exact wk_X9_assign_b20 cx hM hQ v0 h
set_option maxRecDepth 100000 in
set_option maxHeartbeats 4000000 in
theorem wk_X9_ofFlow_b13 {t : gT} {X : gX} (cx : g_Cx t X cX9_ofFlow 3 RX9 (some .int)) (hM : g_hM t) {K : Int32 → gM → Prop} (hQ : gXQ X = MQ (gXb X) (va_Qi K (g_B t) (g_A t)) (gXa X) (gXs X) rm_X9_ofFlow.cells rm_X9_ofFlow.slots (g_A t)) {o0 : Nat} {x1 : Int32} {x2 : Int32} {os0 : Nat} {xs1 : Int32} {M : gM} (v0 : o0 < 1) (vs0 : os0 < 1) (h : wp_X9_ofFlow_b13 K o0 x1 x2 os0 xs1 M) : G t rm_X9_ofFlow X 3 0 0 M [(0, .ref (gAd t 9 o0)), (1, .int x1), (2, .int x2)] [.int xs1, .ref (gAd t 9 os0)] 13 := by
  refine gp_Model_thrown (pc := 13) cx (hM 9 _ rfl vs0) tw_1310 dX9_ofFlow_13 ?_
  refine gg_mem (fun M13 eM13 => ?_)
  have h := h M13 eM13
  refine gg_iload_n (pc := 16) cx 1 rfl dX9_ofFlow_16 rfl ?_
  refine gg_callSi (pc := 17) cx cal_X9_isFlow tw_1431 (ct_X9_isFlow cx.tr hM  h) tw_1430 rfl (st := []) rfl (Nat.le_of_ble_eq_true rfl) ⟨Nat.le_of_ble_eq_true rfl, Nat.le_of_ble_eq_true rfl⟩ ⟨Nat.le_of_ble_eq_true rfl, Nat.le_of_ble_eq_true rfl⟩ dX9_ofFlow_17 (fun r17 M17 h => ?_)
  refine gg_if_eq (pc := 20) cx (tgt := 38) dX9_ofFlow_20 (by decide) (fun c20 => ?_) (fun c20 => ?_)
  · have h := g_it c20 h
    refine gg_iconst (pc := 38) cx (v := 0) dX9_ofFlow_38 (by decide) ?_
    exact gg_iret (pc := 39) cx hQ h dX9_ofFlow_39
  · have h := g_if c20 h
    refine gg_aload_n (pc := 23) cx 0 rfl dX9_ofFlow_23 rfl ?_
    refine gf_Model_v (pc := 24) cx (hM 9 _ rfl v0) tw_1306 dX9_ofFlow_24 ?_
    refine gg_iload_n (pc := 27) cx 1 rfl dX9_ofFlow_27 rfl ?_
    refine gg_callSi (pc := 28) cx cal_X9_flow tw_1297 (ct_X9_flow cx.tr hM  h) tw_1296 rfl (st := [.ref (gAd t 47 o0)]) rfl (Nat.le_of_ble_eq_true rfl) ⟨Nat.le_of_ble_eq_true rfl, Nat.le_of_ble_eq_true rfl⟩ ⟨Nat.le_of_ble_eq_true rfl, Nat.le_of_ble_eq_true rfl⟩ dX9_ofFlow_28 (fun r28 M28 h => ?_)
    refine gg_iload_n (pc := 31) cx 2 rfl dX9_ofFlow_31 rfl ?_
    refine gg_iadd (pc := 32) cx dX9_ofFlow_32 ?_
    have q33 := h.1
    have h := h.2
    refine gg_lald (pc := 33) cx (hM 47 _ rfl v0) rfl q33 dX9_ofFlow_33 ?_
    refine gg_l2i (pc := 34) cx dX9_ofFlow_34 ?_
    refine gg_goto (pc := 35) cx (tgt := 39) dX9_ofFlow_35 (by decide) ?_
    exact gg_iret (pc := 39) cx hQ h dX9_ofFlow_39
theorem cal_X9_ofFlow : g_Cal yX9_ofFlow cX9_ofFlow 3 (some .int) 2 := ⟨tw_17, tw_1454, by decide, by decide, by decide +kernel⟩
theorem calv_X9_ofFlow : g_CalV yX9_ofFlow := ⟨tw_1453, ts_50⟩
set_option maxRecDepth 100000 in
set_option maxHeartbeats 4000000 in
theorem ct_X9_ofFlow {l : Launch} (hl : l.stackTraces = false) {t : gT} (hM : g_hM t) {o0 : Nat} {x1 : Int32} {x2 : Int32} (v0 : o0 < 1) {M : gM} {K : Int32 → gM → Prop} (h : wp_X9_ofFlow o0 x1 x2 M K) : Met l yX9_ofFlow (g_y yX9_ofFlow cX9_ofFlow 3 (some .int)) rm_X9_ofFlow (va_Pc [.ref (gAd t 9 o0), .int x1, .int x2] (g_Pre t M)) (va_Qi K (g_B t) (g_A t)) rm_X9_ofFlow.cells rm_X9_ofFlow.slots (g_A t) := by
  refine g_met hl rfl (Nat.le_of_ble_eq_true rfl) (fun X hlX cx hQ => ?_)
  subst hlX
  refine gg_aload_n (pc := 0) cx 0 rfl dX9_ofFlow_0 rfl ?_
  refine gg_iload_n (pc := 1) cx 1 rfl dX9_ofFlow_1 rfl ?_
  refine gg_callSi (pc := 2) cx cal_X9_isFlow tw_1431 (ct_X9_isFlow cx.tr hM  h) tw_1430 rfl (st := [.ref (gAd t 9 o0)]) rfl (Nat.le_of_ble_eq_true rfl) ⟨Nat.le_of_ble_eq_true rfl, Nat.le_of_ble_eq_true rfl⟩ ⟨Nat.le_of_ble_eq_true rfl, Nat.le_of_ble_eq_true rfl⟩ dX9_ofFlow_2 (fun r2 M2 h => ?_)
  refine gg_if_eq (pc := 5) cx (tgt := 12) dX9_ofFlow_5 (by decide) (fun c5 => ?_) (fun c5 => ?_)
  · have h := g_it c5 h
    refine gg_iconst (pc := 12) cx (v := 1) dX9_ofFlow_12 (by decide) ?_
    exact wk_X9_ofFlow_b13 cx hM hQ v0 v0 h
  · have h := g_if c5 h
    refine gg_iconst (pc := 8) cx (v := 0) dX9_ofFlow_8 (by decide) ?_
    refine gg_goto (pc := 9) cx (tgt := 13) dX9_ofFlow_9 (by decide) ?_
    exact wk_X9_ofFlow_b13 cx hM hQ v0 v0 h
theorem cal_X9_leafOf : g_Cal yX9_leafOf cX9_leafOf 2 (some .int) 1 := ⟨tw_17, tw_1450, by decide, by decide, by decide +kernel⟩
theorem calv_X9_leafOf : g_CalV yX9_leafOf := ⟨tw_1448, tw_1449⟩
set_option maxRecDepth 100000 in
set_option maxHeartbeats 4000000 in
theorem ct_X9_leafOf {l : Launch} (hl : l.stackTraces = false) {t : gT} (hM : g_hM t) {o0 : Nat} {x1 : Int32} (v0 : o0 < 1) {M : gM} {K : Int32 → gM → Prop} (h : wp_X9_leafOf o0 x1 M K) : Met l yX9_leafOf (g_y yX9_leafOf cX9_leafOf 2 (some .int)) rm_X9_leafOf (va_Pc [.ref (gAd t 9 o0), .int x1] (g_Pre t M)) (va_Qi K (g_B t) (g_A t)) rm_X9_leafOf.cells rm_X9_leafOf.slots (g_A t) := by
  refine g_met hl rfl (Nat.le_of_ble_eq_true rfl) (fun X hlX cx hQ => ?_)
  subst hlX
  refine gg_aload_n (pc := 0) cx 0 rfl dX9_leafOf_0 rfl ?_
  refine gg_iload_n (pc := 1) cx 1 rfl dX9_leafOf_1 rfl ?_
  refine gg_iconst (pc := 2) cx (v := 1) dX9_leafOf_2 (by decide) ?_
  refine gg_callVi (pc := 3) cx cal_X9_ofFlow calv_X9_ofFlow (ct_X9_ofFlow cx.tr hM v0 h) tw_1451 (hM 9 _ rfl v0) rfl rfl rfl (st := []) rfl (Nat.le_of_ble_eq_true rfl) ⟨Nat.le_of_ble_eq_true rfl, Nat.le_of_ble_eq_true rfl⟩ ⟨Nat.le_of_ble_eq_true rfl, Nat.le_of_ble_eq_true rfl⟩ dX9_leafOf_3 (fun r3 M3 h => ?_)
  exact gg_iret (pc := 6) cx hQ h dX9_leafOf_6
theorem cal_X9_setLinkRate : g_Cal yX9_setLinkRate cX9_setLinkRate 2 (some .int) 1 := ⟨tw_17, tw_1458, by decide, by decide, by decide +kernel⟩
theorem calv_X9_setLinkRate : g_CalV yX9_setLinkRate := ⟨tw_1456, tw_1457⟩
set_option maxRecDepth 100000 in
set_option maxHeartbeats 4000000 in
theorem ct_X9_setLinkRate {l : Launch} (hl : l.stackTraces = false) {t : gT} (hM : g_hM t) {o0 : Nat} {x1 : Int32} (v0 : o0 < 1) {M : gM} {K : Int32 → gM → Prop} (h : wp_X9_setLinkRate o0 x1 M K) : Met l yX9_setLinkRate (g_y yX9_setLinkRate cX9_setLinkRate 2 (some .int)) rm_X9_setLinkRate (va_Pc [.ref (gAd t 9 o0), .int x1] (g_Pre t M)) (va_Qi K (g_B t) (g_A t)) rm_X9_setLinkRate.cells rm_X9_setLinkRate.slots (g_A t) := by
  refine g_met hl rfl (Nat.le_of_ble_eq_true rfl) (fun X hlX cx hQ => ?_)
  subst hlX
  refine gg_aload_n (pc := 0) cx 0 rfl dX9_setLinkRate_0 rfl ?_
  refine gg_iconst (pc := 1) cx (v := 0) dX9_setLinkRate_1 (by decide) ?_
  refine gp_Model_thrown (pc := 2) cx (hM 9 _ rfl v0) tw_1310 dX9_setLinkRate_2 ?_
  refine gg_mem (fun M2 eM2 => ?_)
  have h := h M2 eM2
  refine gg_iload_n (pc := 5) cx 1 rfl dX9_setLinkRate_5 rfl ?_
  refine gg_i2l (pc := 6) cx dX9_setLinkRate_6 ?_
  refine gg_lconst (pc := 7) cx (v := 1) dX9_setLinkRate_7 (by decide) ?_
  refine gg_ldc2 (pc := 8) cx (v := 9999) tw_1193 dX9_setLinkRate_8 ?_
  refine gg_callSi (pc := 11) cx cal_X9_in tw_1225 (ct_X9_in cx.tr hM  h) tw_1224 rfl (st := []) rfl (Nat.le_of_ble_eq_true rfl) ⟨Nat.le_of_ble_eq_true rfl, Nat.le_of_ble_eq_true rfl⟩ ⟨Nat.le_of_ble_eq_true rfl, Nat.le_of_ble_eq_true rfl⟩ dX9_setLinkRate_11 (fun r11 M11 h => ?_)
  refine gg_if_eq (pc := 14) cx (tgt := 26) dX9_setLinkRate_14 (by decide) (fun c14 => ?_) (fun c14 => ?_)
  · have h := g_it c14 h
    refine gg_aload_n (pc := 26) cx 0 rfl dX9_setLinkRate_26 rfl ?_
    refine gg_iconst (pc := 27) cx (v := 1) dX9_setLinkRate_27 (by decide) ?_
    refine gg_callVi (pc := 28) cx cal_X9_fails calv_X9_fails (ct_X9_fails cx.tr hM v0 h) tw_1377 (hM 9 _ rfl v0) rfl rfl rfl (st := []) rfl (Nat.le_of_ble_eq_true rfl) ⟨Nat.le_of_ble_eq_true rfl, Nat.le_of_ble_eq_true rfl⟩ ⟨Nat.le_of_ble_eq_true rfl, Nat.le_of_ble_eq_true rfl⟩ dX9_setLinkRate_28 (fun r28 M28 h => ?_)
    exact gg_iret (pc := 31) cx hQ h dX9_setLinkRate_31
  · have h := g_if c14 h
    refine gg_aload_n (pc := 17) cx 0 rfl dX9_setLinkRate_17 rfl ?_
    refine gg_iconst (pc := 18) cx (v := 1) dX9_setLinkRate_18 (by decide) ?_
    refine gg_iload_n (pc := 19) cx 1 rfl dX9_setLinkRate_19 rfl ?_
    refine gg_callVi (pc := 20) cx cal_X9_sets calv_X9_sets (ct_X9_sets cx.tr hM v0 h) tw_1435 (hM 9 _ rfl v0) rfl rfl rfl (st := []) rfl (Nat.le_of_ble_eq_true rfl) ⟨Nat.le_of_ble_eq_true rfl, Nat.le_of_ble_eq_true rfl⟩ ⟨Nat.le_of_ble_eq_true rfl, Nat.le_of_ble_eq_true rfl⟩ dX9_setLinkRate_20 (fun r20 M20 h => ?_)
    refine gg_goto (pc := 23) cx (tgt := 31) dX9_setLinkRate_23 (by decide) ?_
    exact gg_iret (pc := 31) cx hQ h dX9_setLinkRate_31
theorem cal_X9_isPacketLike : g_Cal yX9_isPacketLike cX9_isPacketLike 3 (some .boolean) 3 := ⟨tw_17, tw_1465, by decide, by decide, by decide +kernel⟩
set_option maxRecDepth 100000 in
set_option maxHeartbeats 4000000 in
theorem ct_X9_isPacketLike {l : Launch} (hl : l.stackTraces = false) {t : gT} (hM : g_hM t) {x0 : Int32} {x1 : Int32} {x2 : Int32}  {M : gM} {K : Int32 → gM → Prop} (h : wp_X9_isPacketLike x0 x1 x2 M K) : Met l yX9_isPacketLike (g_y yX9_isPacketLike cX9_isPacketLike 3 (some .boolean)) rm_X9_isPacketLike (va_Pc [.int x0, .int x1, .int x2] (g_Pre t M)) (va_Qi K (g_B t) (g_A t)) rm_X9_isPacketLike.cells rm_X9_isPacketLike.slots (g_A t) := by
  refine g_met hl rfl (Nat.le_of_ble_eq_true rfl) (fun X hlX cx hQ => ?_)
  subst hlX
  refine gg_iload_n (pc := 0) cx 0 rfl dX9_isPacketLike_0 rfl ?_
  refine gg_i2l (pc := 1) cx dX9_isPacketLike_1 ?_
  refine gg_lconst (pc := 2) cx (v := 1) dX9_isPacketLike_2 (by decide) ?_
  refine gg_ldc2 (pc := 3) cx (v := 1500) tw_1466 dX9_isPacketLike_3 ?_
  refine gg_callSi (pc := 6) cx cal_X9_in tw_1225 (ct_X9_in cx.tr hM  h) tw_1224 rfl (st := []) rfl (Nat.le_of_ble_eq_true rfl) ⟨Nat.le_of_ble_eq_true rfl, Nat.le_of_ble_eq_true rfl⟩ ⟨Nat.le_of_ble_eq_true rfl, Nat.le_of_ble_eq_true rfl⟩ dX9_isPacketLike_6 (fun r6 M6 h => ?_)
  refine gg_if_eq (pc := 9) cx (tgt := 40) dX9_isPacketLike_9 (by decide) (fun c9 => ?_) (fun c9 => ?_)
  · have h := g_it c9 h
    refine gg_iconst (pc := 40) cx (v := 0) dX9_isPacketLike_40 (by decide) ?_
    exact gg_zret (pc := 41) cx hQ rfl h dX9_isPacketLike_41
  · have h := g_if c9 h
    refine gg_iload_n (pc := 12) cx 1 rfl dX9_isPacketLike_12 rfl ?_
    refine gg_i2l (pc := 13) cx dX9_isPacketLike_13 ?_
    refine gg_lconst (pc := 14) cx (v := 0) dX9_isPacketLike_14 (by decide) ?_
    refine gg_ldc2 (pc := 15) cx (v := 9) tw_1467 dX9_isPacketLike_15 ?_
    refine gg_callSi (pc := 18) cx cal_X9_in tw_1225 (ct_X9_in cx.tr hM  h) tw_1224 rfl (st := []) rfl (Nat.le_of_ble_eq_true rfl) ⟨Nat.le_of_ble_eq_true rfl, Nat.le_of_ble_eq_true rfl⟩ ⟨Nat.le_of_ble_eq_true rfl, Nat.le_of_ble_eq_true rfl⟩ dX9_isPacketLike_18 (fun r18 M18 h => ?_)
    refine gg_if_eq (pc := 21) cx (tgt := 40) dX9_isPacketLike_21 (by decide) (fun c21 => ?_) (fun c21 => ?_)
    · have h := g_it c21 h
      refine gg_iconst (pc := 40) cx (v := 0) dX9_isPacketLike_40 (by decide) ?_
      exact gg_zret (pc := 41) cx hQ rfl h dX9_isPacketLike_41
    · have h := g_if c21 h
      refine gg_iload_n (pc := 24) cx 2 rfl dX9_isPacketLike_24 rfl ?_
      refine gg_i2l (pc := 25) cx dX9_isPacketLike_25 ?_
      refine gg_lconst (pc := 26) cx (v := 0) dX9_isPacketLike_26 (by decide) ?_
      refine gg_ldc2 (pc := 27) cx (v := 1000000) tw_1468 dX9_isPacketLike_27 ?_
      refine gg_callSi (pc := 30) cx cal_X9_in tw_1225 (ct_X9_in cx.tr hM  h) tw_1224 rfl (st := []) rfl (Nat.le_of_ble_eq_true rfl) ⟨Nat.le_of_ble_eq_true rfl, Nat.le_of_ble_eq_true rfl⟩ ⟨Nat.le_of_ble_eq_true rfl, Nat.le_of_ble_eq_true rfl⟩ dX9_isPacketLike_30 (fun r30 M30 h => ?_)
      refine gg_if_eq (pc := 33) cx (tgt := 40) dX9_isPacketLike_33 (by decide) (fun c33 => ?_) (fun c33 => ?_)
      · have h := g_it c33 h
        refine gg_iconst (pc := 40) cx (v := 0) dX9_isPacketLike_40 (by decide) ?_
        exact gg_zret (pc := 41) cx hQ rfl h dX9_isPacketLike_41
      · have h := g_if c33 h
        refine gg_iconst (pc := 36) cx (v := 1) dX9_isPacketLike_36 (by decide) ?_
        refine gg_goto (pc := 37) cx (tgt := 41) dX9_isPacketLike_37 (by decide) ?_
        exact gg_zret (pc := 41) cx hQ rfl h dX9_isPacketLike_41
set_option maxRecDepth 100000 in
set_option maxHeartbeats 4000000 in
theorem wk_X9_enqueue_b61 {t : gT} {X : gX} (cx : g_Cx t X cX9_enqueue 7 RX9 (some .int)) (hM : g_hM t) {K : Int32 → gM → Prop} (hQ : gXQ X = MQ (gXb X) (va_Qi K (g_B t) (g_A t)) (gXa X) (gXs X) rm_X9_enqueue.cells rm_X9_enqueue.slots (g_A t)) {o0 : Nat} {M : gM} (v0 : o0 < 1) (h : wp_X9_enqueue_b61 K o0 M) : G t rm_X9_enqueue X 7 0 0 M [(0, .ref (gAd t 9 o0))] [] 61 := by
  refine gg_aload_n (pc := 61) cx 0 rfl dX9_enqueue_61 rfl ?_
  refine gg_iconst (pc := 62) cx (v := 3) dX9_enqueue_62 (by decide) ?_
  refine gg_callVi (pc := 63) cx cal_X9_fails calv_X9_fails (ct_X9_fails cx.tr hM v0 h) tw_1377 (hM 9 _ rfl v0) rfl rfl rfl (st := []) rfl (Nat.le_of_ble_eq_true rfl) ⟨Nat.le_of_ble_eq_true rfl, Nat.le_of_ble_eq_true rfl⟩ ⟨Nat.le_of_ble_eq_true rfl, Nat.le_of_ble_eq_true rfl⟩ dX9_enqueue_63 (fun r63 M63 h => ?_)
  exact gg_iret (pc := 66) cx hQ h dX9_enqueue_66
theorem cal_X9_enqueue : g_Cal yX9_enqueue cX9_enqueue 7 (some .int) 4 := ⟨tw_17, tw_1462, by decide, by decide, by decide +kernel⟩
theorem calv_X9_enqueue : g_CalV yX9_enqueue := ⟨tw_1460, tw_1461⟩
set_option maxRecDepth 100000 in
set_option maxHeartbeats 4000000 in
theorem ct_X9_enqueue {l : Launch} (hl : l.stackTraces = false) {t : gT} (hM : g_hM t) {o0 : Nat} {x1 : Int32} {x2 : Int32} {x3 : Int32} {x4 : Int32} (v0 : o0 < 1) {M : gM} {K : Int32 → gM → Prop} (h : wp_X9_enqueue o0 x1 x2 x3 x4 M K) : Met l yX9_enqueue (g_y yX9_enqueue cX9_enqueue 7 (some .int)) rm_X9_enqueue (va_Pc [.ref (gAd t 9 o0), .int x1, .int x2, .int x3, .int x4] (g_Pre t M)) (va_Qi K (g_B t) (g_A t)) rm_X9_enqueue.cells rm_X9_enqueue.slots (g_A t) := by
  refine g_met hl rfl (Nat.le_of_ble_eq_true rfl) (fun X hlX cx hQ => ?_)
  subst hlX
  refine gg_aload_n (pc := 0) cx 0 rfl dX9_enqueue_0 rfl ?_
  refine gg_iconst (pc := 1) cx (v := 0) dX9_enqueue_1 (by decide) ?_
  refine gp_Model_thrown (pc := 2) cx (hM 9 _ rfl v0) tw_1310 dX9_enqueue_2 ?_
  refine gg_mem (fun M2 eM2 => ?_)
  have h := h M2 eM2
  refine gg_iload_n (pc := 5) cx 1 rfl dX9_enqueue_5 rfl ?_
  refine gg_callSi (pc := 6) cx cal_X9_isFlow tw_1431 (ct_X9_isFlow cx.tr hM  h) tw_1430 rfl (st := []) rfl (Nat.le_of_ble_eq_true rfl) ⟨Nat.le_of_ble_eq_true rfl, Nat.le_of_ble_eq_true rfl⟩ ⟨Nat.le_of_ble_eq_true rfl, Nat.le_of_ble_eq_true rfl⟩ dX9_enqueue_6 (fun r6 M6 h => ?_)
  refine gg_if_ne (pc := 9) cx (tgt := 18) dX9_enqueue_9 (by decide) (fun c9 => ?_) (fun c9 => ?_)
  · have h := g_if c9 h
    refine gg_iload_n (pc := 18) cx 2 rfl dX9_enqueue_18 rfl ?_
    refine gg_iload_n (pc := 19) cx 3 rfl dX9_enqueue_19 rfl ?_
    refine gg_iload (pc := 20) cx 4 rfl dX9_enqueue_20 ?_
    refine gg_callSi (pc := 22) cx cal_X9_isPacketLike tw_1464 (ct_X9_isPacketLike cx.tr hM  h) tw_1463 rfl (st := []) rfl (Nat.le_of_ble_eq_true rfl) ⟨Nat.le_of_ble_eq_true rfl, Nat.le_of_ble_eq_true rfl⟩ ⟨Nat.le_of_ble_eq_true rfl, Nat.le_of_ble_eq_true rfl⟩ dX9_enqueue_22 (fun r22 M22 h => ?_)
    refine gg_if_ne (pc := 25) cx (tgt := 34) dX9_enqueue_25 (by decide) (fun c25 => ?_) (fun c25 => ?_)
    · have h := g_if c25 h
      refine gg_aload_n (pc := 34) cx 0 rfl dX9_enqueue_34 rfl ?_
      refine gf_Model_v (pc := 35) cx (hM 9 _ rfl v0) tw_1306 dX9_enqueue_35 ?_
      refine gg_bipush (pc := 38) cx (v := 7) dX9_enqueue_38 (by decide) ?_
      have q40 := h.1
      have h := h.2
      refine gg_lald (pc := 40) cx (hM 47 _ rfl v0) rfl q40 dX9_enqueue_40 ?_
      refine gg_ldc2 (pc := 41) cx (v := 64) tw_1469 dX9_enqueue_41 ?_
      refine gg_lcmp_eq (pc := 44) cx (tgt := 61) dX9_enqueue_44 dX9_enqueue_45 (by decide) (fun c44 => ?_) (fun c44 => ?_)
      · have h := g_it c44 h
        refine gg_lv (lv' := [(0, .ref (gAd t 9 o0))]) [0] rfl ?_
        exact wk_X9_enqueue_b61 cx hM hQ v0 h
      · have h := g_if c44 h
        refine gg_aload_n (pc := 48) cx 0 rfl dX9_enqueue_48 rfl ?_
        refine gf_Model_v (pc := 49) cx (hM 9 _ rfl v0) tw_1306 dX9_enqueue_49 ?_
        refine gg_iconst (pc := 52) cx (v := 3) dX9_enqueue_52 (by decide) ?_
        have q53 := h.1
        have h := h.2
        refine gg_lald (pc := 53) cx (hM 47 _ rfl v0) rfl q53 dX9_enqueue_53 ?_
        refine gg_ldc2 (pc := 54) cx (v := 500) tw_1470 dX9_enqueue_54 ?_
        refine gg_lcmp_ne (pc := 57) cx (tgt := 67) dX9_enqueue_57 dX9_enqueue_58 (by decide) (fun c57 => ?_) (fun c57 => ?_)
        · have h := g_if c57 h
          refine gg_aload_n (pc := 67) cx 0 rfl dX9_enqueue_67 rfl ?_
          refine gf_Model_v (pc := 68) cx (hM 9 _ rfl v0) tw_1306 dX9_enqueue_68 ?_
          refine gg_iconst (pc := 71) cx (v := 3) dX9_enqueue_71 (by decide) ?_
          have q72 := h.1
          have h := h.2
          refine gg_lald (pc := 72) cx (hM 47 _ rfl v0) rfl q72 dX9_enqueue_72 ?_
          refine gg_l2i (pc := 73) cx dX9_enqueue_73 ?_
          refine gg_topi (fun n74 en74 => ?_)
          have h := h n74 en74
          refine gg_istore (pc := 74) cx [(5, .int n74), (0, .ref (gAd t 9 o0)), (1, .int x1), (2, .int x2), (3, .int x3), (4, .int x4)] dX9_enqueue_74 (by decide) rfl ?_
          refine gg_aload_n (pc := 76) cx 1 rfl dX9_enqueue_76 rfl ?_
          refine gf_Model_v (pc := 77) cx (hM 9 _ rfl v0) tw_1306 dX9_enqueue_77 ?_
          refine gg_iload (pc := 80) cx 0 rfl dX9_enqueue_80 ?_
          refine gg_callSi (pc := 82) cx cal_X9_packet tw_1472 (ct_X9_packet cx.tr hM  h) tw_1471 rfl (st := [.ref (gAd t 47 o0)]) rfl (Nat.le_of_ble_eq_true rfl) ⟨Nat.le_of_ble_eq_true rfl, Nat.le_of_ble_eq_true rfl⟩ ⟨Nat.le_of_ble_eq_true rfl, Nat.le_of_ble_eq_true rfl⟩ dX9_enqueue_82 (fun r82 M82 h => ?_)
          refine gg_iconst (pc := 85) cx (v := 0) dX9_enqueue_85 (by decide) ?_
          refine gg_iadd (pc := 86) cx dX9_enqueue_86 ?_
          refine gg_iload_n (pc := 87) cx 2 rfl dX9_enqueue_87 rfl ?_
          refine gg_i2l (pc := 88) cx dX9_enqueue_88 ?_
          have q89 := h.1
          have h := h.2
          refine gg_last (pc := 89) cx (hM 47 _ rfl v0) (fun _ _ => rfl) q89 dX9_enqueue_89 ?_
          refine gg_mem (fun M89 eM89 => ?_)
          have h := h M89 eM89
          refine gg_aload_n (pc := 90) cx 1 rfl dX9_enqueue_90 rfl ?_
          refine gf_Model_v (pc := 91) cx (hM 9 _ rfl v0) tw_1306 dX9_enqueue_91 ?_
          refine gg_iload (pc := 94) cx 0 rfl dX9_enqueue_94 ?_
          refine gg_callSi (pc := 96) cx cal_X9_packet tw_1472 (ct_X9_packet cx.tr hM  h) tw_1471 rfl (st := [.ref (gAd t 47 o0)]) rfl (Nat.le_of_ble_eq_true rfl) ⟨Nat.le_of_ble_eq_true rfl, Nat.le_of_ble_eq_true rfl⟩ ⟨Nat.le_of_ble_eq_true rfl, Nat.le_of_ble_eq_true rfl⟩ dX9_enqueue_96 (fun r96 M96 h => ?_)
          refine gg_iconst (pc := 99) cx (v := 1) dX9_enqueue_99 (by decide) ?_
          refine gg_iadd (pc := 100) cx dX9_enqueue_100 ?_
          refine gg_iload_n (pc := 101) cx 3 rfl dX9_enqueue_101 rfl ?_
          refine gg_i2l (pc := 102) cx dX9_enqueue_102 ?_
          have q103 := h.1
          have h := h.2
          refine gg_last (pc := 103) cx (hM 47 _ rfl v0) (fun _ _ => rfl) q103 dX9_enqueue_103 ?_
          refine gg_mem (fun M103 eM103 => ?_)
          have h := h M103 eM103
          refine gg_aload_n (pc := 104) cx 1 rfl dX9_enqueue_104 rfl ?_
          refine gf_Model_v (pc := 105) cx (hM 9 _ rfl v0) tw_1306 dX9_enqueue_105 ?_
          refine gg_iload (pc := 108) cx 0 rfl dX9_enqueue_108 ?_
          refine gg_callSi (pc := 110) cx cal_X9_packet tw_1472 (ct_X9_packet cx.tr hM  h) tw_1471 rfl (st := [.ref (gAd t 47 o0)]) rfl (Nat.le_of_ble_eq_true rfl) ⟨Nat.le_of_ble_eq_true rfl, Nat.le_of_ble_eq_true rfl⟩ ⟨Nat.le_of_ble_eq_true rfl, Nat.le_of_ble_eq_true rfl⟩ dX9_enqueue_110 (fun r110 M110 h => ?_)
          refine gg_iconst (pc := 113) cx (v := 2) dX9_enqueue_113 (by decide) ?_
          refine gg_iadd (pc := 114) cx dX9_enqueue_114 ?_
          refine gg_iload_n (pc := 115) cx 4 rfl dX9_enqueue_115 rfl ?_
          refine gg_i2l (pc := 116) cx dX9_enqueue_116 ?_
          have q117 := h.1
          have h := h.2
          refine gg_last (pc := 117) cx (hM 47 _ rfl v0) (fun _ _ => rfl) q117 dX9_enqueue_117 ?_
          refine gg_mem (fun M117 eM117 => ?_)
          have h := h M117 eM117
          refine gg_aload_n (pc := 118) cx 1 rfl dX9_enqueue_118 rfl ?_
          refine gf_Model_v (pc := 119) cx (hM 9 _ rfl v0) tw_1306 dX9_enqueue_119 ?_
          refine gg_iload (pc := 122) cx 0 rfl dX9_enqueue_122 ?_
          refine gg_callSi (pc := 124) cx cal_X9_packet tw_1472 (ct_X9_packet cx.tr hM  h) tw_1471 rfl (st := [.ref (gAd t 47 o0)]) rfl (Nat.le_of_ble_eq_true rfl) ⟨Nat.le_of_ble_eq_true rfl, Nat.le_of_ble_eq_true rfl⟩ ⟨Nat.le_of_ble_eq_true rfl, Nat.le_of_ble_eq_true rfl⟩ dX9_enqueue_124 (fun r124 M124 h => ?_)
          refine gg_iconst (pc := 127) cx (v := 3) dX9_enqueue_127 (by decide) ?_
          refine gg_iadd (pc := 128) cx dX9_enqueue_128 ?_
          refine gg_aload_n (pc := 129) cx 1 rfl dX9_enqueue_129 rfl ?_
          refine gf_Model_v (pc := 130) cx (hM 9 _ rfl v0) tw_1306 dX9_enqueue_130 ?_
          refine gg_iconst (pc := 133) cx (v := 0) dX9_enqueue_133 (by decide) ?_
          have q134 := h.1
          have h := h.2
          refine gg_lald (pc := 134) cx (hM 47 _ rfl v0) rfl q134 dX9_enqueue_134 ?_
          have q135 := h.1
          have h := h.2
          refine gg_last (pc := 135) cx (hM 47 _ rfl v0) (fun _ _ => rfl) q135 dX9_enqueue_135 ?_
          refine gg_mem (fun M135 eM135 => ?_)
          have h := h M135 eM135
          refine gg_aload_n (pc := 136) cx 1 rfl dX9_enqueue_136 rfl ?_
          refine gf_Model_v (pc := 137) cx (hM 9 _ rfl v0) tw_1306 dX9_enqueue_137 ?_
          refine gg_iload (pc := 140) cx 0 rfl dX9_enqueue_140 ?_
          refine gg_callSi (pc := 142) cx cal_X9_packet tw_1472 (ct_X9_packet cx.tr hM  h) tw_1471 rfl (st := [.ref (gAd t 47 o0)]) rfl (Nat.le_of_ble_eq_true rfl) ⟨Nat.le_of_ble_eq_true rfl, Nat.le_of_ble_eq_true rfl⟩ ⟨Nat.le_of_ble_eq_true rfl, Nat.le_of_ble_eq_true rfl⟩ dX9_enqueue_142 (fun r142 M142 h => ?_)
          refine gg_iconst (pc := 145) cx (v := 4) dX9_enqueue_145 (by decide) ?_
          refine gg_iadd (pc := 146) cx dX9_enqueue_146 ?_
          refine gg_aload_n (pc := 147) cx 1 rfl dX9_enqueue_147 rfl ?_
          refine gf_Model_v (pc := 148) cx (hM 9 _ rfl v0) tw_1306 dX9_enqueue_148 ?_
          refine gg_iconst (pc := 151) cx (v := 0) dX9_enqueue_151 (by decide) ?_
          have q152 := h.1
          have h := h.2
          refine gg_lald (pc := 152) cx (hM 47 _ rfl v0) rfl q152 dX9_enqueue_152 ?_
          refine gg_iload (pc := 153) cx 5 rfl dX9_enqueue_153 ?_
          refine gg_i2l (pc := 155) cx dX9_enqueue_155 ?_
          refine gg_ladd (pc := 156) cx dX9_enqueue_156 ?_
          have q157 := h.1
          have h := h.2
          refine gg_last (pc := 157) cx (hM 47 _ rfl v0) (fun _ _ => rfl) q157 dX9_enqueue_157 ?_
          refine gg_mem (fun M157 eM157 => ?_)
          have h := h M157 eM157
          refine gg_aload_n (pc := 158) cx 1 rfl dX9_enqueue_158 rfl ?_
          refine gf_Model_v (pc := 159) cx (hM 9 _ rfl v0) tw_1306 dX9_enqueue_159 ?_
          refine gg_iload (pc := 162) cx 0 rfl dX9_enqueue_162 ?_
          refine gg_callSi (pc := 164) cx cal_X9_packet tw_1472 (ct_X9_packet cx.tr hM  h) tw_1471 rfl (st := [.ref (gAd t 47 o0)]) rfl (Nat.le_of_ble_eq_true rfl) ⟨Nat.le_of_ble_eq_true rfl, Nat.le_of_ble_eq_true rfl⟩ ⟨Nat.le_of_ble_eq_true rfl, Nat.le_of_ble_eq_true rfl⟩ dX9_enqueue_164 (fun r164 M164 h => ?_)
          refine gg_iconst (pc := 167) cx (v := 5) dX9_enqueue_167 (by decide) ?_
          refine gg_iadd (pc := 168) cx dX9_enqueue_168 ?_
          refine gg_ldc2 (pc := 169) cx (v := (-1)) tw_1273 dX9_enqueue_169 ?_
          have q172 := h.1
          have h := h.2
          refine gg_last (pc := 172) cx (hM 47 _ rfl v0) (fun _ _ => rfl) q172 dX9_enqueue_172 ?_
          refine gg_mem (fun M172 eM172 => ?_)
          have h := h M172 eM172
          refine gg_aload_n (pc := 173) cx 1 rfl dX9_enqueue_173 rfl ?_
          refine gf_Model_v (pc := 174) cx (hM 9 _ rfl v0) tw_1306 dX9_enqueue_174 ?_
          refine gg_iload (pc := 177) cx 0 rfl dX9_enqueue_177 ?_
          refine gg_callSi (pc := 179) cx cal_X9_packet tw_1472 (ct_X9_packet cx.tr hM  h) tw_1471 rfl (st := [.ref (gAd t 47 o0)]) rfl (Nat.le_of_ble_eq_true rfl) ⟨Nat.le_of_ble_eq_true rfl, Nat.le_of_ble_eq_true rfl⟩ ⟨Nat.le_of_ble_eq_true rfl, Nat.le_of_ble_eq_true rfl⟩ dX9_enqueue_179 (fun r179 M179 h => ?_)
          refine gg_bipush (pc := 182) cx (v := 6) dX9_enqueue_182 (by decide) ?_
          refine gg_iadd (pc := 184) cx dX9_enqueue_184 ?_
          refine gg_lconst (pc := 185) cx (v := 1) dX9_enqueue_185 (by decide) ?_
          have q186 := h.1
          have h := h.2
          refine gg_last (pc := 186) cx (hM 47 _ rfl v0) (fun _ _ => rfl) q186 dX9_enqueue_186 ?_
          refine gg_mem (fun M186 eM186 => ?_)
          have h := h M186 eM186
          refine gg_aload_n (pc := 187) cx 1 rfl dX9_enqueue_187 rfl ?_
          refine gf_Model_v (pc := 188) cx (hM 9 _ rfl v0) tw_1306 dX9_enqueue_188 ?_
          refine gg_iconst (pc := 191) cx (v := 3) dX9_enqueue_191 (by decide) ?_
          refine gg_dup2 (pc := 192) cx dX9_enqueue_192 rfl rfl ?_
          have q193 := h.1
          have h := h.2
          refine gg_lald (pc := 193) cx (hM 47 _ rfl v0) rfl q193 dX9_enqueue_193 ?_
          refine gg_lconst (pc := 194) cx (v := 1) dX9_enqueue_194 (by decide) ?_
          refine gg_ladd (pc := 195) cx dX9_enqueue_195 ?_
          have q196 := h.1
          have h := h.2
          refine gg_last (pc := 196) cx (hM 47 _ rfl v0) (fun _ _ => rfl) q196 dX9_enqueue_196 ?_
          refine gg_mem (fun M196 eM196 => ?_)
          have h := h M196 eM196
          refine gg_aload_n (pc := 197) cx 1 rfl dX9_enqueue_197 rfl ?_
          refine gf_Model_v (pc := 198) cx (hM 9 _ rfl v0) tw_1306 dX9_enqueue_198 ?_
          refine gg_bipush (pc := 201) cx (v := 7) dX9_enqueue_201 (by decide) ?_
          refine gg_dup2 (pc := 203) cx dX9_enqueue_203 rfl rfl ?_
          have q204 := h.1
          have h := h.2
          refine gg_lald (pc := 204) cx (hM 47 _ rfl v0) rfl q204 dX9_enqueue_204 ?_
          refine gg_lconst (pc := 205) cx (v := 1) dX9_enqueue_205 (by decide) ?_
          refine gg_ladd (pc := 206) cx dX9_enqueue_206 ?_
          have q207 := h.1
          have h := h.2
          refine gg_last (pc := 207) cx (hM 47 _ rfl v0) (fun _ _ => rfl) q207 dX9_enqueue_207 ?_
          refine gg_mem (fun M207 eM207 => ?_)
          have h := h M207 eM207
          refine gg_aload_n (pc := 208) cx 1 rfl dX9_enqueue_208 rfl ?_
          refine gf_Model_v (pc := 209) cx (hM 9 _ rfl v0) tw_1306 dX9_enqueue_209 ?_
          refine gg_iload_n (pc := 212) cx 2 rfl dX9_enqueue_212 rfl ?_
          refine gg_callSi (pc := 213) cx cal_X9_flow tw_1297 (ct_X9_flow cx.tr hM  h) tw_1296 rfl (st := [.ref (gAd t 47 o0)]) rfl (Nat.le_of_ble_eq_true rfl) ⟨Nat.le_of_ble_eq_true rfl, Nat.le_of_ble_eq_true rfl⟩ ⟨Nat.le_of_ble_eq_true rfl, Nat.le_of_ble_eq_true rfl⟩ dX9_enqueue_213 (fun r213 M213 h => ?_)
          refine gg_iconst (pc := 216) cx (v := 1) dX9_enqueue_216 (by decide) ?_
          refine gg_iadd (pc := 217) cx dX9_enqueue_217 ?_
          have q218 := h.1
          have h := h.2
          refine gg_lald (pc := 218) cx (hM 47 _ rfl v0) rfl q218 dX9_enqueue_218 ?_
          refine gg_l2i (pc := 219) cx dX9_enqueue_219 ?_
          refine gg_topi (fun n220 en220 => ?_)
          have h := h n220 en220
          refine gg_istore (pc := 220) cx [(6, .int n220), (5, .int n74), (0, .ref (gAd t 9 o0)), (1, .int x1), (2, .int x2), (3, .int x3), (4, .int x4)] dX9_enqueue_220 (by decide) rfl ?_
          refine gg_aload_n (pc := 222) cx 2 rfl dX9_enqueue_222 rfl ?_
          refine gg_iload (pc := 223) cx 0 rfl dX9_enqueue_223 ?_
          refine gg_iload (pc := 225) cx 1 rfl dX9_enqueue_225 ?_
          refine gg_iload_n (pc := 227) cx 3 rfl dX9_enqueue_227 rfl ?_
          refine gg_aload_n (pc := 228) cx 2 rfl dX9_enqueue_228 rfl ?_
          refine gf_Model_v (pc := 229) cx (hM 9 _ rfl v0) tw_1306 dX9_enqueue_229 ?_
          refine gg_iload_n (pc := 232) cx 3 rfl dX9_enqueue_232 rfl ?_
          refine gg_callSi (pc := 233) cx cal_X9_flow tw_1297 (ct_X9_flow cx.tr hM  h) tw_1296 rfl (st := [.ref (gAd t 47 o0), .int x1, .int n74, .int n220, .ref (gAd t 9 o0)]) rfl (Nat.le_of_ble_eq_true rfl) ⟨Nat.le_of_ble_eq_true rfl, Nat.le_of_ble_eq_true rfl⟩ ⟨Nat.le_of_ble_eq_true rfl, Nat.le_of_ble_eq_true rfl⟩ dX9_enqueue_233 (fun r233 M233 h => ?_)
          refine gg_iconst (pc := 236) cx (v := 0) dX9_enqueue_236 (by decide) ?_
          refine gg_iadd (pc := 237) cx dX9_enqueue_237 ?_
          have q238 := h.1
          have h := h.2
          refine gg_lald (pc := 238) cx (hM 47 _ rfl v0) rfl q238 dX9_enqueue_238 ?_
          refine gg_iload (pc := 239) cx 1 rfl dX9_enqueue_239 ?_
          refine gg_aload_n (pc := 241) cx 2 rfl dX9_enqueue_241 rfl ?_
          refine gf_Model_v (pc := 242) cx (hM 9 _ rfl v0) tw_1306 dX9_enqueue_242 ?_
          refine gg_iconst (pc := 245) cx (v := 0) dX9_enqueue_245 (by decide) ?_
          have q246 := h.1
          have h := h.2
          refine gg_lald (pc := 246) cx (hM 47 _ rfl v0) rfl q246 dX9_enqueue_246 ?_
          refine gg_callVv (pc := 247) cx cal_X9_enters calv_X9_enters (ct_X9_enters cx.tr hM v0 h) tw_1474 (hM 9 _ rfl v0) rfl rfl rfl (st := []) rfl (Nat.le_of_ble_eq_true rfl) ⟨Nat.le_of_ble_eq_true rfl, Nat.le_of_ble_eq_true rfl⟩ ⟨Nat.le_of_ble_eq_true rfl, Nat.le_of_ble_eq_true rfl⟩ dX9_enqueue_247 (fun M247 h => ?_)
          refine gg_aload_n (pc := 250) cx 2 rfl dX9_enqueue_250 rfl ?_
          refine gg_iload (pc := 251) cx 0 rfl dX9_enqueue_251 ?_
          refine gg_iload (pc := 253) cx 1 rfl dX9_enqueue_253 ?_
          refine gg_aload_n (pc := 255) cx 2 rfl dX9_enqueue_255 rfl ?_
          refine gf_Model_v (pc := 256) cx (hM 9 _ rfl v0) tw_1306 dX9_enqueue_256 ?_
          refine gg_iconst (pc := 259) cx (v := 0) dX9_enqueue_259 (by decide) ?_
          have q260 := h.1
          have h := h.2
          refine gg_lald (pc := 260) cx (hM 47 _ rfl v0) rfl q260 dX9_enqueue_260 ?_
          refine gg_callVv (pc := 261) cx cal_X9_climbs calv_X9_climbs (ct_X9_climbs cx.tr hM v0 h) tw_1496 (hM 9 _ rfl v0) rfl rfl rfl (st := []) rfl (Nat.le_of_ble_eq_true rfl) ⟨Nat.le_of_ble_eq_true rfl, Nat.le_of_ble_eq_true rfl⟩ ⟨Nat.le_of_ble_eq_true rfl, Nat.le_of_ble_eq_true rfl⟩ dX9_enqueue_261 (fun M261 h => ?_)
          refine gg_iload (pc := 264) cx 1 rfl dX9_enqueue_264 ?_
          exact gg_iret (pc := 266) cx hQ h dX9_enqueue_266
        · have h := g_it c57 h
          refine gg_lv (lv' := [(0, .ref (gAd t 9 o0))]) [0] rfl ?_
          exact wk_X9_enqueue_b61 cx hM hQ v0 h
    · have h := g_it c25 h
      refine gg_aload_n (pc := 28) cx 0 rfl dX9_enqueue_28 rfl ?_
      refine gg_iconst (pc := 29) cx (v := 2) dX9_enqueue_29 (by decide) ?_
      refine gg_callVi (pc := 30) cx cal_X9_fails calv_X9_fails (ct_X9_fails cx.tr hM v0 h) tw_1377 (hM 9 _ rfl v0) rfl rfl rfl (st := []) rfl (Nat.le_of_ble_eq_true rfl) ⟨Nat.le_of_ble_eq_true rfl, Nat.le_of_ble_eq_true rfl⟩ ⟨Nat.le_of_ble_eq_true rfl, Nat.le_of_ble_eq_true rfl⟩ dX9_enqueue_30 (fun r30 M30 h => ?_)
      exact gg_iret (pc := 33) cx hQ h dX9_enqueue_33
  · have h := g_it c9 h
    refine gg_aload_n (pc := 12) cx 0 rfl dX9_enqueue_12 rfl ?_
    refine gg_iconst (pc := 13) cx (v := 1) dX9_enqueue_13 (by decide) ?_
    refine gg_callVi (pc := 14) cx cal_X9_fails calv_X9_fails (ct_X9_fails cx.tr hM v0 h) tw_1377 (hM 9 _ rfl v0) rfl rfl rfl (st := []) rfl (Nat.le_of_ble_eq_true rfl) ⟨Nat.le_of_ble_eq_true rfl, Nat.le_of_ble_eq_true rfl⟩ ⟨Nat.le_of_ble_eq_true rfl, Nat.le_of_ble_eq_true rfl⟩ dX9_enqueue_14 (fun r14 M14 h => ?_)
    exact gg_iret (pc := 17) cx hQ h dX9_enqueue_17
theorem cal_X9_dequeue : g_Cal yX9_dequeue cX9_dequeue 2 (some .int) 0 := ⟨tw_17, tw_1511, by decide, by decide, by decide +kernel⟩
theorem calv_X9_dequeue : g_CalV yX9_dequeue := ⟨tw_1509, tw_1510⟩
set_option maxRecDepth 100000 in
set_option maxHeartbeats 4000000 in
theorem ct_X9_dequeue {l : Launch} (hl : l.stackTraces = false) {t : gT} (hM : g_hM t) {o0 : Nat} (v0 : o0 < 1) {M : gM} {K : Int32 → gM → Prop} (h : wp_X9_dequeue o0 M K) : Met l yX9_dequeue (g_y yX9_dequeue cX9_dequeue 2 (some .int)) rm_X9_dequeue (va_Pc [.ref (gAd t 9 o0)] (g_Pre t M)) (va_Qi K (g_B t) (g_A t)) rm_X9_dequeue.cells rm_X9_dequeue.slots (g_A t) := by
  refine g_met hl rfl (Nat.le_of_ble_eq_true rfl) (fun X hlX cx hQ => ?_)
  subst hlX
  refine gg_aload_n (pc := 0) cx 0 rfl dX9_dequeue_0 rfl ?_
  refine gg_iconst (pc := 1) cx (v := 0) dX9_dequeue_1 (by decide) ?_
  refine gp_Model_thrown (pc := 2) cx (hM 9 _ rfl v0) tw_1310 dX9_dequeue_2 ?_
  refine gg_mem (fun M2 eM2 => ?_)
  have h := h M2 eM2
  refine gg_aload_n (pc := 5) cx 0 rfl dX9_dequeue_5 rfl ?_
  refine gg_callVi (pc := 6) cx cal_X9_goes calv_X9_goes (ct_X9_goes cx.tr hM v0 h) tw_1512 (hM 9 _ rfl v0) rfl rfl rfl (st := []) rfl (Nat.le_of_ble_eq_true rfl) ⟨Nat.le_of_ble_eq_true rfl, Nat.le_of_ble_eq_true rfl⟩ ⟨Nat.le_of_ble_eq_true rfl, Nat.le_of_ble_eq_true rfl⟩ dX9_dequeue_6 (fun r6 M6 h => ?_)
  refine gg_istore_n (pc := 9) cx [(1, .int r6), (0, .ref (gAd t 9 o0))] dX9_dequeue_9 rfl (by decide) rfl ?_
  refine gg_iload_n (pc := 10) cx 0 rfl dX9_dequeue_10 rfl ?_
  refine gg_if_lt (pc := 11) cx (tgt := 25) dX9_dequeue_11 (by decide) (fun c11 => ?_) (fun c11 => ?_)
  · have h := g_it c11 h
    refine gg_iload_n (pc := 25) cx 0 rfl dX9_dequeue_25 rfl ?_
    exact gg_iret (pc := 26) cx hQ h dX9_dequeue_26
  · have h := g_if c11 h
    refine gg_aload_n (pc := 14) cx 1 rfl dX9_dequeue_14 rfl ?_
    refine gg_iload_n (pc := 15) cx 0 rfl dX9_dequeue_15 rfl ?_
    refine gg_aload_n (pc := 16) cx 1 rfl dX9_dequeue_16 rfl ?_
    refine gf_Model_v (pc := 17) cx (hM 9 _ rfl v0) tw_1306 dX9_dequeue_17 ?_
    refine gg_iconst (pc := 20) cx (v := 0) dX9_dequeue_20 (by decide) ?_
    have q21 := h.1
    have h := h.2
    refine gg_lald (pc := 21) cx (hM 47 _ rfl v0) rfl q21 dX9_dequeue_21 ?_
    refine gg_callVv (pc := 22) cx cal_X9_departs calv_X9_departs (ct_X9_departs cx.tr hM v0 h) tw_1534 (hM 9 _ rfl v0) rfl rfl rfl (st := []) rfl (Nat.le_of_ble_eq_true rfl) ⟨Nat.le_of_ble_eq_true rfl, Nat.le_of_ble_eq_true rfl⟩ ⟨Nat.le_of_ble_eq_true rfl, Nat.le_of_ble_eq_true rfl⟩ dX9_dequeue_22 (fun M22 h => ?_)
    refine gg_iload_n (pc := 25) cx 0 rfl dX9_dequeue_25 rfl ?_
    exact gg_iret (pc := 26) cx hQ h dX9_dequeue_26
theorem cal_X9_transmit : g_Cal yX9_transmit cX9_transmit 1 (some .int) 0 := ⟨tw_17, tw_1541, by decide, by decide, by decide +kernel⟩
theorem calv_X9_transmit : g_CalV yX9_transmit := ⟨tw_1539, tw_1540⟩
set_option maxRecDepth 100000 in
set_option maxHeartbeats 4000000 in
theorem ct_X9_transmit {l : Launch} (hl : l.stackTraces = false) {t : gT} (hM : g_hM t) {o0 : Nat} (v0 : o0 < 1) {M : gM} {K : Int32 → gM → Prop} (h : wp_X9_transmit o0 M K) : Met l yX9_transmit (g_y yX9_transmit cX9_transmit 1 (some .int)) rm_X9_transmit (va_Pc [.ref (gAd t 9 o0)] (g_Pre t M)) (va_Qi K (g_B t) (g_A t)) rm_X9_transmit.cells rm_X9_transmit.slots (g_A t) := by
  refine g_met hl rfl (Nat.le_of_ble_eq_true rfl) (fun X hlX cx hQ => ?_)
  subst hlX
  refine gg_aload_n (pc := 0) cx 0 rfl dX9_transmit_0 rfl ?_
  refine gg_iconst (pc := 1) cx (v := 0) dX9_transmit_1 (by decide) ?_
  refine gp_Model_thrown (pc := 2) cx (hM 9 _ rfl v0) tw_1310 dX9_transmit_2 ?_
  refine gg_mem (fun M2 eM2 => ?_)
  have h := h M2 eM2
  refine gg_aload_n (pc := 5) cx 0 rfl dX9_transmit_5 rfl ?_
  refine gg_callVi (pc := 6) cx cal_X9_sends calv_X9_sends (ct_X9_sends cx.tr hM v0 h) tw_1542 (hM 9 _ rfl v0) rfl rfl rfl (st := []) rfl (Nat.le_of_ble_eq_true rfl) ⟨Nat.le_of_ble_eq_true rfl, Nat.le_of_ble_eq_true rfl⟩ ⟨Nat.le_of_ble_eq_true rfl, Nat.le_of_ble_eq_true rfl⟩ dX9_transmit_6 (fun r6 M6 h => ?_)
  exact gg_iret (pc := 9) cx hQ h dX9_transmit_9
theorem cal_X9_advance : g_Cal yX9_advance cX9_advance 2 (some .int) 1 := ⟨tw_17, tw_1557, by decide, by decide, by decide +kernel⟩
theorem calv_X9_advance : g_CalV yX9_advance := ⟨tw_1555, tw_1556⟩
set_option maxRecDepth 100000 in
set_option maxHeartbeats 4000000 in
theorem ct_X9_advance {l : Launch} (hl : l.stackTraces = false) {t : gT} (hM : g_hM t) {o0 : Nat} {x1 : Int32} (v0 : o0 < 1) {M : gM} {K : Int32 → gM → Prop} (h : wp_X9_advance o0 x1 M K) : Met l yX9_advance (g_y yX9_advance cX9_advance 2 (some .int)) rm_X9_advance (va_Pc [.ref (gAd t 9 o0), .int x1] (g_Pre t M)) (va_Qi K (g_B t) (g_A t)) rm_X9_advance.cells rm_X9_advance.slots (g_A t) := by
  refine g_met hl rfl (Nat.le_of_ble_eq_true rfl) (fun X hlX cx hQ => ?_)
  subst hlX
  refine gg_aload_n (pc := 0) cx 0 rfl dX9_advance_0 rfl ?_
  refine gg_iconst (pc := 1) cx (v := 0) dX9_advance_1 (by decide) ?_
  refine gp_Model_thrown (pc := 2) cx (hM 9 _ rfl v0) tw_1310 dX9_advance_2 ?_
  refine gg_mem (fun M2 eM2 => ?_)
  have h := h M2 eM2
  refine gg_iload_n (pc := 5) cx 1 rfl dX9_advance_5 rfl ?_
  refine gg_if_ge (pc := 6) cx (tgt := 17) dX9_advance_6 (by decide) (fun c6 => ?_) (fun c6 => ?_)
  · have h := g_it c6 h
    refine gg_aload_n (pc := 17) cx 0 rfl dX9_advance_17 rfl ?_
    refine gg_aload_n (pc := 18) cx 0 rfl dX9_advance_18 rfl ?_
    refine gf_Model_v (pc := 19) cx (hM 9 _ rfl v0) tw_1306 dX9_advance_19 ?_
    refine gg_iconst (pc := 22) cx (v := 0) dX9_advance_22 (by decide) ?_
    have q23 := h.1
    have h := h.2
    refine gg_lald (pc := 23) cx (hM 47 _ rfl v0) rfl q23 dX9_advance_23 ?_
    refine gg_iload_n (pc := 24) cx 1 rfl dX9_advance_24 rfl ?_
    refine gg_i2l (pc := 25) cx dX9_advance_25 ?_
    refine gg_ladd (pc := 26) cx dX9_advance_26 ?_
    refine gg_callVi (pc := 27) cx cal_X9_passes calv_X9_passes (ct_X9_passes cx.tr hM v0 h) tw_1546 (hM 9 _ rfl v0) rfl rfl rfl (st := []) rfl (Nat.le_of_ble_eq_true rfl) ⟨Nat.le_of_ble_eq_true rfl, Nat.le_of_ble_eq_true rfl⟩ ⟨Nat.le_of_ble_eq_true rfl, Nat.le_of_ble_eq_true rfl⟩ dX9_advance_27 (fun r27 M27 h => ?_)
    exact gg_iret (pc := 30) cx hQ h dX9_advance_30
  · have h := g_if c6 h
    refine gg_aload_n (pc := 9) cx 0 rfl dX9_advance_9 rfl ?_
    refine gg_iconst (pc := 10) cx (v := 1) dX9_advance_10 (by decide) ?_
    refine gg_callVi (pc := 11) cx cal_X9_fails calv_X9_fails (ct_X9_fails cx.tr hM v0 h) tw_1377 (hM 9 _ rfl v0) rfl rfl rfl (st := []) rfl (Nat.le_of_ble_eq_true rfl) ⟨Nat.le_of_ble_eq_true rfl, Nat.le_of_ble_eq_true rfl⟩ ⟨Nat.le_of_ble_eq_true rfl, Nat.le_of_ble_eq_true rfl⟩ dX9_advance_11 (fun r11 M11 h => ?_)
    refine gg_goto (pc := 14) cx (tgt := 30) dX9_advance_14 (by decide) ?_
    exact gg_iret (pc := 30) cx hQ h dX9_advance_30
theorem cal_X9_time : g_Cal yX9_time cX9_time 1 (some .long) 0 := ⟨tw_17, tw_1561, by decide, by decide, by decide +kernel⟩
theorem calv_X9_time : g_CalV yX9_time := ⟨tw_1559, tw_1560⟩
set_option maxRecDepth 100000 in
set_option maxHeartbeats 4000000 in
theorem ct_X9_time {l : Launch} (hl : l.stackTraces = false) {t : gT} (hM : g_hM t) {o0 : Nat} (v0 : o0 < 1) {M : gM} {K : Int64 → gM → Prop} (h : wp_X9_time o0 M K) : Met l yX9_time (g_y yX9_time cX9_time 1 (some .long)) rm_X9_time (va_Pc [.ref (gAd t 9 o0)] (g_Pre t M)) (va_Ql K (g_B t) (g_A t)) rm_X9_time.cells rm_X9_time.slots (g_A t) := by
  refine g_met hl rfl (Nat.le_of_ble_eq_true rfl) (fun X hlX cx hQ => ?_)
  subst hlX
  refine gg_aload_n (pc := 0) cx 0 rfl dX9_time_0 rfl ?_
  refine gg_iconst (pc := 1) cx (v := 0) dX9_time_1 (by decide) ?_
  refine gp_Model_thrown (pc := 2) cx (hM 9 _ rfl v0) tw_1310 dX9_time_2 ?_
  refine gg_mem (fun M2 eM2 => ?_)
  have h := h M2 eM2
  refine gg_aload_n (pc := 5) cx 0 rfl dX9_time_5 rfl ?_
  refine gf_Model_v (pc := 6) cx (hM 9 _ rfl v0) tw_1306 dX9_time_6 ?_
  refine gg_iconst (pc := 9) cx (v := 0) dX9_time_9 (by decide) ?_
  have q10 := h.1
  have h := h.2
  refine gg_lald (pc := 10) cx (hM 47 _ rfl v0) rfl q10 dX9_time_10 ?_
  exact gg_lret (pc := 11) cx hQ h dX9_time_11
theorem cal_X9_nextRelease : g_Cal yX9_nextRelease cX9_nextRelease 2 (some .long) 0 := ⟨tw_17, tw_1565, by decide, by decide, by decide +kernel⟩
theorem calv_X9_nextRelease : g_CalV yX9_nextRelease := ⟨tw_1563, tw_1564⟩
set_option maxRecDepth 100000 in
set_option maxHeartbeats 4000000 in
theorem ct_X9_nextRelease {l : Launch} (hl : l.stackTraces = false) {t : gT} (hM : g_hM t) {o0 : Nat} (v0 : o0 < 1) {M : gM} {K : Int64 → gM → Prop} (h : wp_X9_nextRelease o0 M K) : Met l yX9_nextRelease (g_y yX9_nextRelease cX9_nextRelease 2 (some .long)) rm_X9_nextRelease (va_Pc [.ref (gAd t 9 o0)] (g_Pre t M)) (va_Ql K (g_B t) (g_A t)) rm_X9_nextRelease.cells rm_X9_nextRelease.slots (g_A t) := by
  refine g_met hl rfl (Nat.le_of_ble_eq_true rfl) (fun X hlX cx hQ => ?_)
  subst hlX
  refine gg_aload_n (pc := 0) cx 0 rfl dX9_nextRelease_0 rfl ?_
  refine gg_iconst (pc := 1) cx (v := 0) dX9_nextRelease_1 (by decide) ?_
  refine gp_Model_thrown (pc := 2) cx (hM 9 _ rfl v0) tw_1310 dX9_nextRelease_2 ?_
  refine gg_mem (fun M2 eM2 => ?_)
  have h := h M2 eM2
  refine gg_aload_n (pc := 5) cx 0 rfl dX9_nextRelease_5 rfl ?_
  refine gg_callVi (pc := 6) cx cal_X9_nextHeld calv_X9_nextHeld (ct_X9_nextHeld cx.tr hM v0 h) tw_1550 (hM 9 _ rfl v0) rfl rfl rfl (st := []) rfl (Nat.le_of_ble_eq_true rfl) ⟨Nat.le_of_ble_eq_true rfl, Nat.le_of_ble_eq_true rfl⟩ ⟨Nat.le_of_ble_eq_true rfl, Nat.le_of_ble_eq_true rfl⟩ dX9_nextRelease_6 (fun r6 M6 h => ?_)
  refine gg_istore_n (pc := 9) cx [(1, .int r6), (0, .ref (gAd t 9 o0))] dX9_nextRelease_9 rfl (by decide) rfl ?_
  refine gg_iload_n (pc := 10) cx 0 rfl dX9_nextRelease_10 rfl ?_
  refine gg_if_ge (pc := 11) cx (tgt := 20) dX9_nextRelease_11 (by decide) (fun c11 => ?_) (fun c11 => ?_)
  · have h := g_it c11 h
    refine gg_aload_n (pc := 20) cx 1 rfl dX9_nextRelease_20 rfl ?_
    refine gf_Model_v (pc := 21) cx (hM 9 _ rfl v0) tw_1306 dX9_nextRelease_21 ?_
    refine gg_iload_n (pc := 24) cx 0 rfl dX9_nextRelease_24 rfl ?_
    refine gg_callSi (pc := 25) cx cal_X9_hold tw_1506 (ct_X9_hold cx.tr hM  h) tw_1505 rfl (st := [.ref (gAd t 47 o0)]) rfl (Nat.le_of_ble_eq_true rfl) ⟨Nat.le_of_ble_eq_true rfl, Nat.le_of_ble_eq_true rfl⟩ ⟨Nat.le_of_ble_eq_true rfl, Nat.le_of_ble_eq_true rfl⟩ dX9_nextRelease_25 (fun r25 M25 h => ?_)
    refine gg_iconst (pc := 28) cx (v := 0) dX9_nextRelease_28 (by decide) ?_
    refine gg_iadd (pc := 29) cx dX9_nextRelease_29 ?_
    have q30 := h.1
    have h := h.2
    refine gg_lald (pc := 30) cx (hM 47 _ rfl v0) rfl q30 dX9_nextRelease_30 ?_
    exact gg_lret (pc := 31) cx hQ h dX9_nextRelease_31
  · have h := g_if c11 h
    refine gg_ldc2 (pc := 14) cx (v := (-1)) tw_1273 dX9_nextRelease_14 ?_
    refine gg_goto (pc := 17) cx (tgt := 31) dX9_nextRelease_17 (by decide) ?_
    exact gg_lret (pc := 31) cx hQ h dX9_nextRelease_31
theorem cal_X9_shaped : g_Cal yX9_shaped cX9_shaped 1 (some .int) 0 := ⟨tw_17, tw_1569, by decide, by decide, by decide +kernel⟩
theorem calv_X9_shaped : g_CalV yX9_shaped := ⟨tw_1567, tw_1568⟩
set_option maxRecDepth 100000 in
set_option maxHeartbeats 4000000 in
theorem ct_X9_shaped {l : Launch} (hl : l.stackTraces = false) {t : gT} (hM : g_hM t) {o0 : Nat} (v0 : o0 < 1) {M : gM} {K : Int32 → gM → Prop} (h : wp_X9_shaped o0 M K) : Met l yX9_shaped (g_y yX9_shaped cX9_shaped 1 (some .int)) rm_X9_shaped (va_Pc [.ref (gAd t 9 o0)] (g_Pre t M)) (va_Qi K (g_B t) (g_A t)) rm_X9_shaped.cells rm_X9_shaped.slots (g_A t) := by
  refine g_met hl rfl (Nat.le_of_ble_eq_true rfl) (fun X hlX cx hQ => ?_)
  subst hlX
  refine gg_aload_n (pc := 0) cx 0 rfl dX9_shaped_0 rfl ?_
  refine gg_iconst (pc := 1) cx (v := 0) dX9_shaped_1 (by decide) ?_
  refine gp_Model_thrown (pc := 2) cx (hM 9 _ rfl v0) tw_1310 dX9_shaped_2 ?_
  refine gg_mem (fun M2 eM2 => ?_)
  have h := h M2 eM2
  refine gg_aload_n (pc := 5) cx 0 rfl dX9_shaped_5 rfl ?_
  refine gf_Model_v (pc := 6) cx (hM 9 _ rfl v0) tw_1306 dX9_shaped_6 ?_
  refine gg_iconst (pc := 9) cx (v := 4) dX9_shaped_9 (by decide) ?_
  have q10 := h.1
  have h := h.2
  refine gg_lald (pc := 10) cx (hM 47 _ rfl v0) rfl q10 dX9_shaped_10 ?_
  refine gg_l2i (pc := 11) cx dX9_shaped_11 ?_
  exact gg_iret (pc := 12) cx hQ h dX9_shaped_12
theorem cal_X9_waiting : g_Cal yX9_waiting cX9_waiting 1 (some .int) 0 := ⟨tw_17, tw_1573, by decide, by decide, by decide +kernel⟩
theorem calv_X9_waiting : g_CalV yX9_waiting := ⟨tw_1571, tw_1572⟩
set_option maxRecDepth 100000 in
set_option maxHeartbeats 4000000 in
theorem ct_X9_waiting {l : Launch} (hl : l.stackTraces = false) {t : gT} (hM : g_hM t) {o0 : Nat} (v0 : o0 < 1) {M : gM} {K : Int32 → gM → Prop} (h : wp_X9_waiting o0 M K) : Met l yX9_waiting (g_y yX9_waiting cX9_waiting 1 (some .int)) rm_X9_waiting (va_Pc [.ref (gAd t 9 o0)] (g_Pre t M)) (va_Qi K (g_B t) (g_A t)) rm_X9_waiting.cells rm_X9_waiting.slots (g_A t) := by
  refine g_met hl rfl (Nat.le_of_ble_eq_true rfl) (fun X hlX cx hQ => ?_)
  subst hlX
  refine gg_aload_n (pc := 0) cx 0 rfl dX9_waiting_0 rfl ?_
  refine gg_iconst (pc := 1) cx (v := 0) dX9_waiting_1 (by decide) ?_
  refine gp_Model_thrown (pc := 2) cx (hM 9 _ rfl v0) tw_1310 dX9_waiting_2 ?_
  refine gg_mem (fun M2 eM2 => ?_)
  have h := h M2 eM2
  refine gg_aload_n (pc := 5) cx 0 rfl dX9_waiting_5 rfl ?_
  refine gf_Model_v (pc := 6) cx (hM 9 _ rfl v0) tw_1306 dX9_waiting_6 ?_
  refine gg_bipush (pc := 9) cx (v := 7) dX9_waiting_9 (by decide) ?_
  have q11 := h.1
  have h := h.2
  refine gg_lald (pc := 11) cx (hM 47 _ rfl v0) rfl q11 dX9_waiting_11 ?_
  refine gg_l2i (pc := 12) cx dX9_waiting_12 ?_
  exact gg_iret (pc := 13) cx hQ h dX9_waiting_13
theorem cal_X9_queueLength : g_Cal yX9_queueLength cX9_queueLength 2 (some .int) 1 := ⟨tw_17, tw_1577, by decide, by decide, by decide +kernel⟩
theorem calv_X9_queueLength : g_CalV yX9_queueLength := ⟨tw_1575, tw_1576⟩
set_option maxRecDepth 100000 in
set_option maxHeartbeats 4000000 in
theorem ct_X9_queueLength {l : Launch} (hl : l.stackTraces = false) {t : gT} (hM : g_hM t) {o0 : Nat} {x1 : Int32} (v0 : o0 < 1) {M : gM} {K : Int32 → gM → Prop} (h : wp_X9_queueLength o0 x1 M K) : Met l yX9_queueLength (g_y yX9_queueLength cX9_queueLength 2 (some .int)) rm_X9_queueLength (va_Pc [.ref (gAd t 9 o0), .int x1] (g_Pre t M)) (va_Qi K (g_B t) (g_A t)) rm_X9_queueLength.cells rm_X9_queueLength.slots (g_A t) := by
  refine g_met hl rfl (Nat.le_of_ble_eq_true rfl) (fun X hlX cx hQ => ?_)
  subst hlX
  refine gg_aload_n (pc := 0) cx 0 rfl dX9_queueLength_0 rfl ?_
  refine gg_iload_n (pc := 1) cx 1 rfl dX9_queueLength_1 rfl ?_
  refine gg_bipush (pc := 2) cx (v := 11) dX9_queueLength_2 (by decide) ?_
  refine gg_callVi (pc := 4) cx cal_X9_told calv_X9_told (ct_X9_told cx.tr hM v0 h) tw_1410 (hM 9 _ rfl v0) rfl rfl rfl (st := []) rfl (Nat.le_of_ble_eq_true rfl) ⟨Nat.le_of_ble_eq_true rfl, Nat.le_of_ble_eq_true rfl⟩ ⟨Nat.le_of_ble_eq_true rfl, Nat.le_of_ble_eq_true rfl⟩ dX9_queueLength_4 (fun r4 M4 h => ?_)
  exact gg_iret (pc := 7) cx hQ h dX9_queueLength_7
set_option maxRecDepth 100000 in
set_option maxHeartbeats 4000000 in
theorem wk_X9_hasElement_b47 {t : gT} {X : gX} (cx : g_Cx t X cX9_hasElement 4 RX9 (some .boolean)) (hM : g_hM t) {K : Int32 → gM → Prop} (hQ : gXQ X = MQ (gXb X) (va_Qi K (g_B t) (g_A t)) (gXa X) (gXs X) rm_X9_hasElement.cells rm_X9_hasElement.slots (g_A t)) {x3 : Int32} {os0 : Nat} {xs1 : Int32} {M : gM} (vs0 : os0 < 1) (h : wp_X9_hasElement_b47 K x3 os0 xs1 M) : G t rm_X9_hasElement X 4 0 0 M [(3, .int x3)] [.int xs1, .ref (gAd t 9 os0)] 47 := by
  refine gp_Model_thrown (pc := 47) cx (hM 9 _ rfl vs0) tw_1310 dX9_hasElement_47 ?_
  refine gg_mem (fun M47 eM47 => ?_)
  have h := h M47 eM47
  refine gg_iload_n (pc := 50) cx 0 rfl dX9_hasElement_50 rfl ?_
  exact gg_zret (pc := 51) cx hQ h.1 h.2 dX9_hasElement_51
set_option maxRecDepth 100000 in
set_option maxHeartbeats 4000000 in
theorem wk_X9_hasElement_b36 {t : gT} {X : gX} (cx : g_Cx t X cX9_hasElement 4 RX9 (some .boolean)) (hM : g_hM t) {K : Int32 → gM → Prop} (hQ : gXQ X = MQ (gXb X) (va_Qi K (g_B t) (g_A t)) (gXa X) (gXs X) rm_X9_hasElement.cells rm_X9_hasElement.slots (g_A t)) {o0 : Nat} {xs0 : Int32} {M : gM} (v0 : o0 < 1) (h : wp_X9_hasElement_b36 K o0 xs0 M) : G t rm_X9_hasElement X 4 0 0 M [(0, .ref (gAd t 9 o0))] [.int xs0] 36 := by
  refine gg_istore_n (pc := 36) cx [(3, .int xs0), (0, .ref (gAd t 9 o0))] dX9_hasElement_36 rfl (by decide) rfl ?_
  refine gg_aload_n (pc := 37) cx 1 rfl dX9_hasElement_37 rfl ?_
  refine gg_iload_n (pc := 38) cx 0 rfl dX9_hasElement_38 rfl ?_
  refine gg_if_eq (pc := 39) cx (tgt := 46) dX9_hasElement_39 (by decide) (fun c39 => ?_) (fun c39 => ?_)
  · have h := g_it c39 h
    refine gg_iconst (pc := 46) cx (v := 1) dX9_hasElement_46 (by decide) ?_
    refine gg_lv (lv' := [(3, .int xs0)]) [0] rfl ?_
    exact wk_X9_hasElement_b47 cx hM hQ v0 h
  · have h := g_if c39 h
    refine gg_iconst (pc := 42) cx (v := 0) dX9_hasElement_42 (by decide) ?_
    refine gg_goto (pc := 43) cx (tgt := 47) dX9_hasElement_43 (by decide) ?_
    refine gg_lv (lv' := [(3, .int xs0)]) [0] rfl ?_
    exact wk_X9_hasElement_b47 cx hM hQ v0 h
set_option maxRecDepth 100000 in
set_option maxHeartbeats 4000000 in
theorem wk_X9_hasElement_b35 {t : gT} {X : gX} (cx : g_Cx t X cX9_hasElement 4 RX9 (some .boolean)) (hM : g_hM t) {K : Int32 → gM → Prop} (hQ : gXQ X = MQ (gXb X) (va_Qi K (g_B t) (g_A t)) (gXa X) (gXs X) rm_X9_hasElement.cells rm_X9_hasElement.slots (g_A t)) {o0 : Nat} {M : gM} (v0 : o0 < 1) (h : wp_X9_hasElement_b35 K o0 M) : G t rm_X9_hasElement X 4 0 0 M [(0, .ref (gAd t 9 o0))] [] 35 := by
  refine gg_iconst (pc := 35) cx (v := 0) dX9_hasElement_35 (by decide) ?_
  exact wk_X9_hasElement_b36 cx hM hQ v0 h
theorem cal_X9_hasElement : g_Cal yX9_hasElement cX9_hasElement 4 (some .boolean) 2 := ⟨tw_17, tw_1585, by decide, by decide, by decide +kernel⟩
theorem calv_X9_hasElement : g_CalV yX9_hasElement := ⟨tw_1584, ts_66⟩
set_option maxRecDepth 100000 in
set_option maxHeartbeats 4000000 in
theorem ct_X9_hasElement {l : Launch} (hl : l.stackTraces = false) {t : gT} (hM : g_hM t) {o0 : Nat} {x1 : Int32} {x2 : Int32} (v0 : o0 < 1) {M : gM} {K : Int32 → gM → Prop} (h : wp_X9_hasElement o0 x1 x2 M K) : Met l yX9_hasElement (g_y yX9_hasElement cX9_hasElement 4 (some .boolean)) rm_X9_hasElement (va_Pc [.ref (gAd t 9 o0), .int x1, .int x2] (g_Pre t M)) (va_Qi K (g_B t) (g_A t)) rm_X9_hasElement.cells rm_X9_hasElement.slots (g_A t) := by
  refine g_met hl rfl (Nat.le_of_ble_eq_true rfl) (fun X hlX cx hQ => ?_)
  subst hlX
  refine gg_aload_n (pc := 0) cx 0 rfl dX9_hasElement_0 rfl ?_
  refine gg_iload_n (pc := 1) cx 1 rfl dX9_hasElement_1 rfl ?_
  refine gg_callVi (pc := 2) cx cal_X9_isNode calv_X9_isNode (ct_X9_isNode cx.tr hM v0 h) tw_1414 (hM 9 _ rfl v0) rfl rfl rfl (st := []) rfl (Nat.le_of_ble_eq_true rfl) ⟨Nat.le_of_ble_eq_true rfl, Nat.le_of_ble_eq_true rfl⟩ ⟨Nat.le_of_ble_eq_true rfl, Nat.le_of_ble_eq_true rfl⟩ dX9_hasElement_2 (fun r2 M2 h => ?_)
  refine gg_if_eq (pc := 5) cx (tgt := 35) dX9_hasElement_5 (by decide) (fun c5 => ?_) (fun c5 => ?_)
  · have h := g_it c5 h
    refine gg_lv (lv' := [(0, .ref (gAd t 9 o0))]) [0] rfl ?_
    exact wk_X9_hasElement_b35 cx hM hQ v0 h
  · have h := g_if c5 h
    refine gg_iload_n (pc := 8) cx 2 rfl dX9_hasElement_8 rfl ?_
    refine gg_i2l (pc := 9) cx dX9_hasElement_9 ?_
    refine gg_lconst (pc := 10) cx (v := 0) dX9_hasElement_10 (by decide) ?_
    refine gg_aload_n (pc := 11) cx 0 rfl dX9_hasElement_11 rfl ?_
    refine gf_Model_v (pc := 12) cx (hM 9 _ rfl v0) tw_1306 dX9_hasElement_12 ?_
    refine gg_iload_n (pc := 15) cx 1 rfl dX9_hasElement_15 rfl ?_
    refine gg_callSi (pc := 16) cx cal_X9_node tw_1300 (ct_X9_node cx.tr hM  h) tw_1299 rfl (st := [.ref (gAd t 47 o0), .long 0, .long x2.toInt64]) rfl (Nat.le_of_ble_eq_true rfl) ⟨Nat.le_of_ble_eq_true rfl, Nat.le_of_ble_eq_true rfl⟩ ⟨Nat.le_of_ble_eq_true rfl, Nat.le_of_ble_eq_true rfl⟩ dX9_hasElement_16 (fun r16 M16 h => ?_)
    refine gg_bipush (pc := 19) cx (v := 11) dX9_hasElement_19 (by decide) ?_
    refine gg_iadd (pc := 21) cx dX9_hasElement_21 ?_
    have q22 := h.1
    have h := h.2
    refine gg_lald (pc := 22) cx (hM 47 _ rfl v0) rfl q22 dX9_hasElement_22 ?_
    refine gg_lconst (pc := 23) cx (v := 1) dX9_hasElement_23 (by decide) ?_
    refine gg_lsub (pc := 24) cx dX9_hasElement_24 ?_
    refine gg_callSi (pc := 25) cx cal_X9_in tw_1225 (ct_X9_in cx.tr hM  h) tw_1224 rfl (st := []) rfl (Nat.le_of_ble_eq_true rfl) ⟨Nat.le_of_ble_eq_true rfl, Nat.le_of_ble_eq_true rfl⟩ ⟨Nat.le_of_ble_eq_true rfl, Nat.le_of_ble_eq_true rfl⟩ dX9_hasElement_25 (fun r25 M25 h => ?_)
    refine gg_if_eq (pc := 28) cx (tgt := 35) dX9_hasElement_28 (by decide) (fun c28 => ?_) (fun c28 => ?_)
    · have h := g_it c28 h
      refine gg_lv (lv' := [(0, .ref (gAd t 9 o0))]) [0] rfl ?_
      exact wk_X9_hasElement_b35 cx hM hQ v0 h
    · have h := g_if c28 h
      refine gg_iconst (pc := 31) cx (v := 1) dX9_hasElement_31 (by decide) ?_
      refine gg_goto (pc := 32) cx (tgt := 36) dX9_hasElement_32 (by decide) ?_
      refine gg_lv (lv' := [(0, .ref (gAd t 9 o0))]) [0] rfl ?_
      exact wk_X9_hasElement_b36 cx hM hQ v0 h
theorem cal_X9_queueItem : g_Cal yX9_queueItem cX9_queueItem 3 (some .int) 2 := ⟨tw_17, tw_1581, by decide, by decide, by decide +kernel⟩
theorem calv_X9_queueItem : g_CalV yX9_queueItem := ⟨tw_1579, tw_1580⟩
set_option maxRecDepth 100000 in
set_option maxHeartbeats 4000000 in
theorem ct_X9_queueItem {l : Launch} (hl : l.stackTraces = false) {t : gT} (hM : g_hM t) {o0 : Nat} {x1 : Int32} {x2 : Int32} (v0 : o0 < 1) {M : gM} {K : Int32 → gM → Prop} (h : wp_X9_queueItem o0 x1 x2 M K) : Met l yX9_queueItem (g_y yX9_queueItem cX9_queueItem 3 (some .int)) rm_X9_queueItem (va_Pc [.ref (gAd t 9 o0), .int x1, .int x2] (g_Pre t M)) (va_Qi K (g_B t) (g_A t)) rm_X9_queueItem.cells rm_X9_queueItem.slots (g_A t) := by
  refine g_met hl rfl (Nat.le_of_ble_eq_true rfl) (fun X hlX cx hQ => ?_)
  subst hlX
  refine gg_aload_n (pc := 0) cx 0 rfl dX9_queueItem_0 rfl ?_
  refine gg_iload_n (pc := 1) cx 1 rfl dX9_queueItem_1 rfl ?_
  refine gg_iload_n (pc := 2) cx 2 rfl dX9_queueItem_2 rfl ?_
  refine gg_callVi (pc := 3) cx cal_X9_hasElement calv_X9_hasElement (ct_X9_hasElement cx.tr hM v0 h) tw_1582 (hM 9 _ rfl v0) rfl rfl rfl (st := []) rfl (Nat.le_of_ble_eq_true rfl) ⟨Nat.le_of_ble_eq_true rfl, Nat.le_of_ble_eq_true rfl⟩ ⟨Nat.le_of_ble_eq_true rfl, Nat.le_of_ble_eq_true rfl⟩ dX9_queueItem_3 (fun r3 M3 h => ?_)
  refine gg_if_eq (pc := 6) cx (tgt := 30) dX9_queueItem_6 (by decide) (fun c6 => ?_) (fun c6 => ?_)
  · have h := g_it c6 h
    refine gg_iconst (pc := 30) cx (v := 0) dX9_queueItem_30 (by decide) ?_
    exact gg_iret (pc := 31) cx hQ h dX9_queueItem_31
  · have h := g_if c6 h
    refine gg_aload_n (pc := 9) cx 0 rfl dX9_queueItem_9 rfl ?_
    refine gf_Model_v (pc := 10) cx (hM 9 _ rfl v0) tw_1306 dX9_queueItem_10 ?_
    refine gg_iload_n (pc := 13) cx 1 rfl dX9_queueItem_13 rfl ?_
    refine gg_aload_n (pc := 14) cx 0 rfl dX9_queueItem_14 rfl ?_
    refine gg_iload_n (pc := 15) cx 1 rfl dX9_queueItem_15 rfl ?_
    refine gg_iload_n (pc := 16) cx 2 rfl dX9_queueItem_16 rfl ?_
    refine gg_callVi (pc := 17) cx cal_X9_placeOf calv_X9_placeOf (ct_X9_placeOf cx.tr hM v0 h) tw_1520 (hM 9 _ rfl v0) rfl rfl rfl (st := [.int x1, .ref (gAd t 47 o0)]) rfl (Nat.le_of_ble_eq_true rfl) ⟨Nat.le_of_ble_eq_true rfl, Nat.le_of_ble_eq_true rfl⟩ ⟨Nat.le_of_ble_eq_true rfl, Nat.le_of_ble_eq_true rfl⟩ dX9_queueItem_17 (fun r17 M17 h => ?_)
    refine gg_callSi (pc := 20) cx cal_X9_element tw_1494 (ct_X9_element cx.tr hM  h) tw_1493 rfl (st := [.ref (gAd t 47 o0)]) rfl (Nat.le_of_ble_eq_true rfl) ⟨Nat.le_of_ble_eq_true rfl, Nat.le_of_ble_eq_true rfl⟩ ⟨Nat.le_of_ble_eq_true rfl, Nat.le_of_ble_eq_true rfl⟩ dX9_queueItem_20 (fun r20 M20 h => ?_)
    refine gg_iconst (pc := 23) cx (v := 0) dX9_queueItem_23 (by decide) ?_
    refine gg_iadd (pc := 24) cx dX9_queueItem_24 ?_
    have q25 := h.1
    have h := h.2
    refine gg_lald (pc := 25) cx (hM 47 _ rfl v0) rfl q25 dX9_queueItem_25 ?_
    refine gg_l2i (pc := 26) cx dX9_queueItem_26 ?_
    refine gg_goto (pc := 27) cx (tgt := 31) dX9_queueItem_27 (by decide) ?_
    exact gg_iret (pc := 31) cx hQ h dX9_queueItem_31
theorem cal_X9_queueRank : g_Cal yX9_queueRank cX9_queueRank 3 (some .long) 2 := ⟨tw_17, tw_1589, by decide, by decide, by decide +kernel⟩
theorem calv_X9_queueRank : g_CalV yX9_queueRank := ⟨tw_1587, tw_1588⟩
set_option maxRecDepth 100000 in
set_option maxHeartbeats 4000000 in
theorem ct_X9_queueRank {l : Launch} (hl : l.stackTraces = false) {t : gT} (hM : g_hM t) {o0 : Nat} {x1 : Int32} {x2 : Int32} (v0 : o0 < 1) {M : gM} {K : Int64 → gM → Prop} (h : wp_X9_queueRank o0 x1 x2 M K) : Met l yX9_queueRank (g_y yX9_queueRank cX9_queueRank 3 (some .long)) rm_X9_queueRank (va_Pc [.ref (gAd t 9 o0), .int x1, .int x2] (g_Pre t M)) (va_Ql K (g_B t) (g_A t)) rm_X9_queueRank.cells rm_X9_queueRank.slots (g_A t) := by
  refine g_met hl rfl (Nat.le_of_ble_eq_true rfl) (fun X hlX cx hQ => ?_)
  subst hlX
  refine gg_aload_n (pc := 0) cx 0 rfl dX9_queueRank_0 rfl ?_
  refine gg_iload_n (pc := 1) cx 1 rfl dX9_queueRank_1 rfl ?_
  refine gg_iload_n (pc := 2) cx 2 rfl dX9_queueRank_2 rfl ?_
  refine gg_callVi (pc := 3) cx cal_X9_hasElement calv_X9_hasElement (ct_X9_hasElement cx.tr hM v0 h) tw_1582 (hM 9 _ rfl v0) rfl rfl rfl (st := []) rfl (Nat.le_of_ble_eq_true rfl) ⟨Nat.le_of_ble_eq_true rfl, Nat.le_of_ble_eq_true rfl⟩ ⟨Nat.le_of_ble_eq_true rfl, Nat.le_of_ble_eq_true rfl⟩ dX9_queueRank_3 (fun r3 M3 h => ?_)
  refine gg_if_eq (pc := 6) cx (tgt := 29) dX9_queueRank_6 (by decide) (fun c6 => ?_) (fun c6 => ?_)
  · have h := g_it c6 h
    refine gg_lconst (pc := 29) cx (v := 0) dX9_queueRank_29 (by decide) ?_
    exact gg_lret (pc := 30) cx hQ h dX9_queueRank_30
  · have h := g_if c6 h
    refine gg_aload_n (pc := 9) cx 0 rfl dX9_queueRank_9 rfl ?_
    refine gf_Model_v (pc := 10) cx (hM 9 _ rfl v0) tw_1306 dX9_queueRank_10 ?_
    refine gg_iload_n (pc := 13) cx 1 rfl dX9_queueRank_13 rfl ?_
    refine gg_aload_n (pc := 14) cx 0 rfl dX9_queueRank_14 rfl ?_
    refine gg_iload_n (pc := 15) cx 1 rfl dX9_queueRank_15 rfl ?_
    refine gg_iload_n (pc := 16) cx 2 rfl dX9_queueRank_16 rfl ?_
    refine gg_callVi (pc := 17) cx cal_X9_placeOf calv_X9_placeOf (ct_X9_placeOf cx.tr hM v0 h) tw_1520 (hM 9 _ rfl v0) rfl rfl rfl (st := [.int x1, .ref (gAd t 47 o0)]) rfl (Nat.le_of_ble_eq_true rfl) ⟨Nat.le_of_ble_eq_true rfl, Nat.le_of_ble_eq_true rfl⟩ ⟨Nat.le_of_ble_eq_true rfl, Nat.le_of_ble_eq_true rfl⟩ dX9_queueRank_17 (fun r17 M17 h => ?_)
    refine gg_callSi (pc := 20) cx cal_X9_element tw_1494 (ct_X9_element cx.tr hM  h) tw_1493 rfl (st := [.ref (gAd t 47 o0)]) rfl (Nat.le_of_ble_eq_true rfl) ⟨Nat.le_of_ble_eq_true rfl, Nat.le_of_ble_eq_true rfl⟩ ⟨Nat.le_of_ble_eq_true rfl, Nat.le_of_ble_eq_true rfl⟩ dX9_queueRank_20 (fun r20 M20 h => ?_)
    refine gg_iconst (pc := 23) cx (v := 1) dX9_queueRank_23 (by decide) ?_
    refine gg_iadd (pc := 24) cx dX9_queueRank_24 ?_
    have q25 := h.1
    have h := h.2
    refine gg_lald (pc := 25) cx (hM 47 _ rfl v0) rfl q25 dX9_queueRank_25 ?_
    refine gg_goto (pc := 26) cx (tgt := 30) dX9_queueRank_26 (by decide) ?_
    exact gg_lret (pc := 30) cx hQ h dX9_queueRank_30
set_option maxRecDepth 100000 in
set_option maxHeartbeats 4000000 in
theorem wk_X9_virtualTime_b14 {t : gT} {X : gX} (cx : g_Cx t X cX9_virtualTime 2 RX9 (some .long)) (hM : g_hM t) {K : Int64 → gM → Prop} (hQ : gXQ X = MQ (gXb X) (va_Ql K (g_B t) (g_A t)) (gXa X) (gXs X) rm_X9_virtualTime.cells rm_X9_virtualTime.slots (g_A t)) {o0 : Nat} {x1 : Int32} {os0 : Nat} {xs1 : Int32} {M : gM} (v0 : o0 < 1) (vs0 : os0 < 1) (h : wp_X9_virtualTime_b14 K o0 x1 os0 xs1 M) : G t rm_X9_virtualTime X 2 0 0 M [(0, .ref (gAd t 9 o0)), (1, .int x1)] [.int xs1, .ref (gAd t 9 os0)] 14 := by
  refine gp_Model_thrown (pc := 14) cx (hM 9 _ rfl vs0) tw_1310 dX9_virtualTime_14 ?_
  refine gg_mem (fun M14 eM14 => ?_)
  have h := h M14 eM14
  refine gg_aload_n (pc := 17) cx 0 rfl dX9_virtualTime_17 rfl ?_
  refine gg_iload_n (pc := 18) cx 1 rfl dX9_virtualTime_18 rfl ?_
  refine gg_callVi (pc := 19) cx cal_X9_isNode calv_X9_isNode (ct_X9_isNode cx.tr hM v0 h) tw_1414 (hM 9 _ rfl v0) rfl rfl rfl (st := []) rfl (Nat.le_of_ble_eq_true rfl) ⟨Nat.le_of_ble_eq_true rfl, Nat.le_of_ble_eq_true rfl⟩ ⟨Nat.le_of_ble_eq_true rfl, Nat.le_of_ble_eq_true rfl⟩ dX9_virtualTime_19 (fun r19 M19 h => ?_)
  refine gg_if_eq (pc := 22) cx (tgt := 40) dX9_virtualTime_22 (by decide) (fun c22 => ?_) (fun c22 => ?_)
  · have h := g_it c22 h
    refine gg_lconst (pc := 40) cx (v := 0) dX9_virtualTime_40 (by decide) ?_
    exact gg_lret (pc := 41) cx hQ h dX9_virtualTime_41
  · have h := g_if c22 h
    refine gg_aload_n (pc := 25) cx 0 rfl dX9_virtualTime_25 rfl ?_
    refine gf_Model_v (pc := 26) cx (hM 9 _ rfl v0) tw_1306 dX9_virtualTime_26 ?_
    refine gg_iload_n (pc := 29) cx 1 rfl dX9_virtualTime_29 rfl ?_
    refine gg_callSi (pc := 30) cx cal_X9_node tw_1300 (ct_X9_node cx.tr hM  h) tw_1299 rfl (st := [.ref (gAd t 47 o0)]) rfl (Nat.le_of_ble_eq_true rfl) ⟨Nat.le_of_ble_eq_true rfl, Nat.le_of_ble_eq_true rfl⟩ ⟨Nat.le_of_ble_eq_true rfl, Nat.le_of_ble_eq_true rfl⟩ dX9_virtualTime_30 (fun r30 M30 h => ?_)
    refine gg_bipush (pc := 33) cx (v := 6) dX9_virtualTime_33 (by decide) ?_
    refine gg_iadd (pc := 35) cx dX9_virtualTime_35 ?_
    have q36 := h.1
    have h := h.2
    refine gg_lald (pc := 36) cx (hM 47 _ rfl v0) rfl q36 dX9_virtualTime_36 ?_
    refine gg_goto (pc := 37) cx (tgt := 41) dX9_virtualTime_37 (by decide) ?_
    exact gg_lret (pc := 41) cx hQ h dX9_virtualTime_41
theorem cal_X9_virtualTime : g_Cal yX9_virtualTime cX9_virtualTime 2 (some .long) 1 := ⟨tw_17, tw_1593, by decide, by decide, by decide +kernel⟩
theorem calv_X9_virtualTime : g_CalV yX9_virtualTime := ⟨tw_1591, tw_1592⟩
set_option maxRecDepth 100000 in
set_option maxHeartbeats 4000000 in
theorem ct_X9_virtualTime {l : Launch} (hl : l.stackTraces = false) {t : gT} (hM : g_hM t) {o0 : Nat} {x1 : Int32} (v0 : o0 < 1) {M : gM} {K : Int64 → gM → Prop} (h : wp_X9_virtualTime o0 x1 M K) : Met l yX9_virtualTime (g_y yX9_virtualTime cX9_virtualTime 2 (some .long)) rm_X9_virtualTime (va_Pc [.ref (gAd t 9 o0), .int x1] (g_Pre t M)) (va_Ql K (g_B t) (g_A t)) rm_X9_virtualTime.cells rm_X9_virtualTime.slots (g_A t) := by
  refine g_met hl rfl (Nat.le_of_ble_eq_true rfl) (fun X hlX cx hQ => ?_)
  subst hlX
  refine gg_aload_n (pc := 0) cx 0 rfl dX9_virtualTime_0 rfl ?_
  refine gg_aload_n (pc := 1) cx 0 rfl dX9_virtualTime_1 rfl ?_
  refine gg_iload_n (pc := 2) cx 1 rfl dX9_virtualTime_2 rfl ?_
  refine gg_callVi (pc := 3) cx cal_X9_isNode calv_X9_isNode (ct_X9_isNode cx.tr hM v0 h) tw_1414 (hM 9 _ rfl v0) rfl rfl rfl (st := [.ref (gAd t 9 o0)]) rfl (Nat.le_of_ble_eq_true rfl) ⟨Nat.le_of_ble_eq_true rfl, Nat.le_of_ble_eq_true rfl⟩ ⟨Nat.le_of_ble_eq_true rfl, Nat.le_of_ble_eq_true rfl⟩ dX9_virtualTime_3 (fun r3 M3 h => ?_)
  refine gg_if_eq (pc := 6) cx (tgt := 13) dX9_virtualTime_6 (by decide) (fun c6 => ?_) (fun c6 => ?_)
  · have h := g_it c6 h
    refine gg_iconst (pc := 13) cx (v := 1) dX9_virtualTime_13 (by decide) ?_
    exact wk_X9_virtualTime_b14 cx hM hQ v0 v0 h
  · have h := g_if c6 h
    refine gg_iconst (pc := 9) cx (v := 0) dX9_virtualTime_9 (by decide) ?_
    refine gg_goto (pc := 10) cx (tgt := 14) dX9_virtualTime_10 (by decide) ?_
    exact wk_X9_virtualTime_b14 cx hM hQ v0 v0 h
set_option maxRecDepth 100000 in
set_option maxHeartbeats 4000000 in
theorem wk_X9_state_b65 {t : gT} {X : gX} (cx : g_Cx t X cX9_state 4 RX9 (some .long)) (hM : g_hM t) {K : Int64 → gM → Prop} (hQ : gXQ X = MQ (gXb X) (va_Ql K (g_B t) (g_A t)) (gXa X) (gXs X) rm_X9_state.cells rm_X9_state.slots (g_A t)) {o0 : Nat} {x1 : Int32} {x2 : Int32} {xs0 : Int32} {M : gM} (v0 : o0 < 1) (h : wp_X9_state_b65 K o0 x1 x2 xs0 M) : G t rm_X9_state X 4 0 0 M [(0, .ref (gAd t 9 o0)), (1, .int x1), (2, .int x2)] [.int xs0] 65 := by
  refine gg_istore_n (pc := 65) cx [(3, .int xs0), (0, .ref (gAd t 9 o0)), (1, .int x1), (2, .int x2)] dX9_state_65 rfl (by decide) rfl ?_
  refine gg_iload_n (pc := 66) cx 0 rfl dX9_state_66 rfl ?_
  refine gg_if_eq (pc := 67) cx (tgt := 88) dX9_state_67 (by decide) (fun c67 => ?_) (fun c67 => ?_)
  · have h := g_it c67 h
    refine gg_aload_n (pc := 88) cx 1 rfl dX9_state_88 rfl ?_
    refine gg_iconst (pc := 89) cx (v := 2) dX9_state_89 (by decide) ?_
    refine gg_callVi (pc := 90) cx cal_X9_fails calv_X9_fails (ct_X9_fails cx.tr hM v0 h) tw_1377 (hM 9 _ rfl v0) rfl rfl rfl (st := []) rfl (Nat.le_of_ble_eq_true rfl) ⟨Nat.le_of_ble_eq_true rfl, Nat.le_of_ble_eq_true rfl⟩ ⟨Nat.le_of_ble_eq_true rfl, Nat.le_of_ble_eq_true rfl⟩ dX9_state_90 (fun r90 M90 h => ?_)
    refine gg_i2l (pc := 93) cx dX9_state_93 ?_
    exact gg_lret (pc := 94) cx hQ h dX9_state_94
  · have h := g_if c67 h
    refine gg_aload_n (pc := 70) cx 1 rfl dX9_state_70 rfl ?_
    refine gf_Model_v (pc := 71) cx (hM 9 _ rfl v0) tw_1306 dX9_state_71 ?_
    refine gg_sipush (pc := 74) cx (v := 280) dX9_state_74 (by decide) ?_
    refine gg_bipush (pc := 77) cx (v := 16) dX9_state_77 (by decide) ?_
    refine gg_iload_n (pc := 79) cx 2 rfl dX9_state_79 rfl ?_
    refine gg_imul (pc := 80) cx dX9_state_80 ?_
    refine gg_iadd (pc := 81) cx dX9_state_81 ?_
    refine gg_iload_n (pc := 82) cx 3 rfl dX9_state_82 rfl ?_
    refine gg_iadd (pc := 83) cx dX9_state_83 ?_
    have q84 := h.1
    have h := h.2
    refine gg_lald (pc := 84) cx (hM 47 _ rfl v0) rfl q84 dX9_state_84 ?_
    refine gg_goto (pc := 85) cx (tgt := 94) dX9_state_85 (by decide) ?_
    exact gg_lret (pc := 94) cx hQ h dX9_state_94
set_option maxRecDepth 100000 in
set_option maxHeartbeats 4000000 in
theorem wk_X9_state_b64 {t : gT} {X : gX} (cx : g_Cx t X cX9_state 4 RX9 (some .long)) (hM : g_hM t) {K : Int64 → gM → Prop} (hQ : gXQ X = MQ (gXb X) (va_Ql K (g_B t) (g_A t)) (gXa X) (gXs X) rm_X9_state.cells rm_X9_state.slots (g_A t)) {o0 : Nat} {x1 : Int32} {x2 : Int32} {M : gM} (v0 : o0 < 1) (h : wp_X9_state_b64 K o0 x1 x2 M) : G t rm_X9_state X 4 0 0 M [(0, .ref (gAd t 9 o0)), (1, .int x1), (2, .int x2)] [] 64 := by
  refine gg_iconst (pc := 64) cx (v := 0) dX9_state_64 (by decide) ?_
  exact wk_X9_state_b65 cx hM hQ v0 h
theorem cal_X9_state : g_Cal yX9_state cX9_state 4 (some .long) 2 := ⟨tw_17, tw_1597, by decide, by decide, by decide +kernel⟩
theorem calv_X9_state : g_CalV yX9_state := ⟨tw_1595, tw_1596⟩
set_option maxRecDepth 100000 in
set_option maxHeartbeats 4000000 in
theorem ct_X9_state {l : Launch} (hl : l.stackTraces = false) {t : gT} (hM : g_hM t) {o0 : Nat} {x1 : Int32} {x2 : Int32} (v0 : o0 < 1) {M : gM} {K : Int64 → gM → Prop} (h : wp_X9_state o0 x1 x2 M K) : Met l yX9_state (g_y yX9_state cX9_state 4 (some .long)) rm_X9_state (va_Pc [.ref (gAd t 9 o0), .int x1, .int x2] (g_Pre t M)) (va_Ql K (g_B t) (g_A t)) rm_X9_state.cells rm_X9_state.slots (g_A t) := by
  refine g_met hl rfl (Nat.le_of_ble_eq_true rfl) (fun X hlX cx hQ => ?_)
  subst hlX
  refine gg_aload_n (pc := 0) cx 0 rfl dX9_state_0 rfl ?_
  refine gg_iconst (pc := 1) cx (v := 0) dX9_state_1 (by decide) ?_
  refine gp_Model_thrown (pc := 2) cx (hM 9 _ rfl v0) tw_1310 dX9_state_2 ?_
  refine gg_mem (fun M2 eM2 => ?_)
  have h := h M2 eM2
  refine gg_aload_n (pc := 5) cx 0 rfl dX9_state_5 rfl ?_
  refine gg_iload_n (pc := 6) cx 1 rfl dX9_state_6 rfl ?_
  refine gg_callVi (pc := 7) cx cal_X9_isNode calv_X9_isNode (ct_X9_isNode cx.tr hM v0 h) tw_1414 (hM 9 _ rfl v0) rfl rfl rfl (st := []) rfl (Nat.le_of_ble_eq_true rfl) ⟨Nat.le_of_ble_eq_true rfl, Nat.le_of_ble_eq_true rfl⟩ ⟨Nat.le_of_ble_eq_true rfl, Nat.le_of_ble_eq_true rfl⟩ dX9_state_7 (fun r7 M7 h => ?_)
  refine gg_if_ne (pc := 10) cx (tgt := 20) dX9_state_10 (by decide) (fun c10 => ?_) (fun c10 => ?_)
  · have h := g_if c10 h
    refine gg_aload_n (pc := 20) cx 0 rfl dX9_state_20 rfl ?_
    refine gg_iload_n (pc := 21) cx 1 rfl dX9_state_21 rfl ?_
    refine gg_callVi (pc := 22) cx cal_X9_isLeaf calv_X9_isLeaf (ct_X9_isLeaf cx.tr hM v0 h) tw_1302 (hM 9 _ rfl v0) rfl rfl rfl (st := []) rfl (Nat.le_of_ble_eq_true rfl) ⟨Nat.le_of_ble_eq_true rfl, Nat.le_of_ble_eq_true rfl⟩ ⟨Nat.le_of_ble_eq_true rfl, Nat.le_of_ble_eq_true rfl⟩ dX9_state_22 (fun r22 M22 h => ?_)
    refine gg_if_eq (pc := 25) cx (tgt := 35) dX9_state_25 (by decide) (fun c25 => ?_) (fun c25 => ?_)
    · have h := g_it c25 h
      refine gg_aload_n (pc := 35) cx 0 rfl dX9_state_35 rfl ?_
      refine gg_iload_n (pc := 36) cx 2 rfl dX9_state_36 rfl ?_
      refine gg_callVi (pc := 37) cx cal_X9_isNode calv_X9_isNode (ct_X9_isNode cx.tr hM v0 h) tw_1414 (hM 9 _ rfl v0) rfl rfl rfl (st := []) rfl (Nat.le_of_ble_eq_true rfl) ⟨Nat.le_of_ble_eq_true rfl, Nat.le_of_ble_eq_true rfl⟩ ⟨Nat.le_of_ble_eq_true rfl, Nat.le_of_ble_eq_true rfl⟩ dX9_state_37 (fun r37 M37 h => ?_)
      refine gg_if_eq (pc := 40) cx (tgt := 64) dX9_state_40 (by decide) (fun c40 => ?_) (fun c40 => ?_)
      · have h := g_it c40 h
        exact wk_X9_state_b64 cx hM hQ v0 h
      · have h := g_if c40 h
        refine gg_aload_n (pc := 43) cx 0 rfl dX9_state_43 rfl ?_
        refine gf_Model_v (pc := 44) cx (hM 9 _ rfl v0) tw_1306 dX9_state_44 ?_
        refine gg_iload_n (pc := 47) cx 2 rfl dX9_state_47 rfl ?_
        refine gg_callSi (pc := 48) cx cal_X9_node tw_1300 (ct_X9_node cx.tr hM  h) tw_1299 rfl (st := [.ref (gAd t 47 o0)]) rfl (Nat.le_of_ble_eq_true rfl) ⟨Nat.le_of_ble_eq_true rfl, Nat.le_of_ble_eq_true rfl⟩ ⟨Nat.le_of_ble_eq_true rfl, Nat.le_of_ble_eq_true rfl⟩ dX9_state_48 (fun r48 M48 h => ?_)
        refine gg_iconst (pc := 51) cx (v := 0) dX9_state_51 (by decide) ?_
        refine gg_iadd (pc := 52) cx dX9_state_52 ?_
        have q53 := h.1
        have h := h.2
        refine gg_lald (pc := 53) cx (hM 47 _ rfl v0) rfl q53 dX9_state_53 ?_
        refine gg_iload_n (pc := 54) cx 1 rfl dX9_state_54 rfl ?_
        refine gg_i2l (pc := 55) cx dX9_state_55 ?_
        refine gg_lcmp_ne (pc := 56) cx (tgt := 64) dX9_state_56 dX9_state_57 (by decide) (fun c56 => ?_) (fun c56 => ?_)
        · have h := g_if c56 h
          exact wk_X9_state_b64 cx hM hQ v0 h
        · have h := g_it c56 h
          refine gg_iconst (pc := 60) cx (v := 1) dX9_state_60 (by decide) ?_
          refine gg_goto (pc := 61) cx (tgt := 65) dX9_state_61 (by decide) ?_
          exact wk_X9_state_b65 cx hM hQ v0 h
    · have h := g_if c25 h
      refine gg_iload_n (pc := 28) cx 2 rfl dX9_state_28 rfl ?_
      refine gg_callSi (pc := 29) cx cal_X9_isFlow tw_1431 (ct_X9_isFlow cx.tr hM  h) tw_1430 rfl (st := []) rfl (Nat.le_of_ble_eq_true rfl) ⟨Nat.le_of_ble_eq_true rfl, Nat.le_of_ble_eq_true rfl⟩ ⟨Nat.le_of_ble_eq_true rfl, Nat.le_of_ble_eq_true rfl⟩ dX9_state_29 (fun r29 M29 h => ?_)
      refine gg_goto (pc := 32) cx (tgt := 65) dX9_state_32 (by decide) ?_
      exact wk_X9_state_b65 cx hM hQ v0 h
  · have h := g_it c10 h
    refine gg_aload_n (pc := 13) cx 0 rfl dX9_state_13 rfl ?_
    refine gg_iconst (pc := 14) cx (v := 1) dX9_state_14 (by decide) ?_
    refine gg_callVi (pc := 15) cx cal_X9_fails calv_X9_fails (ct_X9_fails cx.tr hM v0 h) tw_1377 (hM 9 _ rfl v0) rfl rfl rfl (st := []) rfl (Nat.le_of_ble_eq_true rfl) ⟨Nat.le_of_ble_eq_true rfl, Nat.le_of_ble_eq_true rfl⟩ ⟨Nat.le_of_ble_eq_true rfl, Nat.le_of_ble_eq_true rfl⟩ dX9_state_15 (fun r15 M15 h => ?_)
    refine gg_i2l (pc := 18) cx dX9_state_18 ?_
    exact gg_lret (pc := 19) cx hQ h dX9_state_19
theorem cal_X9_rankIf : g_Cal yX9_rankIf cX9_rankIf 6 (some .long) 4 := ⟨tw_17, tw_1601, by decide, by decide, by decide +kernel⟩
theorem calv_X9_rankIf : g_CalV yX9_rankIf := ⟨tw_1599, tw_1600⟩
set_option maxRecDepth 100000 in
set_option maxHeartbeats 4000000 in
theorem ct_X9_rankIf {l : Launch} (hl : l.stackTraces = false) {t : gT} (hM : g_hM t) {o0 : Nat} {x1 : Int32} {x2 : Int32} {x3 : Int32} {x4 : Int32} (v0 : o0 < 1) {M : gM} {K : Int64 → gM → Prop} (h : wp_X9_rankIf o0 x1 x2 x3 x4 M K) : Met l yX9_rankIf (g_y yX9_rankIf cX9_rankIf 6 (some .long)) rm_X9_rankIf (va_Pc [.ref (gAd t 9 o0), .int x1, .int x2, .int x3, .int x4] (g_Pre t M)) (va_Ql K (g_B t) (g_A t)) rm_X9_rankIf.cells rm_X9_rankIf.slots (g_A t) := by
  refine g_met hl rfl (Nat.le_of_ble_eq_true rfl) (fun X hlX cx hQ => ?_)
  subst hlX
  refine gg_aload_n (pc := 0) cx 0 rfl dX9_rankIf_0 rfl ?_
  refine gg_iconst (pc := 1) cx (v := 0) dX9_rankIf_1 (by decide) ?_
  refine gp_Model_thrown (pc := 2) cx (hM 9 _ rfl v0) tw_1310 dX9_rankIf_2 ?_
  refine gg_mem (fun M2 eM2 => ?_)
  have h := h M2 eM2
  refine gg_iload_n (pc := 5) cx 1 rfl dX9_rankIf_5 rfl ?_
  refine gg_callSi (pc := 6) cx cal_X9_isFlow tw_1431 (ct_X9_isFlow cx.tr hM  h) tw_1430 rfl (st := []) rfl (Nat.le_of_ble_eq_true rfl) ⟨Nat.le_of_ble_eq_true rfl, Nat.le_of_ble_eq_true rfl⟩ ⟨Nat.le_of_ble_eq_true rfl, Nat.le_of_ble_eq_true rfl⟩ dX9_rankIf_6 (fun r6 M6 h => ?_)
  refine gg_if_ne (pc := 9) cx (tgt := 19) dX9_rankIf_9 (by decide) (fun c9 => ?_) (fun c9 => ?_)
  · have h := g_if c9 h
    refine gg_iload_n (pc := 19) cx 2 rfl dX9_rankIf_19 rfl ?_
    refine gg_iload_n (pc := 20) cx 3 rfl dX9_rankIf_20 rfl ?_
    refine gg_iload (pc := 21) cx 4 rfl dX9_rankIf_21 ?_
    refine gg_callSi (pc := 23) cx cal_X9_isPacketLike tw_1464 (ct_X9_isPacketLike cx.tr hM  h) tw_1463 rfl (st := []) rfl (Nat.le_of_ble_eq_true rfl) ⟨Nat.le_of_ble_eq_true rfl, Nat.le_of_ble_eq_true rfl⟩ ⟨Nat.le_of_ble_eq_true rfl, Nat.le_of_ble_eq_true rfl⟩ dX9_rankIf_23 (fun r23 M23 h => ?_)
    refine gg_if_ne (pc := 26) cx (tgt := 36) dX9_rankIf_26 (by decide) (fun c26 => ?_) (fun c26 => ?_)
    · have h := g_if c26 h
      refine gg_aload_n (pc := 36) cx 0 rfl dX9_rankIf_36 rfl ?_
      refine gf_Model_v (pc := 37) cx (hM 9 _ rfl v0) tw_1306 dX9_rankIf_37 ?_
      refine gg_iload_n (pc := 40) cx 1 rfl dX9_rankIf_40 rfl ?_
      refine gg_callSi (pc := 41) cx cal_X9_flow tw_1297 (ct_X9_flow cx.tr hM  h) tw_1296 rfl (st := [.ref (gAd t 47 o0)]) rfl (Nat.le_of_ble_eq_true rfl) ⟨Nat.le_of_ble_eq_true rfl, Nat.le_of_ble_eq_true rfl⟩ ⟨Nat.le_of_ble_eq_true rfl, Nat.le_of_ble_eq_true rfl⟩ dX9_rankIf_41 (fun r41 M41 h => ?_)
      refine gg_iconst (pc := 44) cx (v := 1) dX9_rankIf_44 (by decide) ?_
      refine gg_iadd (pc := 45) cx dX9_rankIf_45 ?_
      have q46 := h.1
      have h := h.2
      refine gg_lald (pc := 46) cx (hM 47 _ rfl v0) rfl q46 dX9_rankIf_46 ?_
      refine gg_l2i (pc := 47) cx dX9_rankIf_47 ?_
      refine gg_topi (fun n48 en48 => ?_)
      have h := h n48 en48
      refine gg_istore (pc := 48) cx [(5, .int n48), (0, .ref (gAd t 9 o0)), (1, .int x1), (2, .int x2), (3, .int x3), (4, .int x4)] dX9_rankIf_48 (by decide) rfl ?_
      refine gg_aload_n (pc := 50) cx 1 rfl dX9_rankIf_50 rfl ?_
      refine gf_Model_has (pc := 51) cx (hM 9 _ rfl v0) tw_1325 dX9_rankIf_51 ?_
      refine gg_iconst (pc := 54) cx (v := 0) dX9_rankIf_54 (by decide) ?_
      refine gg_iload_n (pc := 55) cx 4 rfl dX9_rankIf_55 rfl ?_
      refine gg_i2l (pc := 56) cx dX9_rankIf_56 ?_
      have q57 := h.1
      have h := h.2
      refine gg_last (pc := 57) cx (hM 58 _ rfl v0) (fun _ _ => rfl) q57 dX9_rankIf_57 ?_
      refine gg_mem (fun M57 eM57 => ?_)
      have h := h M57 eM57
      refine gg_aload_n (pc := 58) cx 1 rfl dX9_rankIf_58 rfl ?_
      refine gf_Model_has (pc := 59) cx (hM 9 _ rfl v0) tw_1325 dX9_rankIf_59 ?_
      refine gg_iconst (pc := 62) cx (v := 1) dX9_rankIf_62 (by decide) ?_
      refine gg_iload_n (pc := 63) cx 3 rfl dX9_rankIf_63 rfl ?_
      refine gg_i2l (pc := 64) cx dX9_rankIf_64 ?_
      have q65 := h.1
      have h := h.2
      refine gg_last (pc := 65) cx (hM 58 _ rfl v0) (fun _ _ => rfl) q65 dX9_rankIf_65 ?_
      refine gg_mem (fun M65 eM65 => ?_)
      have h := h M65 eM65
      refine gg_aload_n (pc := 66) cx 1 rfl dX9_rankIf_66 rfl ?_
      refine gf_Model_has (pc := 67) cx (hM 9 _ rfl v0) tw_1325 dX9_rankIf_67 ?_
      refine gg_iconst (pc := 70) cx (v := 2) dX9_rankIf_70 (by decide) ?_
      refine gg_aload_n (pc := 71) cx 1 rfl dX9_rankIf_71 rfl ?_
      refine gf_Model_v (pc := 72) cx (hM 9 _ rfl v0) tw_1306 dX9_rankIf_72 ?_
      refine gg_iconst (pc := 75) cx (v := 0) dX9_rankIf_75 (by decide) ?_
      have q76 := h.1
      have h := h.2
      refine gg_lald (pc := 76) cx (hM 47 _ rfl v0) rfl q76 dX9_rankIf_76 ?_
      refine gg_iload (pc := 77) cx 5 rfl dX9_rankIf_77 ?_
      refine gg_i2l (pc := 79) cx dX9_rankIf_79 ?_
      refine gg_ladd (pc := 80) cx dX9_rankIf_80 ?_
      have q81 := h.1
      have h := h.2
      refine gg_last (pc := 81) cx (hM 58 _ rfl v0) (fun _ _ => rfl) q81 dX9_rankIf_81 ?_
      refine gg_mem (fun M81 eM81 => ?_)
      have h := h M81 eM81
      refine gg_aload_n (pc := 82) cx 1 rfl dX9_rankIf_82 rfl ?_
      refine gg_iload (pc := 83) cx 0 rfl dX9_rankIf_83 ?_
      refine gg_iload_n (pc := 85) cx 2 rfl dX9_rankIf_85 rfl ?_
      refine gg_aload_n (pc := 86) cx 1 rfl dX9_rankIf_86 rfl ?_
      refine gf_Model_v (pc := 87) cx (hM 9 _ rfl v0) tw_1306 dX9_rankIf_87 ?_
      refine gg_iload_n (pc := 90) cx 2 rfl dX9_rankIf_90 rfl ?_
      refine gg_callSi (pc := 91) cx cal_X9_flow tw_1297 (ct_X9_flow cx.tr hM  h) tw_1296 rfl (st := [.ref (gAd t 47 o0), .int x1, .int n48, .ref (gAd t 9 o0)]) rfl (Nat.le_of_ble_eq_true rfl) ⟨Nat.le_of_ble_eq_true rfl, Nat.le_of_ble_eq_true rfl⟩ ⟨Nat.le_of_ble_eq_true rfl, Nat.le_of_ble_eq_true rfl⟩ dX9_rankIf_91 (fun r91 M91 h => ?_)
      refine gg_iconst (pc := 94) cx (v := 0) dX9_rankIf_94 (by decide) ?_
      refine gg_iadd (pc := 95) cx dX9_rankIf_95 ?_
      have q96 := h.1
      have h := h.2
      refine gg_lald (pc := 96) cx (hM 47 _ rfl v0) rfl q96 dX9_rankIf_96 ?_
      refine gg_aload_n (pc := 97) cx 1 rfl dX9_rankIf_97 rfl ?_
      refine gf_Model_v (pc := 98) cx (hM 9 _ rfl v0) tw_1306 dX9_rankIf_98 ?_
      refine gg_iconst (pc := 101) cx (v := 0) dX9_rankIf_101 (by decide) ?_
      have q102 := h.1
      have h := h.2
      refine gg_lald (pc := 102) cx (hM 47 _ rfl v0) rfl q102 dX9_rankIf_102 ?_
      refine gg_callVv (pc := 103) cx cal_X9_prepares calv_X9_prepares (ct_X9_prepares cx.tr hM v0 h) tw_1482 (hM 9 _ rfl v0) rfl rfl rfl (st := []) rfl (Nat.le_of_ble_eq_true rfl) ⟨Nat.le_of_ble_eq_true rfl, Nat.le_of_ble_eq_true rfl⟩ ⟨Nat.le_of_ble_eq_true rfl, Nat.le_of_ble_eq_true rfl⟩ dX9_rankIf_103 (fun M103 h => ?_)
      refine gg_aload_n (pc := 106) cx 1 rfl dX9_rankIf_106 rfl ?_
      refine gg_aload_n (pc := 107) cx 1 rfl dX9_rankIf_107 rfl ?_
      refine gf_Model_v (pc := 108) cx (hM 9 _ rfl v0) tw_1306 dX9_rankIf_108 ?_
      refine gg_iload (pc := 111) cx 0 rfl dX9_rankIf_111 ?_
      refine gg_callSi (pc := 113) cx cal_X9_node tw_1300 (ct_X9_node cx.tr hM  h) tw_1299 rfl (st := [.ref (gAd t 47 o0), .ref (gAd t 9 o0)]) rfl (Nat.le_of_ble_eq_true rfl) ⟨Nat.le_of_ble_eq_true rfl, Nat.le_of_ble_eq_true rfl⟩ ⟨Nat.le_of_ble_eq_true rfl, Nat.le_of_ble_eq_true rfl⟩ dX9_rankIf_113 (fun r113 M113 h => ?_)
      refine gg_bipush (pc := 116) cx (v := 7) dX9_rankIf_116 (by decide) ?_
      refine gg_iadd (pc := 118) cx dX9_rankIf_118 ?_
      have q119 := h.1
      have h := h.2
      refine gg_lald (pc := 119) cx (hM 47 _ rfl v0) rfl q119 dX9_rankIf_119 ?_
      refine gg_aload_n (pc := 120) cx 1 rfl dX9_rankIf_120 rfl ?_
      refine gf_Model_v (pc := 121) cx (hM 9 _ rfl v0) tw_1306 dX9_rankIf_121 ?_
      refine gg_iload (pc := 124) cx 0 rfl dX9_rankIf_124 ?_
      refine gg_callSi (pc := 126) cx cal_X9_node tw_1300 (ct_X9_node cx.tr hM  h) tw_1299 rfl (st := [.ref (gAd t 47 o0), .long (M113.2 47 o0 (r113 + 7).toNatClampNeg), .ref (gAd t 9 o0)]) rfl (Nat.le_of_ble_eq_true rfl) ⟨Nat.le_of_ble_eq_true rfl, Nat.le_of_ble_eq_true rfl⟩ ⟨Nat.le_of_ble_eq_true rfl, Nat.le_of_ble_eq_true rfl⟩ dX9_rankIf_126 (fun r126 M126 h => ?_)
      refine gg_bipush (pc := 129) cx (v := 8) dX9_rankIf_129 (by decide) ?_
      refine gg_iadd (pc := 131) cx dX9_rankIf_131 ?_
      have q132 := h.1
      have h := h.2
      refine gg_lald (pc := 132) cx (hM 47 _ rfl v0) rfl q132 dX9_rankIf_132 ?_
      refine gg_callVl (pc := 133) cx cal_X9_worked calv_X9_worked (ct_X9_worked cx.tr hM v0 h) tw_1486 (hM 9 _ rfl v0) rfl rfl rfl (st := []) rfl (Nat.le_of_ble_eq_true rfl) ⟨Nat.le_of_ble_eq_true rfl, Nat.le_of_ble_eq_true rfl⟩ ⟨Nat.le_of_ble_eq_true rfl, Nat.le_of_ble_eq_true rfl⟩ dX9_rankIf_133 (fun r133 M133 h => ?_)
      exact gg_lret (pc := 136) cx hQ h dX9_rankIf_136
    · have h := g_it c26 h
      refine gg_aload_n (pc := 29) cx 0 rfl dX9_rankIf_29 rfl ?_
      refine gg_iconst (pc := 30) cx (v := 2) dX9_rankIf_30 (by decide) ?_
      refine gg_callVi (pc := 31) cx cal_X9_fails calv_X9_fails (ct_X9_fails cx.tr hM v0 h) tw_1377 (hM 9 _ rfl v0) rfl rfl rfl (st := []) rfl (Nat.le_of_ble_eq_true rfl) ⟨Nat.le_of_ble_eq_true rfl, Nat.le_of_ble_eq_true rfl⟩ ⟨Nat.le_of_ble_eq_true rfl, Nat.le_of_ble_eq_true rfl⟩ dX9_rankIf_31 (fun r31 M31 h => ?_)
      refine gg_i2l (pc := 34) cx dX9_rankIf_34 ?_
      exact gg_lret (pc := 35) cx hQ h dX9_rankIf_35
  · have h := g_it c9 h
    refine gg_aload_n (pc := 12) cx 0 rfl dX9_rankIf_12 rfl ?_
    refine gg_iconst (pc := 13) cx (v := 1) dX9_rankIf_13 (by decide) ?_
    refine gg_callVi (pc := 14) cx cal_X9_fails calv_X9_fails (ct_X9_fails cx.tr hM v0 h) tw_1377 (hM 9 _ rfl v0) rfl rfl rfl (st := []) rfl (Nat.le_of_ble_eq_true rfl) ⟨Nat.le_of_ble_eq_true rfl, Nat.le_of_ble_eq_true rfl⟩ ⟨Nat.le_of_ble_eq_true rfl, Nat.le_of_ble_eq_true rfl⟩ dX9_rankIf_14 (fun r14 M14 h => ?_)
    refine gg_i2l (pc := 17) cx dX9_rankIf_17 ?_
    exact gg_lret (pc := 18) cx hQ h dX9_rankIf_18
set_option maxRecDepth 100000 in
set_option maxHeartbeats 4000000 in
theorem wk_X9_lays_L2 {t : gT} {X : gX} (cx : g_Cx t X cX9_lays 3 RX9 (none)) (hM : g_hM t) {K : gM → Prop} (hQ : gXQ X = MQ (gXb X) (va_Qv K (g_B t) (g_A t)) (gXa X) (gXs X) rm_X9_lays.cells rm_X9_lays.slots (g_A t)) (f : Nat) : ∀ (o0 : Nat) (x1 : Int32) (x2 : Int32) (M : gM), o0 < 1 → wp_X9_lays_L2 K f o0 x1 x2 M → G t rm_X9_lays X 3 0 0 M [(0, .ref (gAd t 9 o0)), (1, .int x1), (2, .int x2)] [] 2 := by
  induction f with
  | zero => intro _ _ _ _ _ _; exact False.elim (by assumption)
  | succ f ih =>
    intro o0 x1 x2 M v0 h
    refine gg_iload_n (pc := 2) cx 2 rfl dX9_lays_2 rfl ?_
    refine gg_sipush (pc := 3) cx (v := 7600) dX9_lays_3 (by decide) ?_
    refine gg_icmp_ge (pc := 6) cx (tgt := 46) dX9_lays_6 (by decide) (fun c6 => ?_) (fun c6 => ?_)
    · have h := g_it c6 h
      exact gg_vret (pc := 46) cx hQ h dX9_lays_46
    · have h := g_if c6 h
      refine gg_iload_n (pc := 9) cx 1 rfl dX9_lays_9 rfl ?_
      refine gg_if_eq (pc := 10) cx (tgt := 28) dX9_lays_10 (by decide) (fun c10 => ?_) (fun c10 => ?_)
      · have h := g_it c10 h
        refine gg_aload_n (pc := 28) cx 0 rfl dX9_lays_28 rfl ?_
        refine gf_Model_v (pc := 29) cx (hM 9 _ rfl v0) tw_1306 dX9_lays_29 ?_
        refine gg_iload_n (pc := 32) cx 2 rfl dX9_lays_32 rfl ?_
        refine gg_aload_n (pc := 33) cx 0 rfl dX9_lays_33 rfl ?_
        refine gf_Model_aside (pc := 34) cx (hM 9 _ rfl v0) tw_1307 dX9_lays_34 ?_
        refine gg_iload_n (pc := 37) cx 2 rfl dX9_lays_37 rfl ?_
        have q38 := h.1
        have h := h.2
        refine gg_lald (pc := 38) cx (hM 48 _ rfl v0) rfl q38 dX9_lays_38 ?_
        have q39 := h.1
        have h := h.2
        refine gg_last (pc := 39) cx (hM 47 _ rfl v0) (fun _ _ => rfl) q39 dX9_lays_39 ?_
        refine gg_mem (fun M39 eM39 => ?_)
        have h := h M39 eM39
        obtain ⟨n40, en40⟩ : ∃ z : Int32, z = x2 + Int32.ofInt (1) := ⟨_, rfl⟩
        have h := h n40 en40
        refine gg_iinc (pc := 40) cx 2 [(2, .int n40), (0, .ref (gAd t 9 o0)), (1, .int x1)] dX9_lays_40 rfl en40.symm (by decide) rfl ?_
        refine gg_goto (pc := 43) cx (tgt := 2) dX9_lays_43 (by decide) ?_
        refine gg_lv (lv' := [(0, .ref (gAd t 9 o0)), (1, .int x1), (2, .int n40)]) [1, 2, 0] rfl ?_
        exact ih o0 x1 n40 M39 v0 h
      · have h := g_if c10 h
        refine gg_aload_n (pc := 13) cx 0 rfl dX9_lays_13 rfl ?_
        refine gf_Model_aside (pc := 14) cx (hM 9 _ rfl v0) tw_1307 dX9_lays_14 ?_
        refine gg_iload_n (pc := 17) cx 2 rfl dX9_lays_17 rfl ?_
        refine gg_aload_n (pc := 18) cx 0 rfl dX9_lays_18 rfl ?_
        refine gf_Model_v (pc := 19) cx (hM 9 _ rfl v0) tw_1306 dX9_lays_19 ?_
        refine gg_iload_n (pc := 22) cx 2 rfl dX9_lays_22 rfl ?_
        have q23 := h.1
        have h := h.2
        refine gg_lald (pc := 23) cx (hM 47 _ rfl v0) rfl q23 dX9_lays_23 ?_
        have q24 := h.1
        have h := h.2
        refine gg_last (pc := 24) cx (hM 48 _ rfl v0) (fun _ _ => rfl) q24 dX9_lays_24 ?_
        refine gg_mem (fun M24 eM24 => ?_)
        have h := h M24 eM24
        refine gg_goto (pc := 25) cx (tgt := 40) dX9_lays_25 (by decide) ?_
        obtain ⟨n40, en40⟩ : ∃ z : Int32, z = x2 + Int32.ofInt (1) := ⟨_, rfl⟩
        have h := h n40 en40
        refine gg_iinc (pc := 40) cx 2 [(2, .int n40), (0, .ref (gAd t 9 o0)), (1, .int x1)] dX9_lays_40 rfl en40.symm (by decide) rfl ?_
        refine gg_goto (pc := 43) cx (tgt := 2) dX9_lays_43 (by decide) ?_
        refine gg_lv (lv' := [(0, .ref (gAd t 9 o0)), (1, .int x1), (2, .int n40)]) [1, 2, 0] rfl ?_
        exact ih o0 x1 n40 M24 v0 h
theorem cal_X9_lays : g_Cal yX9_lays cX9_lays 3 (none) 1 := ⟨tw_17, tw_1609, by decide, by decide, by decide +kernel⟩
theorem calv_X9_lays : g_CalV yX9_lays := ⟨tw_1608, ts_67⟩
set_option maxRecDepth 100000 in
set_option maxHeartbeats 4000000 in
theorem ct_X9_lays {l : Launch} (hl : l.stackTraces = false) {t : gT} (hM : g_hM t) {o0 : Nat} {x1 : Int32} (v0 : o0 < 1) {M : gM} {K : gM → Prop} (h : wp_X9_lays o0 x1 M K) : Met l yX9_lays (g_y yX9_lays cX9_lays 3 (none)) rm_X9_lays (va_Pc [.ref (gAd t 9 o0), .int x1] (g_Pre t M)) (va_Qv K (g_B t) (g_A t)) rm_X9_lays.cells rm_X9_lays.slots (g_A t) := by
  refine g_met hl rfl (Nat.le_of_ble_eq_true rfl) (fun X hlX cx hQ => ?_)
  subst hlX
  refine gg_iconst (pc := 0) cx (v := 0) dX9_lays_0 (by decide) ?_
  refine gg_istore_n (pc := 1) cx [(2, .int 0), (0, .ref (gAd t 9 o0)), (1, .int x1)] dX9_lays_1 rfl (by decide) rfl ?_
  refine gg_lv (lv' := [(0, .ref (gAd t 9 o0)), (1, .int x1), (2, .int 0)]) [1, 2, 0] rfl ?_
  obtain ⟨f2, h⟩ := h
  exact wk_X9_lays_L2 cx hM hQ f2 o0 x1 0 M v0 h
set_option maxRecDepth 100000 in
set_option maxHeartbeats 4000000 in
theorem wk_X9_peek_b44 {t : gT} {X : gX} (cx : g_Cx t X cX9_peek 4 RX9 (some .int)) (hM : g_hM t) {K : Int32 → gM → Prop} (hQ : gXQ X = MQ (gXb X) (va_Qi K (g_B t) (g_A t)) (gXa X) (gXs X) rm_X9_peek.cells rm_X9_peek.slots (g_A t)) {o0 : Nat} {x2 : Int32} {M : gM} (v0 : o0 < 1) (h : wp_X9_peek_b44 K o0 x2 M) : G t rm_X9_peek X 4 0 0 M [(0, .ref (gAd t 9 o0)), (2, .int x2)] [] 44 := by
  refine gg_aload_n (pc := 44) cx 0 rfl dX9_peek_44 rfl ?_
  refine gg_iconst (pc := 45) cx (v := 0) dX9_peek_45 (by decide) ?_
  refine gg_callVv (pc := 46) cx cal_X9_lays calv_X9_lays (ct_X9_lays cx.tr hM v0 h) tw_1606 (hM 9 _ rfl v0) rfl rfl rfl (st := []) rfl (Nat.le_of_ble_eq_true rfl) ⟨Nat.le_of_ble_eq_true rfl, Nat.le_of_ble_eq_true rfl⟩ ⟨Nat.le_of_ble_eq_true rfl, Nat.le_of_ble_eq_true rfl⟩ dX9_peek_46 (fun M46 h => ?_)
  refine gg_iload_n (pc := 49) cx 1 rfl dX9_peek_49 rfl ?_
  exact gg_iret (pc := 50) cx hQ h dX9_peek_50
set_option maxRecDepth 100000 in
set_option maxHeartbeats 4000000 in
theorem wk_X9_peek_L24 {t : gT} {X : gX} (cx : g_Cx t X cX9_peek 4 RX9 (some .int)) (hM : g_hM t) {K : Int32 → gM → Prop} (hQ : gXQ X = MQ (gXb X) (va_Qi K (g_B t) (g_A t)) (gXa X) (gXs X) rm_X9_peek.cells rm_X9_peek.slots (g_A t)) (f : Nat) : ∀ (o0 : Nat) (x1 : Int32) (x2 : Int32) (x3 : Int32) (M : gM), o0 < 1 → wp_X9_peek_L24 K f o0 x1 x2 x3 M → G t rm_X9_peek X 4 0 0 M [(0, .ref (gAd t 9 o0)), (1, .int x1), (2, .int x2), (3, .int x3)] [] 24 := by
  induction f with
  | zero => intro _ _ _ _ _ _ _; exact False.elim (by assumption)
  | succ f ih =>
    intro o0 x1 x2 x3 M v0 h
    refine gg_iload_n (pc := 24) cx 3 rfl dX9_peek_24 rfl ?_
    refine gg_iload_n (pc := 25) cx 1 rfl dX9_peek_25 rfl ?_
    refine gg_icmp_gt (pc := 26) cx (tgt := 44) dX9_peek_26 (by decide) (fun c26 => ?_) (fun c26 => ?_)
    · have h := g_it c26 h
      refine gg_lv (lv' := [(0, .ref (gAd t 9 o0)), (2, .int x2)]) [0, 2] rfl ?_
      exact wk_X9_peek_b44 cx hM hQ v0 h
    · have h := g_if c26 h
      refine gg_iload_n (pc := 29) cx 2 rfl dX9_peek_29 rfl ?_
      refine gg_if_lt (pc := 30) cx (tgt := 44) dX9_peek_30 (by decide) (fun c30 => ?_) (fun c30 => ?_)
      · have h := g_it c30 h
        refine gg_lv (lv' := [(0, .ref (gAd t 9 o0)), (2, .int x2)]) [0, 2] rfl ?_
        exact wk_X9_peek_b44 cx hM hQ v0 h
      · have h := g_if c30 h
        refine gg_aload_n (pc := 33) cx 0 rfl dX9_peek_33 rfl ?_
        refine gg_callVi (pc := 34) cx cal_X9_goes calv_X9_goes (ct_X9_goes cx.tr hM v0 h) tw_1512 (hM 9 _ rfl v0) rfl rfl rfl (st := []) rfl (Nat.le_of_ble_eq_true rfl) ⟨Nat.le_of_ble_eq_true rfl, Nat.le_of_ble_eq_true rfl⟩ ⟨Nat.le_of_ble_eq_true rfl, Nat.le_of_ble_eq_true rfl⟩ dX9_peek_34 (fun r34 M34 h => ?_)
        refine gg_istore_n (pc := 37) cx [(2, .int r34), (0, .ref (gAd t 9 o0)), (1, .int x1), (3, .int x3)] dX9_peek_37 rfl (by decide) rfl ?_
        obtain ⟨n38, en38⟩ : ∃ z : Int32, z = x3 + Int32.ofInt (1) := ⟨_, rfl⟩
        have h := h n38 en38
        refine gg_iinc (pc := 38) cx 3 [(3, .int n38), (2, .int r34), (0, .ref (gAd t 9 o0)), (1, .int x1)] dX9_peek_38 rfl en38.symm (by decide) rfl ?_
        refine gg_goto (pc := 41) cx (tgt := 24) dX9_peek_41 (by decide) ?_
        refine gg_lv (lv' := [(0, .ref (gAd t 9 o0)), (1, .int x1), (2, .int r34), (3, .int n38)]) [2, 3, 1, 0] rfl ?_
        exact ih o0 x1 r34 n38 M34 v0 h
theorem cal_X9_peek : g_Cal yX9_peek cX9_peek 4 (some .int) 1 := ⟨tw_17, tw_1605, by decide, by decide, by decide +kernel⟩
theorem calv_X9_peek : g_CalV yX9_peek := ⟨tw_1603, tw_1604⟩
set_option maxRecDepth 100000 in
set_option maxHeartbeats 4000000 in
theorem ct_X9_peek {l : Launch} (hl : l.stackTraces = false) {t : gT} (hM : g_hM t) {o0 : Nat} {x1 : Int32} (v0 : o0 < 1) {M : gM} {K : Int32 → gM → Prop} (h : wp_X9_peek o0 x1 M K) : Met l yX9_peek (g_y yX9_peek cX9_peek 4 (some .int)) rm_X9_peek (va_Pc [.ref (gAd t 9 o0), .int x1] (g_Pre t M)) (va_Qi K (g_B t) (g_A t)) rm_X9_peek.cells rm_X9_peek.slots (g_A t) := by
  refine g_met hl rfl (Nat.le_of_ble_eq_true rfl) (fun X hlX cx hQ => ?_)
  subst hlX
  refine gg_aload_n (pc := 0) cx 0 rfl dX9_peek_0 rfl ?_
  refine gg_iconst (pc := 1) cx (v := 0) dX9_peek_1 (by decide) ?_
  refine gp_Model_thrown (pc := 2) cx (hM 9 _ rfl v0) tw_1310 dX9_peek_2 ?_
  refine gg_mem (fun M2 eM2 => ?_)
  have h := h M2 eM2
  refine gg_iload_n (pc := 5) cx 1 rfl dX9_peek_5 rfl ?_
  refine gg_if_ge (pc := 6) cx (tgt := 15) dX9_peek_6 (by decide) (fun c6 => ?_) (fun c6 => ?_)
  · have h := g_it c6 h
    refine gg_aload_n (pc := 15) cx 0 rfl dX9_peek_15 rfl ?_
    refine gg_iconst (pc := 16) cx (v := 1) dX9_peek_16 (by decide) ?_
    refine gg_callVv (pc := 17) cx cal_X9_lays calv_X9_lays (ct_X9_lays cx.tr hM v0 h) tw_1606 (hM 9 _ rfl v0) rfl rfl rfl (st := []) rfl (Nat.le_of_ble_eq_true rfl) ⟨Nat.le_of_ble_eq_true rfl, Nat.le_of_ble_eq_true rfl⟩ ⟨Nat.le_of_ble_eq_true rfl, Nat.le_of_ble_eq_true rfl⟩ dX9_peek_17 (fun M17 h => ?_)
    refine gg_iconst (pc := 20) cx (v := 0) dX9_peek_20 (by decide) ?_
    refine gg_istore_n (pc := 21) cx [(2, .int 0), (0, .ref (gAd t 9 o0)), (1, .int x1)] dX9_peek_21 rfl (by decide) rfl ?_
    refine gg_iconst (pc := 22) cx (v := 0) dX9_peek_22 (by decide) ?_
    refine gg_istore_n (pc := 23) cx [(3, .int 0), (2, .int 0), (0, .ref (gAd t 9 o0)), (1, .int x1)] dX9_peek_23 rfl (by decide) rfl ?_
    refine gg_lv (lv' := [(0, .ref (gAd t 9 o0)), (1, .int x1), (2, .int 0), (3, .int 0)]) [2, 3, 1, 0] rfl ?_
    obtain ⟨f24, h⟩ := h
    exact wk_X9_peek_L24 cx hM hQ f24 o0 x1 0 0 M17 v0 h
  · have h := g_if c6 h
    refine gg_aload_n (pc := 9) cx 0 rfl dX9_peek_9 rfl ?_
    refine gg_iconst (pc := 10) cx (v := 1) dX9_peek_10 (by decide) ?_
    refine gg_callVi (pc := 11) cx cal_X9_fails calv_X9_fails (ct_X9_fails cx.tr hM v0 h) tw_1377 (hM 9 _ rfl v0) rfl rfl rfl (st := []) rfl (Nat.le_of_ble_eq_true rfl) ⟨Nat.le_of_ble_eq_true rfl, Nat.le_of_ble_eq_true rfl⟩ ⟨Nat.le_of_ble_eq_true rfl, Nat.le_of_ble_eq_true rfl⟩ dX9_peek_11 (fun r11 M11 h => ?_)
    exact gg_iret (pc := 14) cx hQ h dX9_peek_14
set_option maxRecDepth 100000 in
set_option maxHeartbeats 4000000 in
theorem wk_X9_departureIf_b142 {t : gT} {X : gX} (cx : g_Cx t X cX9_departureIf 8 RX9 (some .long)) (hM : g_hM t) {K : Int64 → gM → Prop} (hQ : gXQ X = MQ (gXb X) (va_Ql K (g_B t) (g_A t)) (gXa X) (gXs X) rm_X9_departureIf.cells rm_X9_departureIf.slots (g_A t)) {o0 : Nat} {y2 : Int64} {M : gM} (v0 : o0 < 1) (h : wp_X9_departureIf_b142 K o0 y2 M) : G t rm_X9_departureIf X 8 0 0 M [(0, .ref (gAd t 9 o0)), (2, .long y2)] [] 142 := by
  refine gg_aload_n (pc := 142) cx 0 rfl dX9_departureIf_142 rfl ?_
  refine gg_iconst (pc := 143) cx (v := 0) dX9_departureIf_143 (by decide) ?_
  refine gg_callVv (pc := 144) cx cal_X9_lays calv_X9_lays (ct_X9_lays cx.tr hM v0 h) tw_1606 (hM 9 _ rfl v0) rfl rfl rfl (st := []) rfl (Nat.le_of_ble_eq_true rfl) ⟨Nat.le_of_ble_eq_true rfl, Nat.le_of_ble_eq_true rfl⟩ ⟨Nat.le_of_ble_eq_true rfl, Nat.le_of_ble_eq_true rfl⟩ dX9_departureIf_144 (fun M144 h => ?_)
  refine gg_lload_n (pc := 147) cx 1 rfl dX9_departureIf_147 rfl ?_
  exact gg_lret (pc := 148) cx hQ h dX9_departureIf_148
set_option maxRecDepth 100000 in
set_option maxHeartbeats 4000000 in
theorem wk_X9_departureIf_b101 {t : gT} {X : gX} (cx : g_Cx t X cX9_departureIf 8 RX9 (some .long)) (hM : g_hM t) {K : Int64 → gM → Prop} (hQ : gXQ X = MQ (gXb X) (va_Ql K (g_B t) (g_A t)) (gXa X) (gXs X) rm_X9_departureIf.cells rm_X9_departureIf.slots (g_A t)) {R58 : Nat → Int32 → Int64 → Int32 → gM → Prop} (hR58 : ∀ (o0 : Nat) (x1 : Int32) (y2 : Int64) (x4 : Int32) (M : gM), o0 < 1 → R58 o0 x1 y2 x4 M → G t rm_X9_departureIf X 8 0 0 M [(0, .ref (gAd t 9 o0)), (1, .int x1), (2, .long y2), (4, .int x4)] [] 58) {o0 : Nat} {x1 : Int32} {x4 : Int32} {x5 : Int32} {ys0 : Int64} {M : gM} (v0 : o0 < 1) (h : wp_X9_departureIf_b101 R58 K o0 x1 x4 x5 ys0 M) : G t rm_X9_departureIf X 8 0 0 M [(0, .ref (gAd t 9 o0)), (1, .int x1), (4, .int x4), (5, .int x5)] [.long ys0] 101 := by
  refine gg_lstore_n (pc := 101) cx [(2, .long ys0), (0, .ref (gAd t 9 o0)), (1, .int x1), (4, .int x4), (5, .int x5)] dX9_departureIf_101 rfl (by decide) rfl ?_
  refine gg_aload_n (pc := 102) cx 1 rfl dX9_departureIf_102 rfl ?_
  refine gg_callVi (pc := 103) cx cal_X9_nextHeld calv_X9_nextHeld (ct_X9_nextHeld cx.tr hM v0 h) tw_1550 (hM 9 _ rfl v0) rfl rfl rfl (st := []) rfl (Nat.le_of_ble_eq_true rfl) ⟨Nat.le_of_ble_eq_true rfl, Nat.le_of_ble_eq_true rfl⟩ ⟨Nat.le_of_ble_eq_true rfl, Nat.le_of_ble_eq_true rfl⟩ dX9_departureIf_103 (fun r103 M103 h => ?_)
  refine gg_istore (pc := 106) cx [(6, .int r103), (2, .long ys0), (0, .ref (gAd t 9 o0)), (1, .int x1), (4, .int x4), (5, .int x5)] dX9_departureIf_106 (by decide) rfl ?_
  refine gg_iload (pc := 108) cx 5 rfl dX9_departureIf_108 ?_
  refine gg_if_ge (pc := 110) cx (tgt := 136) dX9_departureIf_110 (by decide) (fun c110 => ?_) (fun c110 => ?_)
  · have h := g_it c110 h
    obtain ⟨n136, en136⟩ : ∃ z : Int32, z = x4 + Int32.ofInt (1) := ⟨_, rfl⟩
    have h := h n136 en136
    refine gg_iinc (pc := 136) cx 4 [(4, .int n136), (6, .int r103), (2, .long ys0), (0, .ref (gAd t 9 o0)), (1, .int x1), (5, .int x5)] dX9_departureIf_136 rfl en136.symm (by decide) rfl ?_
    refine gg_goto (pc := 139) cx (tgt := 58) dX9_departureIf_139 (by decide) ?_
    refine gg_lv (lv' := [(0, .ref (gAd t 9 o0)), (1, .int x1), (2, .long ys0), (4, .int n136)]) [3, 4, 2, 0] rfl ?_
    exact hR58 o0 x1 ys0 n136 M103 v0 h
  · have h := g_if c110 h
    refine gg_iload (pc := 113) cx 0 rfl dX9_departureIf_113 ?_
    refine gg_if_lt (pc := 115) cx (tgt := 136) dX9_departureIf_115 (by decide) (fun c115 => ?_) (fun c115 => ?_)
    · have h := g_it c115 h
      obtain ⟨n136, en136⟩ : ∃ z : Int32, z = x4 + Int32.ofInt (1) := ⟨_, rfl⟩
      have h := h n136 en136
      refine gg_iinc (pc := 136) cx 4 [(4, .int n136), (6, .int r103), (2, .long ys0), (0, .ref (gAd t 9 o0)), (1, .int x1), (5, .int x5)] dX9_departureIf_136 rfl en136.symm (by decide) rfl ?_
      refine gg_goto (pc := 139) cx (tgt := 58) dX9_departureIf_139 (by decide) ?_
      refine gg_lv (lv' := [(0, .ref (gAd t 9 o0)), (1, .int x1), (2, .long ys0), (4, .int n136)]) [3, 4, 2, 0] rfl ?_
      exact hR58 o0 x1 ys0 n136 M103 v0 h
    · have h := g_if c115 h
      refine gg_aload_n (pc := 118) cx 2 rfl dX9_departureIf_118 rfl ?_
      refine gg_aload_n (pc := 119) cx 2 rfl dX9_departureIf_119 rfl ?_
      refine gf_Model_v (pc := 120) cx (hM 9 _ rfl v0) tw_1306 dX9_departureIf_120 ?_
      refine gg_iload (pc := 123) cx 0 rfl dX9_departureIf_123 ?_
      refine gg_callSi (pc := 125) cx cal_X9_hold tw_1506 (ct_X9_hold cx.tr hM  h) tw_1505 rfl (st := [.ref (gAd t 47 o0), .ref (gAd t 9 o0)]) rfl (Nat.le_of_ble_eq_true rfl) ⟨Nat.le_of_ble_eq_true rfl, Nat.le_of_ble_eq_true rfl⟩ ⟨Nat.le_of_ble_eq_true rfl, Nat.le_of_ble_eq_true rfl⟩ dX9_departureIf_125 (fun r125 M125 h => ?_)
      refine gg_iconst (pc := 128) cx (v := 0) dX9_departureIf_128 (by decide) ?_
      refine gg_iadd (pc := 129) cx dX9_departureIf_129 ?_
      have q130 := h.1
      have h := h.2
      refine gg_lald (pc := 130) cx (hM 47 _ rfl v0) rfl q130 dX9_departureIf_130 ?_
      refine gg_callVi (pc := 131) cx cal_X9_passes calv_X9_passes (ct_X9_passes cx.tr hM v0 h) tw_1546 (hM 9 _ rfl v0) rfl rfl rfl (st := []) rfl (Nat.le_of_ble_eq_true rfl) ⟨Nat.le_of_ble_eq_true rfl, Nat.le_of_ble_eq_true rfl⟩ ⟨Nat.le_of_ble_eq_true rfl, Nat.le_of_ble_eq_true rfl⟩ dX9_departureIf_131 (fun r131 M131 h => ?_)
      refine gg_istore (pc := 134) cx [(7, .int r131), (6, .int r103), (2, .long ys0), (0, .ref (gAd t 9 o0)), (1, .int x1), (4, .int x4), (5, .int x5)] dX9_departureIf_134 (by decide) rfl ?_
      obtain ⟨n136, en136⟩ : ∃ z : Int32, z = x4 + Int32.ofInt (1) := ⟨_, rfl⟩
      have h := h n136 en136
      refine gg_iinc (pc := 136) cx 5 [(4, .int n136), (7, .int r131), (6, .int r103), (2, .long ys0), (0, .ref (gAd t 9 o0)), (1, .int x1), (5, .int x5)] dX9_departureIf_136 rfl en136.symm (by decide) rfl ?_
      refine gg_goto (pc := 139) cx (tgt := 58) dX9_departureIf_139 (by decide) ?_
      refine gg_lv (lv' := [(0, .ref (gAd t 9 o0)), (1, .int x1), (2, .long ys0), (4, .int n136)]) [4, 5, 3, 0] rfl ?_
      exact hR58 o0 x1 ys0 n136 M131 v0 h
set_option maxRecDepth 100000 in
set_option maxHeartbeats 4000000 in
theorem wk_X9_departureIf_L58 {t : gT} {X : gX} (cx : g_Cx t X cX9_departureIf 8 RX9 (some .long)) (hM : g_hM t) {K : Int64 → gM → Prop} (hQ : gXQ X = MQ (gXb X) (va_Ql K (g_B t) (g_A t)) (gXa X) (gXs X) rm_X9_departureIf.cells rm_X9_departureIf.slots (g_A t)) (f : Nat) : ∀ (o0 : Nat) (x1 : Int32) (y2 : Int64) (x4 : Int32) (M : gM), o0 < 1 → wp_X9_departureIf_L58 K f o0 x1 y2 x4 M → G t rm_X9_departureIf X 8 0 0 M [(0, .ref (gAd t 9 o0)), (1, .int x1), (2, .long y2), (4, .int x4)] [] 58 := by
  induction f with
  | zero => intro _ _ _ _ _ _ _; exact False.elim (by assumption)
  | succ f ih =>
    intro o0 x1 y2 x4 M v0 h
    refine gg_iload (pc := 58) cx 3 rfl dX9_departureIf_58 ?_
    refine gg_sipush (pc := 60) cx (v := 5000) dX9_departureIf_60 (by decide) ?_
    refine gg_icmp_ge (pc := 63) cx (tgt := 142) dX9_departureIf_63 (by decide) (fun c63 => ?_) (fun c63 => ?_)
    · have h := g_it c63 h
      refine gg_lv (lv' := [(0, .ref (gAd t 9 o0)), (2, .long y2)]) [0, 2] rfl ?_
      exact wk_X9_departureIf_b142 cx hM hQ v0 h
    · have h := g_if c63 h
      refine gg_lload_n (pc := 66) cx 2 rfl dX9_departureIf_66 rfl ?_
      refine gg_lconst (pc := 67) cx (v := 0) dX9_departureIf_67 (by decide) ?_
      refine gg_lcmp_ge (pc := 68) cx (tgt := 142) dX9_departureIf_68 dX9_departureIf_69 (by decide) (fun c68 => ?_) (fun c68 => ?_)
      · have h := g_it c68 h
        refine gg_lv (lv' := [(0, .ref (gAd t 9 o0)), (2, .long y2)]) [0, 2] rfl ?_
        exact wk_X9_departureIf_b142 cx hM hQ v0 h
      · have h := g_if c68 h
        refine gg_aload_n (pc := 72) cx 0 rfl dX9_departureIf_72 rfl ?_
        refine gg_callVi (pc := 73) cx cal_X9_sends calv_X9_sends (ct_X9_sends cx.tr hM v0 h) tw_1542 (hM 9 _ rfl v0) rfl rfl rfl (st := []) rfl (Nat.le_of_ble_eq_true rfl) ⟨Nat.le_of_ble_eq_true rfl, Nat.le_of_ble_eq_true rfl⟩ ⟨Nat.le_of_ble_eq_true rfl, Nat.le_of_ble_eq_true rfl⟩ dX9_departureIf_73 (fun r73 M73 h => ?_)
        refine gg_istore (pc := 76) cx [(5, .int r73), (0, .ref (gAd t 9 o0)), (1, .int x1), (2, .long y2), (4, .int x4)] dX9_departureIf_76 (by decide) rfl ?_
        refine gg_iload (pc := 78) cx 0 rfl dX9_departureIf_78 ?_
        refine gg_iload_n (pc := 80) cx 2 rfl dX9_departureIf_80 rfl ?_
        refine gg_icmp_ne (pc := 81) cx (tgt := 98) dX9_departureIf_81 (by decide) (fun c81 => ?_) (fun c81 => ?_)
        · have h := g_if c81 h
          refine gg_ldc2 (pc := 98) cx (v := (-1)) tw_1273 dX9_departureIf_98 ?_
          refine gg_lv (lv' := [(0, .ref (gAd t 9 o0)), (1, .int x1), (4, .int x4), (5, .int r73)]) [1, 2, 4, 0] rfl ?_
          exact wk_X9_departureIf_b101 cx hM hQ ih v0 h
        · have h := g_it c81 h
          refine gg_aload_n (pc := 84) cx 1 rfl dX9_departureIf_84 rfl ?_
          refine gf_Model_v (pc := 85) cx (hM 9 _ rfl v0) tw_1306 dX9_departureIf_85 ?_
          refine gg_iload_n (pc := 88) cx 2 rfl dX9_departureIf_88 rfl ?_
          refine gg_callSi (pc := 89) cx cal_X9_packet tw_1472 (ct_X9_packet cx.tr hM  h) tw_1471 rfl (st := [.ref (gAd t 47 o0)]) rfl (Nat.le_of_ble_eq_true rfl) ⟨Nat.le_of_ble_eq_true rfl, Nat.le_of_ble_eq_true rfl⟩ ⟨Nat.le_of_ble_eq_true rfl, Nat.le_of_ble_eq_true rfl⟩ dX9_departureIf_89 (fun r89 M89 h => ?_)
          refine gg_iconst (pc := 92) cx (v := 5) dX9_departureIf_92 (by decide) ?_
          refine gg_iadd (pc := 93) cx dX9_departureIf_93 ?_
          have q94 := h.1
          have h := h.2
          refine gg_lald (pc := 94) cx (hM 47 _ rfl v0) rfl q94 dX9_departureIf_94 ?_
          refine gg_goto (pc := 95) cx (tgt := 101) dX9_departureIf_95 (by decide) ?_
          refine gg_lv (lv' := [(0, .ref (gAd t 9 o0)), (1, .int x1), (4, .int x4), (5, .int r73)]) [1, 2, 4, 0] rfl ?_
          exact wk_X9_departureIf_b101 cx hM hQ ih v0 h
set_option maxRecDepth 100000 in
set_option maxHeartbeats 4000000 in
theorem wk_X9_departureIf_b39 {t : gT} {X : gX} (cx : g_Cx t X cX9_departureIf 8 RX9 (some .long)) (hM : g_hM t) {K : Int64 → gM → Prop} (hQ : gXQ X = MQ (gXb X) (va_Ql K (g_B t) (g_A t)) (gXa X) (gXs X) rm_X9_departureIf.cells rm_X9_departureIf.slots (g_A t)) {o0 : Nat} {M : gM} (v0 : o0 < 1) (h : wp_X9_departureIf_b39 K o0 M) : G t rm_X9_departureIf X 8 0 0 M [(0, .ref (gAd t 9 o0))] [] 39 := by
  refine gg_aload_n (pc := 39) cx 0 rfl dX9_departureIf_39 rfl ?_
  refine gg_iconst (pc := 40) cx (v := 1) dX9_departureIf_40 (by decide) ?_
  refine gg_callVi (pc := 41) cx cal_X9_fails calv_X9_fails (ct_X9_fails cx.tr hM v0 h) tw_1377 (hM 9 _ rfl v0) rfl rfl rfl (st := []) rfl (Nat.le_of_ble_eq_true rfl) ⟨Nat.le_of_ble_eq_true rfl, Nat.le_of_ble_eq_true rfl⟩ ⟨Nat.le_of_ble_eq_true rfl, Nat.le_of_ble_eq_true rfl⟩ dX9_departureIf_41 (fun r41 M41 h => ?_)
  refine gg_i2l (pc := 44) cx dX9_departureIf_44 ?_
  exact gg_lret (pc := 45) cx hQ h dX9_departureIf_45
theorem cal_X9_departureIf : g_Cal yX9_departureIf cX9_departureIf 8 (some .long) 1 := ⟨tw_17, tw_1613, by decide, by decide, by decide +kernel⟩
theorem calv_X9_departureIf : g_CalV yX9_departureIf := ⟨tw_1611, tw_1612⟩
set_option maxRecDepth 100000 in
set_option maxHeartbeats 4000000 in
theorem ct_X9_departureIf {l : Launch} (hl : l.stackTraces = false) {t : gT} (hM : g_hM t) {o0 : Nat} {x1 : Int32} (v0 : o0 < 1) {M : gM} {K : Int64 → gM → Prop} (h : wp_X9_departureIf o0 x1 M K) : Met l yX9_departureIf (g_y yX9_departureIf cX9_departureIf 8 (some .long)) rm_X9_departureIf (va_Pc [.ref (gAd t 9 o0), .int x1] (g_Pre t M)) (va_Ql K (g_B t) (g_A t)) rm_X9_departureIf.cells rm_X9_departureIf.slots (g_A t) := by
  refine g_met hl rfl (Nat.le_of_ble_eq_true rfl) (fun X hlX cx hQ => ?_)
  subst hlX
  refine gg_aload_n (pc := 0) cx 0 rfl dX9_departureIf_0 rfl ?_
  refine gg_iconst (pc := 1) cx (v := 0) dX9_departureIf_1 (by decide) ?_
  refine gp_Model_thrown (pc := 2) cx (hM 9 _ rfl v0) tw_1310 dX9_departureIf_2 ?_
  refine gg_mem (fun M2 eM2 => ?_)
  have h := h M2 eM2
  refine gg_iload_n (pc := 5) cx 1 rfl dX9_departureIf_5 rfl ?_
  refine gg_i2l (pc := 6) cx dX9_departureIf_6 ?_
  refine gg_lconst (pc := 7) cx (v := 0) dX9_departureIf_7 (by decide) ?_
  refine gg_aload_n (pc := 8) cx 0 rfl dX9_departureIf_8 rfl ?_
  refine gf_Model_v (pc := 9) cx (hM 9 _ rfl v0) tw_1306 dX9_departureIf_9 ?_
  refine gg_iconst (pc := 12) cx (v := 3) dX9_departureIf_12 (by decide) ?_
  have q13 := h.1
  have h := h.2
  refine gg_lald (pc := 13) cx (hM 47 _ rfl v0) rfl q13 dX9_departureIf_13 ?_
  refine gg_lconst (pc := 14) cx (v := 1) dX9_departureIf_14 (by decide) ?_
  refine gg_lsub (pc := 15) cx dX9_departureIf_15 ?_
  refine gg_callSi (pc := 16) cx cal_X9_in tw_1225 (ct_X9_in cx.tr hM  h) tw_1224 rfl (st := []) rfl (Nat.le_of_ble_eq_true rfl) ⟨Nat.le_of_ble_eq_true rfl, Nat.le_of_ble_eq_true rfl⟩ ⟨Nat.le_of_ble_eq_true rfl, Nat.le_of_ble_eq_true rfl⟩ dX9_departureIf_16 (fun r16 M16 h => ?_)
  refine gg_if_eq (pc := 19) cx (tgt := 39) dX9_departureIf_19 (by decide) (fun c19 => ?_) (fun c19 => ?_)
  · have h := g_it c19 h
    refine gg_lv (lv' := [(0, .ref (gAd t 9 o0))]) [0] rfl ?_
    exact wk_X9_departureIf_b39 cx hM hQ v0 h
  · have h := g_if c19 h
    refine gg_aload_n (pc := 22) cx 0 rfl dX9_departureIf_22 rfl ?_
    refine gf_Model_v (pc := 23) cx (hM 9 _ rfl v0) tw_1306 dX9_departureIf_23 ?_
    refine gg_iload_n (pc := 26) cx 1 rfl dX9_departureIf_26 rfl ?_
    refine gg_callSi (pc := 27) cx cal_X9_packet tw_1472 (ct_X9_packet cx.tr hM  h) tw_1471 rfl (st := [.ref (gAd t 47 o0)]) rfl (Nat.le_of_ble_eq_true rfl) ⟨Nat.le_of_ble_eq_true rfl, Nat.le_of_ble_eq_true rfl⟩ ⟨Nat.le_of_ble_eq_true rfl, Nat.le_of_ble_eq_true rfl⟩ dX9_departureIf_27 (fun r27 M27 h => ?_)
    refine gg_bipush (pc := 30) cx (v := 6) dX9_departureIf_30 (by decide) ?_
    refine gg_iadd (pc := 32) cx dX9_departureIf_32 ?_
    have q33 := h.1
    have h := h.2
    refine gg_lald (pc := 33) cx (hM 47 _ rfl v0) rfl q33 dX9_departureIf_33 ?_
    refine gg_lconst (pc := 34) cx (v := 0) dX9_departureIf_34 (by decide) ?_
    refine gg_lcmp_ne (pc := 35) cx (tgt := 46) dX9_departureIf_35 dX9_departureIf_36 (by decide) (fun c35 => ?_) (fun c35 => ?_)
    · have h := g_if c35 h
      refine gg_aload_n (pc := 46) cx 0 rfl dX9_departureIf_46 rfl ?_
      refine gg_iconst (pc := 47) cx (v := 1) dX9_departureIf_47 (by decide) ?_
      refine gg_callVv (pc := 48) cx cal_X9_lays calv_X9_lays (ct_X9_lays cx.tr hM v0 h) tw_1606 (hM 9 _ rfl v0) rfl rfl rfl (st := []) rfl (Nat.le_of_ble_eq_true rfl) ⟨Nat.le_of_ble_eq_true rfl, Nat.le_of_ble_eq_true rfl⟩ ⟨Nat.le_of_ble_eq_true rfl, Nat.le_of_ble_eq_true rfl⟩ dX9_departureIf_48 (fun M48 h => ?_)
      refine gg_ldc2 (pc := 51) cx (v := (-1)) tw_1273 dX9_departureIf_51 ?_
      refine gg_lstore_n (pc := 54) cx [(2, .long (-1)), (0, .ref (gAd t 9 o0)), (1, .int x1)] dX9_departureIf_54 rfl (by decide) rfl ?_
      refine gg_iconst (pc := 55) cx (v := 0) dX9_departureIf_55 (by decide) ?_
      refine gg_istore (pc := 56) cx [(4, .int 0), (2, .long (-1)), (0, .ref (gAd t 9 o0)), (1, .int x1)] dX9_departureIf_56 (by decide) rfl ?_
      refine gg_lv (lv' := [(0, .ref (gAd t 9 o0)), (1, .int x1), (2, .long (-1)), (4, .int 0)]) [2, 3, 1, 0] rfl ?_
      obtain ⟨f58, h⟩ := h
      exact wk_X9_departureIf_L58 cx hM hQ f58 o0 x1 (-1) 0 M48 v0 h
    · have h := g_it c35 h
      refine gg_lv (lv' := [(0, .ref (gAd t 9 o0))]) [0] rfl ?_
      exact wk_X9_departureIf_b39 cx hM hQ v0 h
set_option maxRecDepth 100000 in
set_option maxHeartbeats 4000000 in
theorem wk_X9_ofPacket_b25 {t : gT} {X : gX} (cx : g_Cx t X cX9_ofPacket 4 RX9 (some .long)) (hM : g_hM t) {K : Int64 → gM → Prop} (hQ : gXQ X = MQ (gXb X) (va_Ql K (g_B t) (g_A t)) (gXa X) (gXs X) rm_X9_ofPacket.cells rm_X9_ofPacket.slots (g_A t)) {o0 : Nat} {x1 : Int32} {x2 : Int32} {x3 : Int32} {os0 : Nat} {xs1 : Int32} {M : gM} (v0 : o0 < 1) (vs0 : os0 < 1) (h : wp_X9_ofPacket_b25 K o0 x1 x2 x3 os0 xs1 M) : G t rm_X9_ofPacket X 4 0 0 M [(0, .ref (gAd t 9 o0)), (1, .int x1), (2, .int x2), (3, .int x3)] [.int xs1, .ref (gAd t 9 os0)] 25 := by
  refine gp_Model_thrown (pc := 25) cx (hM 9 _ rfl vs0) tw_1310 dX9_ofPacket_25 ?_
  refine gg_mem (fun M25 eM25 => ?_)
  have h := h M25 eM25
  refine gg_iload_n (pc := 28) cx 3 rfl dX9_ofPacket_28 rfl ?_
  refine gg_if_eq (pc := 29) cx (tgt := 46) dX9_ofPacket_29 (by decide) (fun c29 => ?_) (fun c29 => ?_)
  · have h := g_it c29 h
    refine gg_lconst (pc := 46) cx (v := 0) dX9_ofPacket_46 (by decide) ?_
    exact gg_lret (pc := 47) cx hQ h dX9_ofPacket_47
  · have h := g_if c29 h
    refine gg_aload_n (pc := 32) cx 0 rfl dX9_ofPacket_32 rfl ?_
    refine gf_Model_v (pc := 33) cx (hM 9 _ rfl v0) tw_1306 dX9_ofPacket_33 ?_
    refine gg_iload_n (pc := 36) cx 1 rfl dX9_ofPacket_36 rfl ?_
    refine gg_callSi (pc := 37) cx cal_X9_packet tw_1472 (ct_X9_packet cx.tr hM  h) tw_1471 rfl (st := [.ref (gAd t 47 o0)]) rfl (Nat.le_of_ble_eq_true rfl) ⟨Nat.le_of_ble_eq_true rfl, Nat.le_of_ble_eq_true rfl⟩ ⟨Nat.le_of_ble_eq_true rfl, Nat.le_of_ble_eq_true rfl⟩ dX9_ofPacket_37 (fun r37 M37 h => ?_)
    refine gg_iload_n (pc := 40) cx 2 rfl dX9_ofPacket_40 rfl ?_
    refine gg_iadd (pc := 41) cx dX9_ofPacket_41 ?_
    have q42 := h.1
    have h := h.2
    refine gg_lald (pc := 42) cx (hM 47 _ rfl v0) rfl q42 dX9_ofPacket_42 ?_
    refine gg_goto (pc := 43) cx (tgt := 47) dX9_ofPacket_43 (by decide) ?_
    exact gg_lret (pc := 47) cx hQ h dX9_ofPacket_47
theorem cal_X9_ofPacket : g_Cal yX9_ofPacket cX9_ofPacket 4 (some .long) 2 := ⟨tw_17, tw_1621, by decide, by decide, by decide +kernel⟩
theorem calv_X9_ofPacket : g_CalV yX9_ofPacket := ⟨tw_1620, ts_68⟩
set_option maxRecDepth 100000 in
set_option maxHeartbeats 4000000 in
theorem ct_X9_ofPacket {l : Launch} (hl : l.stackTraces = false) {t : gT} (hM : g_hM t) {o0 : Nat} {x1 : Int32} {x2 : Int32} (v0 : o0 < 1) {M : gM} {K : Int64 → gM → Prop} (h : wp_X9_ofPacket o0 x1 x2 M K) : Met l yX9_ofPacket (g_y yX9_ofPacket cX9_ofPacket 4 (some .long)) rm_X9_ofPacket (va_Pc [.ref (gAd t 9 o0), .int x1, .int x2] (g_Pre t M)) (va_Ql K (g_B t) (g_A t)) rm_X9_ofPacket.cells rm_X9_ofPacket.slots (g_A t) := by
  refine g_met hl rfl (Nat.le_of_ble_eq_true rfl) (fun X hlX cx hQ => ?_)
  subst hlX
  refine gg_iload_n (pc := 0) cx 1 rfl dX9_ofPacket_0 rfl ?_
  refine gg_i2l (pc := 1) cx dX9_ofPacket_1 ?_
  refine gg_lconst (pc := 2) cx (v := 0) dX9_ofPacket_2 (by decide) ?_
  refine gg_aload_n (pc := 3) cx 0 rfl dX9_ofPacket_3 rfl ?_
  refine gf_Model_v (pc := 4) cx (hM 9 _ rfl v0) tw_1306 dX9_ofPacket_4 ?_
  refine gg_iconst (pc := 7) cx (v := 3) dX9_ofPacket_7 (by decide) ?_
  have q8 := h.1
  have h := h.2
  refine gg_lald (pc := 8) cx (hM 47 _ rfl v0) rfl q8 dX9_ofPacket_8 ?_
  refine gg_lconst (pc := 9) cx (v := 1) dX9_ofPacket_9 (by decide) ?_
  refine gg_lsub (pc := 10) cx dX9_ofPacket_10 ?_
  refine gg_callSi (pc := 11) cx cal_X9_in tw_1225 (ct_X9_in cx.tr hM  h) tw_1224 rfl (st := []) rfl (Nat.le_of_ble_eq_true rfl) ⟨Nat.le_of_ble_eq_true rfl, Nat.le_of_ble_eq_true rfl⟩ ⟨Nat.le_of_ble_eq_true rfl, Nat.le_of_ble_eq_true rfl⟩ dX9_ofPacket_11 (fun r11 M11 h => ?_)
  refine gg_istore_n (pc := 14) cx [(3, .int r11), (0, .ref (gAd t 9 o0)), (1, .int x1), (2, .int x2)] dX9_ofPacket_14 rfl (by decide) rfl ?_
  refine gg_aload_n (pc := 15) cx 1 rfl dX9_ofPacket_15 rfl ?_
  refine gg_iload_n (pc := 16) cx 0 rfl dX9_ofPacket_16 rfl ?_
  refine gg_if_eq (pc := 17) cx (tgt := 24) dX9_ofPacket_17 (by decide) (fun c17 => ?_) (fun c17 => ?_)
  · have h := g_it c17 h
    refine gg_iconst (pc := 24) cx (v := 1) dX9_ofPacket_24 (by decide) ?_
    refine gg_lv (lv' := [(0, .ref (gAd t 9 o0)), (1, .int x1), (2, .int x2), (3, .int r11)]) [1, 2, 3, 0] rfl ?_
    exact wk_X9_ofPacket_b25 cx hM hQ v0 v0 h
  · have h := g_if c17 h
    refine gg_iconst (pc := 20) cx (v := 0) dX9_ofPacket_20 (by decide) ?_
    refine gg_goto (pc := 21) cx (tgt := 25) dX9_ofPacket_21 (by decide) ?_
    refine gg_lv (lv' := [(0, .ref (gAd t 9 o0)), (1, .int x1), (2, .int x2), (3, .int r11)]) [1, 2, 3, 0] rfl ?_
    exact wk_X9_ofPacket_b25 cx hM hQ v0 v0 h
theorem cal_X9_flowOf : g_Cal yX9_flowOf cX9_flowOf 2 (some .int) 1 := ⟨tw_17, tw_1617, by decide, by decide, by decide +kernel⟩
theorem calv_X9_flowOf : g_CalV yX9_flowOf := ⟨tw_1615, tw_1616⟩
set_option maxRecDepth 100000 in
set_option maxHeartbeats 4000000 in
theorem ct_X9_flowOf {l : Launch} (hl : l.stackTraces = false) {t : gT} (hM : g_hM t) {o0 : Nat} {x1 : Int32} (v0 : o0 < 1) {M : gM} {K : Int32 → gM → Prop} (h : wp_X9_flowOf o0 x1 M K) : Met l yX9_flowOf (g_y yX9_flowOf cX9_flowOf 2 (some .int)) rm_X9_flowOf (va_Pc [.ref (gAd t 9 o0), .int x1] (g_Pre t M)) (va_Qi K (g_B t) (g_A t)) rm_X9_flowOf.cells rm_X9_flowOf.slots (g_A t) := by
  refine g_met hl rfl (Nat.le_of_ble_eq_true rfl) (fun X hlX cx hQ => ?_)
  subst hlX
  refine gg_aload_n (pc := 0) cx 0 rfl dX9_flowOf_0 rfl ?_
  refine gg_iload_n (pc := 1) cx 1 rfl dX9_flowOf_1 rfl ?_
  refine gg_iconst (pc := 2) cx (v := 0) dX9_flowOf_2 (by decide) ?_
  refine gg_callVl (pc := 3) cx cal_X9_ofPacket calv_X9_ofPacket (ct_X9_ofPacket cx.tr hM v0 h) tw_1618 (hM 9 _ rfl v0) rfl rfl rfl (st := []) rfl (Nat.le_of_ble_eq_true rfl) ⟨Nat.le_of_ble_eq_true rfl, Nat.le_of_ble_eq_true rfl⟩ ⟨Nat.le_of_ble_eq_true rfl, Nat.le_of_ble_eq_true rfl⟩ dX9_flowOf_3 (fun r3 M3 h => ?_)
  refine gg_l2i (pc := 6) cx dX9_flowOf_6 ?_
  exact gg_iret (pc := 7) cx hQ h dX9_flowOf_7
theorem cal_X9_deadlineOf : g_Cal yX9_deadlineOf cX9_deadlineOf 2 (some .long) 1 := ⟨tw_17, tw_1625, by decide, by decide, by decide +kernel⟩
theorem calv_X9_deadlineOf : g_CalV yX9_deadlineOf := ⟨tw_1623, tw_1624⟩
set_option maxRecDepth 100000 in
set_option maxHeartbeats 4000000 in
theorem ct_X9_deadlineOf {l : Launch} (hl : l.stackTraces = false) {t : gT} (hM : g_hM t) {o0 : Nat} {x1 : Int32} (v0 : o0 < 1) {M : gM} {K : Int64 → gM → Prop} (h : wp_X9_deadlineOf o0 x1 M K) : Met l yX9_deadlineOf (g_y yX9_deadlineOf cX9_deadlineOf 2 (some .long)) rm_X9_deadlineOf (va_Pc [.ref (gAd t 9 o0), .int x1] (g_Pre t M)) (va_Ql K (g_B t) (g_A t)) rm_X9_deadlineOf.cells rm_X9_deadlineOf.slots (g_A t) := by
  refine g_met hl rfl (Nat.le_of_ble_eq_true rfl) (fun X hlX cx hQ => ?_)
  subst hlX
  refine gg_aload_n (pc := 0) cx 0 rfl dX9_deadlineOf_0 rfl ?_
  refine gg_iload_n (pc := 1) cx 1 rfl dX9_deadlineOf_1 rfl ?_
  refine gg_iconst (pc := 2) cx (v := 4) dX9_deadlineOf_2 (by decide) ?_
  refine gg_callVl (pc := 3) cx cal_X9_ofPacket calv_X9_ofPacket (ct_X9_ofPacket cx.tr hM v0 h) tw_1618 (hM 9 _ rfl v0) rfl rfl rfl (st := []) rfl (Nat.le_of_ble_eq_true rfl) ⟨Nat.le_of_ble_eq_true rfl, Nat.le_of_ble_eq_true rfl⟩ ⟨Nat.le_of_ble_eq_true rfl, Nat.le_of_ble_eq_true rfl⟩ dX9_deadlineOf_3 (fun r3 M3 h => ?_)
  exact gg_lret (pc := 6) cx hQ h dX9_deadlineOf_6
theorem cal_X9_departureOf : g_Cal yX9_departureOf cX9_departureOf 2 (some .long) 1 := ⟨tw_17, tw_1629, by decide, by decide, by decide +kernel⟩
theorem calv_X9_departureOf : g_CalV yX9_departureOf := ⟨tw_1627, tw_1628⟩
set_option maxRecDepth 100000 in
set_option maxHeartbeats 4000000 in
theorem ct_X9_departureOf {l : Launch} (hl : l.stackTraces = false) {t : gT} (hM : g_hM t) {o0 : Nat} {x1 : Int32} (v0 : o0 < 1) {M : gM} {K : Int64 → gM → Prop} (h : wp_X9_departureOf o0 x1 M K) : Met l yX9_departureOf (g_y yX9_departureOf cX9_departureOf 2 (some .long)) rm_X9_departureOf (va_Pc [.ref (gAd t 9 o0), .int x1] (g_Pre t M)) (va_Ql K (g_B t) (g_A t)) rm_X9_departureOf.cells rm_X9_departureOf.slots (g_A t) := by
  refine g_met hl rfl (Nat.le_of_ble_eq_true rfl) (fun X hlX cx hQ => ?_)
  subst hlX
  refine gg_aload_n (pc := 0) cx 0 rfl dX9_departureOf_0 rfl ?_
  refine gg_iload_n (pc := 1) cx 1 rfl dX9_departureOf_1 rfl ?_
  refine gg_iconst (pc := 2) cx (v := 5) dX9_departureOf_2 (by decide) ?_
  refine gg_callVl (pc := 3) cx cal_X9_ofPacket calv_X9_ofPacket (ct_X9_ofPacket cx.tr hM v0 h) tw_1618 (hM 9 _ rfl v0) rfl rfl rfl (st := []) rfl (Nat.le_of_ble_eq_true rfl) ⟨Nat.le_of_ble_eq_true rfl, Nat.le_of_ble_eq_true rfl⟩ ⟨Nat.le_of_ble_eq_true rfl, Nat.le_of_ble_eq_true rfl⟩ dX9_departureOf_3 (fun r3 M3 h => ?_)
  exact gg_lret (pc := 6) cx hQ h dX9_departureOf_6
theorem cal_X9_sent : g_Cal yX9_sent cX9_sent 2 (some .int) 1 := ⟨tw_17, tw_1633, by decide, by decide, by decide +kernel⟩
theorem calv_X9_sent : g_CalV yX9_sent := ⟨tw_1631, tw_1632⟩
set_option maxRecDepth 100000 in
set_option maxHeartbeats 4000000 in
theorem ct_X9_sent {l : Launch} (hl : l.stackTraces = false) {t : gT} (hM : g_hM t) {o0 : Nat} {x1 : Int32} (v0 : o0 < 1) {M : gM} {K : Int32 → gM → Prop} (h : wp_X9_sent o0 x1 M K) : Met l yX9_sent (g_y yX9_sent cX9_sent 2 (some .int)) rm_X9_sent (va_Pc [.ref (gAd t 9 o0), .int x1] (g_Pre t M)) (va_Qi K (g_B t) (g_A t)) rm_X9_sent.cells rm_X9_sent.slots (g_A t) := by
  refine g_met hl rfl (Nat.le_of_ble_eq_true rfl) (fun X hlX cx hQ => ?_)
  subst hlX
  refine gg_aload_n (pc := 0) cx 0 rfl dX9_sent_0 rfl ?_
  refine gg_iload_n (pc := 1) cx 1 rfl dX9_sent_1 rfl ?_
  refine gg_iconst (pc := 2) cx (v := 2) dX9_sent_2 (by decide) ?_
  refine gg_callVi (pc := 3) cx cal_X9_ofFlow calv_X9_ofFlow (ct_X9_ofFlow cx.tr hM v0 h) tw_1451 (hM 9 _ rfl v0) rfl rfl rfl (st := []) rfl (Nat.le_of_ble_eq_true rfl) ⟨Nat.le_of_ble_eq_true rfl, Nat.le_of_ble_eq_true rfl⟩ ⟨Nat.le_of_ble_eq_true rfl, Nat.le_of_ble_eq_true rfl⟩ dX9_sent_3 (fun r3 M3 h => ?_)
  exact gg_iret (pc := 6) cx hQ h dX9_sent_6
theorem cal_X9_sentBytes : g_Cal yX9_sentBytes cX9_sentBytes 2 (some .int) 1 := ⟨tw_17, tw_1637, by decide, by decide, by decide +kernel⟩
theorem calv_X9_sentBytes : g_CalV yX9_sentBytes := ⟨tw_1635, tw_1636⟩
set_option maxRecDepth 100000 in
set_option maxHeartbeats 4000000 in
theorem ct_X9_sentBytes {l : Launch} (hl : l.stackTraces = false) {t : gT} (hM : g_hM t) {o0 : Nat} {x1 : Int32} (v0 : o0 < 1) {M : gM} {K : Int32 → gM → Prop} (h : wp_X9_sentBytes o0 x1 M K) : Met l yX9_sentBytes (g_y yX9_sentBytes cX9_sentBytes 2 (some .int)) rm_X9_sentBytes (va_Pc [.ref (gAd t 9 o0), .int x1] (g_Pre t M)) (va_Qi K (g_B t) (g_A t)) rm_X9_sentBytes.cells rm_X9_sentBytes.slots (g_A t) := by
  refine g_met hl rfl (Nat.le_of_ble_eq_true rfl) (fun X hlX cx hQ => ?_)
  subst hlX
  refine gg_aload_n (pc := 0) cx 0 rfl dX9_sentBytes_0 rfl ?_
  refine gg_iload_n (pc := 1) cx 1 rfl dX9_sentBytes_1 rfl ?_
  refine gg_iconst (pc := 2) cx (v := 3) dX9_sentBytes_2 (by decide) ?_
  refine gg_callVi (pc := 3) cx cal_X9_ofFlow calv_X9_ofFlow (ct_X9_ofFlow cx.tr hM v0 h) tw_1451 (hM 9 _ rfl v0) rfl rfl rfl (st := []) rfl (Nat.le_of_ble_eq_true rfl) ⟨Nat.le_of_ble_eq_true rfl, Nat.le_of_ble_eq_true rfl⟩ ⟨Nat.le_of_ble_eq_true rfl, Nat.le_of_ble_eq_true rfl⟩ dX9_sentBytes_3 (fun r3 M3 h => ?_)
  exact gg_iret (pc := 6) cx hQ h dX9_sentBytes_6
set_option maxRecDepth 100000 in
set_option maxHeartbeats 4000000 in
theorem wk_X9_totalDelay_b13 {t : gT} {X : gX} (cx : g_Cx t X cX9_totalDelay 2 RX9 (some .long)) (hM : g_hM t) {K : Int64 → gM → Prop} (hQ : gXQ X = MQ (gXb X) (va_Ql K (g_B t) (g_A t)) (gXa X) (gXs X) rm_X9_totalDelay.cells rm_X9_totalDelay.slots (g_A t)) {o0 : Nat} {x1 : Int32} {os0 : Nat} {xs1 : Int32} {M : gM} (v0 : o0 < 1) (vs0 : os0 < 1) (h : wp_X9_totalDelay_b13 K o0 x1 os0 xs1 M) : G t rm_X9_totalDelay X 2 0 0 M [(0, .ref (gAd t 9 o0)), (1, .int x1)] [.int xs1, .ref (gAd t 9 os0)] 13 := by
  refine gp_Model_thrown (pc := 13) cx (hM 9 _ rfl vs0) tw_1310 dX9_totalDelay_13 ?_
  refine gg_mem (fun M13 eM13 => ?_)
  have h := h M13 eM13
  refine gg_iload_n (pc := 16) cx 1 rfl dX9_totalDelay_16 rfl ?_
  refine gg_callSi (pc := 17) cx cal_X9_isFlow tw_1431 (ct_X9_isFlow cx.tr hM  h) tw_1430 rfl (st := []) rfl (Nat.le_of_ble_eq_true rfl) ⟨Nat.le_of_ble_eq_true rfl, Nat.le_of_ble_eq_true rfl⟩ ⟨Nat.le_of_ble_eq_true rfl, Nat.le_of_ble_eq_true rfl⟩ dX9_totalDelay_17 (fun r17 M17 h => ?_)
  refine gg_if_eq (pc := 20) cx (tgt := 37) dX9_totalDelay_20 (by decide) (fun c20 => ?_) (fun c20 => ?_)
  · have h := g_it c20 h
    refine gg_lconst (pc := 37) cx (v := 0) dX9_totalDelay_37 (by decide) ?_
    exact gg_lret (pc := 38) cx hQ h dX9_totalDelay_38
  · have h := g_if c20 h
    refine gg_aload_n (pc := 23) cx 0 rfl dX9_totalDelay_23 rfl ?_
    refine gf_Model_v (pc := 24) cx (hM 9 _ rfl v0) tw_1306 dX9_totalDelay_24 ?_
    refine gg_iload_n (pc := 27) cx 1 rfl dX9_totalDelay_27 rfl ?_
    refine gg_callSi (pc := 28) cx cal_X9_flow tw_1297 (ct_X9_flow cx.tr hM  h) tw_1296 rfl (st := [.ref (gAd t 47 o0)]) rfl (Nat.le_of_ble_eq_true rfl) ⟨Nat.le_of_ble_eq_true rfl, Nat.le_of_ble_eq_true rfl⟩ ⟨Nat.le_of_ble_eq_true rfl, Nat.le_of_ble_eq_true rfl⟩ dX9_totalDelay_28 (fun r28 M28 h => ?_)
    refine gg_iconst (pc := 31) cx (v := 4) dX9_totalDelay_31 (by decide) ?_
    refine gg_iadd (pc := 32) cx dX9_totalDelay_32 ?_
    have q33 := h.1
    have h := h.2
    refine gg_lald (pc := 33) cx (hM 47 _ rfl v0) rfl q33 dX9_totalDelay_33 ?_
    refine gg_goto (pc := 34) cx (tgt := 38) dX9_totalDelay_34 (by decide) ?_
    exact gg_lret (pc := 38) cx hQ h dX9_totalDelay_38
theorem cal_X9_totalDelay : g_Cal yX9_totalDelay cX9_totalDelay 2 (some .long) 1 := ⟨tw_17, tw_1641, by decide, by decide, by decide +kernel⟩
theorem calv_X9_totalDelay : g_CalV yX9_totalDelay := ⟨tw_1639, tw_1640⟩
set_option maxRecDepth 100000 in
set_option maxHeartbeats 4000000 in
theorem ct_X9_totalDelay {l : Launch} (hl : l.stackTraces = false) {t : gT} (hM : g_hM t) {o0 : Nat} {x1 : Int32} (v0 : o0 < 1) {M : gM} {K : Int64 → gM → Prop} (h : wp_X9_totalDelay o0 x1 M K) : Met l yX9_totalDelay (g_y yX9_totalDelay cX9_totalDelay 2 (some .long)) rm_X9_totalDelay (va_Pc [.ref (gAd t 9 o0), .int x1] (g_Pre t M)) (va_Ql K (g_B t) (g_A t)) rm_X9_totalDelay.cells rm_X9_totalDelay.slots (g_A t) := by
  refine g_met hl rfl (Nat.le_of_ble_eq_true rfl) (fun X hlX cx hQ => ?_)
  subst hlX
  refine gg_aload_n (pc := 0) cx 0 rfl dX9_totalDelay_0 rfl ?_
  refine gg_iload_n (pc := 1) cx 1 rfl dX9_totalDelay_1 rfl ?_
  refine gg_callSi (pc := 2) cx cal_X9_isFlow tw_1431 (ct_X9_isFlow cx.tr hM  h) tw_1430 rfl (st := [.ref (gAd t 9 o0)]) rfl (Nat.le_of_ble_eq_true rfl) ⟨Nat.le_of_ble_eq_true rfl, Nat.le_of_ble_eq_true rfl⟩ ⟨Nat.le_of_ble_eq_true rfl, Nat.le_of_ble_eq_true rfl⟩ dX9_totalDelay_2 (fun r2 M2 h => ?_)
  refine gg_if_eq (pc := 5) cx (tgt := 12) dX9_totalDelay_5 (by decide) (fun c5 => ?_) (fun c5 => ?_)
  · have h := g_it c5 h
    refine gg_iconst (pc := 12) cx (v := 1) dX9_totalDelay_12 (by decide) ?_
    exact wk_X9_totalDelay_b13 cx hM hQ v0 v0 h
  · have h := g_if c5 h
    refine gg_iconst (pc := 8) cx (v := 0) dX9_totalDelay_8 (by decide) ?_
    refine gg_goto (pc := 9) cx (tgt := 13) dX9_totalDelay_9 (by decide) ?_
    exact wk_X9_totalDelay_b13 cx hM hQ v0 v0 h
set_option maxRecDepth 100000 in
set_option maxHeartbeats 4000000 in
theorem wk_X9_greatestDelay_b13 {t : gT} {X : gX} (cx : g_Cx t X cX9_greatestDelay 2 RX9 (some .long)) (hM : g_hM t) {K : Int64 → gM → Prop} (hQ : gXQ X = MQ (gXb X) (va_Ql K (g_B t) (g_A t)) (gXa X) (gXs X) rm_X9_greatestDelay.cells rm_X9_greatestDelay.slots (g_A t)) {o0 : Nat} {x1 : Int32} {os0 : Nat} {xs1 : Int32} {M : gM} (v0 : o0 < 1) (vs0 : os0 < 1) (h : wp_X9_greatestDelay_b13 K o0 x1 os0 xs1 M) : G t rm_X9_greatestDelay X 2 0 0 M [(0, .ref (gAd t 9 o0)), (1, .int x1)] [.int xs1, .ref (gAd t 9 os0)] 13 := by
  refine gp_Model_thrown (pc := 13) cx (hM 9 _ rfl vs0) tw_1310 dX9_greatestDelay_13 ?_
  refine gg_mem (fun M13 eM13 => ?_)
  have h := h M13 eM13
  refine gg_iload_n (pc := 16) cx 1 rfl dX9_greatestDelay_16 rfl ?_
  refine gg_callSi (pc := 17) cx cal_X9_isFlow tw_1431 (ct_X9_isFlow cx.tr hM  h) tw_1430 rfl (st := []) rfl (Nat.le_of_ble_eq_true rfl) ⟨Nat.le_of_ble_eq_true rfl, Nat.le_of_ble_eq_true rfl⟩ ⟨Nat.le_of_ble_eq_true rfl, Nat.le_of_ble_eq_true rfl⟩ dX9_greatestDelay_17 (fun r17 M17 h => ?_)
  refine gg_if_eq (pc := 20) cx (tgt := 37) dX9_greatestDelay_20 (by decide) (fun c20 => ?_) (fun c20 => ?_)
  · have h := g_it c20 h
    refine gg_lconst (pc := 37) cx (v := 0) dX9_greatestDelay_37 (by decide) ?_
    exact gg_lret (pc := 38) cx hQ h dX9_greatestDelay_38
  · have h := g_if c20 h
    refine gg_aload_n (pc := 23) cx 0 rfl dX9_greatestDelay_23 rfl ?_
    refine gf_Model_v (pc := 24) cx (hM 9 _ rfl v0) tw_1306 dX9_greatestDelay_24 ?_
    refine gg_iload_n (pc := 27) cx 1 rfl dX9_greatestDelay_27 rfl ?_
    refine gg_callSi (pc := 28) cx cal_X9_flow tw_1297 (ct_X9_flow cx.tr hM  h) tw_1296 rfl (st := [.ref (gAd t 47 o0)]) rfl (Nat.le_of_ble_eq_true rfl) ⟨Nat.le_of_ble_eq_true rfl, Nat.le_of_ble_eq_true rfl⟩ ⟨Nat.le_of_ble_eq_true rfl, Nat.le_of_ble_eq_true rfl⟩ dX9_greatestDelay_28 (fun r28 M28 h => ?_)
    refine gg_iconst (pc := 31) cx (v := 5) dX9_greatestDelay_31 (by decide) ?_
    refine gg_iadd (pc := 32) cx dX9_greatestDelay_32 ?_
    have q33 := h.1
    have h := h.2
    refine gg_lald (pc := 33) cx (hM 47 _ rfl v0) rfl q33 dX9_greatestDelay_33 ?_
    refine gg_goto (pc := 34) cx (tgt := 38) dX9_greatestDelay_34 (by decide) ?_
    exact gg_lret (pc := 38) cx hQ h dX9_greatestDelay_38
theorem cal_X9_greatestDelay : g_Cal yX9_greatestDelay cX9_greatestDelay 2 (some .long) 1 := ⟨tw_17, tw_1645, by decide, by decide, by decide +kernel⟩
theorem calv_X9_greatestDelay : g_CalV yX9_greatestDelay := ⟨tw_1643, tw_1644⟩
set_option maxRecDepth 100000 in
set_option maxHeartbeats 4000000 in
theorem ct_X9_greatestDelay {l : Launch} (hl : l.stackTraces = false) {t : gT} (hM : g_hM t) {o0 : Nat} {x1 : Int32} (v0 : o0 < 1) {M : gM} {K : Int64 → gM → Prop} (h : wp_X9_greatestDelay o0 x1 M K) : Met l yX9_greatestDelay (g_y yX9_greatestDelay cX9_greatestDelay 2 (some .long)) rm_X9_greatestDelay (va_Pc [.ref (gAd t 9 o0), .int x1] (g_Pre t M)) (va_Ql K (g_B t) (g_A t)) rm_X9_greatestDelay.cells rm_X9_greatestDelay.slots (g_A t) := by
  refine g_met hl rfl (Nat.le_of_ble_eq_true rfl) (fun X hlX cx hQ => ?_)
  subst hlX
  refine gg_aload_n (pc := 0) cx 0 rfl dX9_greatestDelay_0 rfl ?_
  refine gg_iload_n (pc := 1) cx 1 rfl dX9_greatestDelay_1 rfl ?_
  refine gg_callSi (pc := 2) cx cal_X9_isFlow tw_1431 (ct_X9_isFlow cx.tr hM  h) tw_1430 rfl (st := [.ref (gAd t 9 o0)]) rfl (Nat.le_of_ble_eq_true rfl) ⟨Nat.le_of_ble_eq_true rfl, Nat.le_of_ble_eq_true rfl⟩ ⟨Nat.le_of_ble_eq_true rfl, Nat.le_of_ble_eq_true rfl⟩ dX9_greatestDelay_2 (fun r2 M2 h => ?_)
  refine gg_if_eq (pc := 5) cx (tgt := 12) dX9_greatestDelay_5 (by decide) (fun c5 => ?_) (fun c5 => ?_)
  · have h := g_it c5 h
    refine gg_iconst (pc := 12) cx (v := 1) dX9_greatestDelay_12 (by decide) ?_
    exact wk_X9_greatestDelay_b13 cx hM hQ v0 v0 h
  · have h := g_if c5 h
    refine gg_iconst (pc := 8) cx (v := 0) dX9_greatestDelay_8 (by decide) ?_
    refine gg_goto (pc := 9) cx (tgt := 13) dX9_greatestDelay_9 (by decide) ?_
    exact wk_X9_greatestDelay_b13 cx hM hQ v0 v0 h
theorem cal_X9_missed : g_Cal yX9_missed cX9_missed 2 (some .int) 1 := ⟨tw_17, tw_1649, by decide, by decide, by decide +kernel⟩
theorem calv_X9_missed : g_CalV yX9_missed := ⟨tw_1647, tw_1648⟩
set_option maxRecDepth 100000 in
set_option maxHeartbeats 4000000 in
theorem ct_X9_missed {l : Launch} (hl : l.stackTraces = false) {t : gT} (hM : g_hM t) {o0 : Nat} {x1 : Int32} (v0 : o0 < 1) {M : gM} {K : Int32 → gM → Prop} (h : wp_X9_missed o0 x1 M K) : Met l yX9_missed (g_y yX9_missed cX9_missed 2 (some .int)) rm_X9_missed (va_Pc [.ref (gAd t 9 o0), .int x1] (g_Pre t M)) (va_Qi K (g_B t) (g_A t)) rm_X9_missed.cells rm_X9_missed.slots (g_A t) := by
  refine g_met hl rfl (Nat.le_of_ble_eq_true rfl) (fun X hlX cx hQ => ?_)
  subst hlX
  refine gg_aload_n (pc := 0) cx 0 rfl dX9_missed_0 rfl ?_
  refine gg_iload_n (pc := 1) cx 1 rfl dX9_missed_1 rfl ?_
  refine gg_bipush (pc := 2) cx (v := 6) dX9_missed_2 (by decide) ?_
  refine gg_callVi (pc := 4) cx cal_X9_ofFlow calv_X9_ofFlow (ct_X9_ofFlow cx.tr hM v0 h) tw_1451 (hM 9 _ rfl v0) rfl rfl rfl (st := []) rfl (Nat.le_of_ble_eq_true rfl) ⟨Nat.le_of_ble_eq_true rfl, Nat.le_of_ble_eq_true rfl⟩ ⟨Nat.le_of_ble_eq_true rfl, Nat.le_of_ble_eq_true rfl⟩ dX9_missed_4 (fun r4 M4 h => ?_)
  exact gg_iret (pc := 7) cx hQ h dX9_missed_7
set_option maxRecDepth 100000 in
set_option maxHeartbeats 4000000 in
theorem wk_X9_share_L21 {t : gT} {X : gX} (cx : g_Cx t X cX9_share 5 RX9 (some .int)) (hM : g_hM t) {K : Int32 → gM → Prop} (hQ : gXQ X = MQ (gXb X) (va_Qi K (g_B t) (g_A t)) (gXa X) (gXs X) rm_X9_share.cells rm_X9_share.slots (g_A t)) (f : Nat) : ∀ (o0 : Nat) (x1 : Int32) (y2 : Int64) (x4 : Int32) (M : gM), o0 < 1 → wp_X9_share_L21 K f o0 x1 y2 x4 M → G t rm_X9_share X 5 0 0 M [(0, .ref (gAd t 9 o0)), (1, .int x1), (2, .long y2), (4, .int x4)] [] 21 := by
  induction f with
  | zero => intro _ _ _ _ _ _ _; exact False.elim (by assumption)
  | succ f ih =>
    intro o0 x1 y2 x4 M v0 h
    refine gg_iload (pc := 21) cx 3 rfl dX9_share_21 ?_
    refine gg_bipush (pc := 23) cx (v := 16) dX9_share_23 (by decide) ?_
    refine gg_icmp_ge (pc := 25) cx (tgt := 49) dX9_share_25 (by decide) (fun c25 => ?_) (fun c25 => ?_)
    · have h := g_it c25 h
      refine gg_aload_n (pc := 49) cx 0 rfl dX9_share_49 rfl ?_
      refine gf_Model_thrown (pc := 50) cx (hM 9 _ rfl v0) tw_1310 dX9_share_50 ?_
      refine gg_iconst (pc := 53) cx (v := 1) dX9_share_53 (by decide) ?_
      refine gg_icmp_eq (pc := 54) cx (tgt := 63) dX9_share_54 (by decide) (fun c54 => ?_) (fun c54 => ?_)
      · have h := g_it c54 h
        refine gg_iconst (pc := 63) cx (v := 0) dX9_share_63 (by decide) ?_
        refine gg_goto (pc := 64) cx (tgt := 85) dX9_share_64 (by decide) ?_
        exact gg_iret (pc := 85) cx hQ h dX9_share_85
      · have h := g_if c54 h
        refine gg_lload_n (pc := 57) cx 2 rfl dX9_share_57 rfl ?_
        refine gg_lconst (pc := 58) cx (v := 0) dX9_share_58 (by decide) ?_
        refine gg_lcmp_ne (pc := 59) cx (tgt := 67) dX9_share_59 dX9_share_60 (by decide) (fun c59 => ?_) (fun c59 => ?_)
        · have h := g_if c59 h
          refine gg_ldc2 (pc := 67) cx (v := 1000) tw_1504 dX9_share_67 ?_
          refine gg_aload_n (pc := 70) cx 0 rfl dX9_share_70 rfl ?_
          refine gf_Model_v (pc := 71) cx (hM 9 _ rfl v0) tw_1306 dX9_share_71 ?_
          refine gg_iload_n (pc := 74) cx 1 rfl dX9_share_74 rfl ?_
          refine gg_callSi (pc := 75) cx cal_X9_flow tw_1297 (ct_X9_flow cx.tr hM  h) tw_1296 rfl (st := [.ref (gAd t 47 o0), .long 1000]) rfl (Nat.le_of_ble_eq_true rfl) ⟨Nat.le_of_ble_eq_true rfl, Nat.le_of_ble_eq_true rfl⟩ ⟨Nat.le_of_ble_eq_true rfl, Nat.le_of_ble_eq_true rfl⟩ dX9_share_75 (fun r75 M75 h => ?_)
          refine gg_iconst (pc := 78) cx (v := 3) dX9_share_78 (by decide) ?_
          refine gg_iadd (pc := 79) cx dX9_share_79 ?_
          have q80 := h.1
          have h := h.2
          refine gg_lald (pc := 80) cx (hM 47 _ rfl v0) rfl q80 dX9_share_80 ?_
          refine gg_lmul (pc := 81) cx dX9_share_81 ?_
          refine gg_lload_n (pc := 82) cx 2 rfl dX9_share_82 rfl ?_
          refine gg_ldiv (pc := 83) cx dX9_share_83 h.1 ?_
          have h := h.2
          refine gg_l2i (pc := 84) cx dX9_share_84 ?_
          exact gg_iret (pc := 85) cx hQ h dX9_share_85
        · have h := g_it c59 h
          refine gg_iconst (pc := 63) cx (v := 0) dX9_share_63 (by decide) ?_
          refine gg_goto (pc := 64) cx (tgt := 85) dX9_share_64 (by decide) ?_
          exact gg_iret (pc := 85) cx hQ h dX9_share_85
    · have h := g_if c25 h
      refine gg_lload_n (pc := 28) cx 2 rfl dX9_share_28 rfl ?_
      refine gg_aload_n (pc := 29) cx 0 rfl dX9_share_29 rfl ?_
      refine gf_Model_v (pc := 30) cx (hM 9 _ rfl v0) tw_1306 dX9_share_30 ?_
      refine gg_iload (pc := 33) cx 3 rfl dX9_share_33 ?_
      refine gg_callSi (pc := 35) cx cal_X9_flow tw_1297 (ct_X9_flow cx.tr hM  h) tw_1296 rfl (st := [.ref (gAd t 47 o0), .long y2]) rfl (Nat.le_of_ble_eq_true rfl) ⟨Nat.le_of_ble_eq_true rfl, Nat.le_of_ble_eq_true rfl⟩ ⟨Nat.le_of_ble_eq_true rfl, Nat.le_of_ble_eq_true rfl⟩ dX9_share_35 (fun r35 M35 h => ?_)
      refine gg_iconst (pc := 38) cx (v := 3) dX9_share_38 (by decide) ?_
      refine gg_iadd (pc := 39) cx dX9_share_39 ?_
      have q40 := h.1
      have h := h.2
      refine gg_lald (pc := 40) cx (hM 47 _ rfl v0) rfl q40 dX9_share_40 ?_
      refine gg_ladd (pc := 41) cx dX9_share_41 ?_
      refine gg_topl (fun n42 en42 => ?_)
      have h := h n42 en42
      refine gg_lstore_n (pc := 42) cx [(2, .long n42), (0, .ref (gAd t 9 o0)), (1, .int x1), (4, .int x4)] dX9_share_42 rfl (by decide) rfl ?_
      obtain ⟨n43, en43⟩ : ∃ z : Int32, z = x4 + Int32.ofInt (1) := ⟨_, rfl⟩
      have h := h n43 en43
      refine gg_iinc (pc := 43) cx 3 [(4, .int n43), (2, .long n42), (0, .ref (gAd t 9 o0)), (1, .int x1)] dX9_share_43 rfl en43.symm (by decide) rfl ?_
      refine gg_goto (pc := 46) cx (tgt := 21) dX9_share_46 (by decide) ?_
      refine gg_lv (lv' := [(0, .ref (gAd t 9 o0)), (1, .int x1), (2, .long n42), (4, .int n43)]) [2, 3, 1, 0] rfl ?_
      exact ih o0 x1 n42 n43 M35 v0 h
set_option maxRecDepth 100000 in
set_option maxHeartbeats 4000000 in
theorem wk_X9_share_b13 {t : gT} {X : gX} (cx : g_Cx t X cX9_share 5 RX9 (some .int)) (hM : g_hM t) {K : Int32 → gM → Prop} (hQ : gXQ X = MQ (gXb X) (va_Qi K (g_B t) (g_A t)) (gXa X) (gXs X) rm_X9_share.cells rm_X9_share.slots (g_A t)) {o0 : Nat} {x1 : Int32} {os0 : Nat} {xs1 : Int32} {M : gM} (v0 : o0 < 1) (vs0 : os0 < 1) (h : wp_X9_share_b13 K o0 x1 os0 xs1 M) : G t rm_X9_share X 5 0 0 M [(0, .ref (gAd t 9 o0)), (1, .int x1)] [.int xs1, .ref (gAd t 9 os0)] 13 := by
  refine gp_Model_thrown (pc := 13) cx (hM 9 _ rfl vs0) tw_1310 dX9_share_13 ?_
  refine gg_mem (fun M13 eM13 => ?_)
  have h := h M13 eM13
  refine gg_lconst (pc := 16) cx (v := 0) dX9_share_16 (by decide) ?_
  refine gg_lstore_n (pc := 17) cx [(2, .long 0), (0, .ref (gAd t 9 o0)), (1, .int x1)] dX9_share_17 rfl (by decide) rfl ?_
  refine gg_iconst (pc := 18) cx (v := 0) dX9_share_18 (by decide) ?_
  refine gg_istore (pc := 19) cx [(4, .int 0), (2, .long 0), (0, .ref (gAd t 9 o0)), (1, .int x1)] dX9_share_19 (by decide) rfl ?_
  refine gg_lv (lv' := [(0, .ref (gAd t 9 o0)), (1, .int x1), (2, .long 0), (4, .int 0)]) [2, 3, 1, 0] rfl ?_
  obtain ⟨f21, h⟩ := h
  exact wk_X9_share_L21 cx hM hQ f21 o0 x1 0 0 M13 v0 h
theorem cal_X9_share : g_Cal yX9_share cX9_share 5 (some .int) 1 := ⟨tw_17, tw_1653, by decide, by decide, by decide +kernel⟩
theorem calv_X9_share : g_CalV yX9_share := ⟨tw_1651, tw_1652⟩
set_option maxRecDepth 100000 in
set_option maxHeartbeats 4000000 in
theorem ct_X9_share {l : Launch} (hl : l.stackTraces = false) {t : gT} (hM : g_hM t) {o0 : Nat} {x1 : Int32} (v0 : o0 < 1) {M : gM} {K : Int32 → gM → Prop} (h : wp_X9_share o0 x1 M K) : Met l yX9_share (g_y yX9_share cX9_share 5 (some .int)) rm_X9_share (va_Pc [.ref (gAd t 9 o0), .int x1] (g_Pre t M)) (va_Qi K (g_B t) (g_A t)) rm_X9_share.cells rm_X9_share.slots (g_A t) := by
  refine g_met hl rfl (Nat.le_of_ble_eq_true rfl) (fun X hlX cx hQ => ?_)
  subst hlX
  refine gg_aload_n (pc := 0) cx 0 rfl dX9_share_0 rfl ?_
  refine gg_iload_n (pc := 1) cx 1 rfl dX9_share_1 rfl ?_
  refine gg_callSi (pc := 2) cx cal_X9_isFlow tw_1431 (ct_X9_isFlow cx.tr hM  h) tw_1430 rfl (st := [.ref (gAd t 9 o0)]) rfl (Nat.le_of_ble_eq_true rfl) ⟨Nat.le_of_ble_eq_true rfl, Nat.le_of_ble_eq_true rfl⟩ ⟨Nat.le_of_ble_eq_true rfl, Nat.le_of_ble_eq_true rfl⟩ dX9_share_2 (fun r2 M2 h => ?_)
  refine gg_if_eq (pc := 5) cx (tgt := 12) dX9_share_5 (by decide) (fun c5 => ?_) (fun c5 => ?_)
  · have h := g_it c5 h
    refine gg_iconst (pc := 12) cx (v := 1) dX9_share_12 (by decide) ?_
    exact wk_X9_share_b13 cx hM hQ v0 v0 h
  · have h := g_if c5 h
    refine gg_iconst (pc := 8) cx (v := 0) dX9_share_8 (by decide) ?_
    refine gg_goto (pc := 9) cx (tgt := 13) dX9_share_9 (by decide) ?_
    exact wk_X9_share_b13 cx hM hQ v0 v0 h
set_option maxRecDepth 100000 in
set_option maxHeartbeats 4000000 in
theorem wk_X9_checkpoint_L21 {t : gT} {X : gX} (cx : g_Cx t X cX9_checkpoint 2 RX9 (some .int)) (hM : g_hM t) {K : Int32 → gM → Prop} (hQ : gXQ X = MQ (gXb X) (va_Qi K (g_B t) (g_A t)) (gXa X) (gXs X) rm_X9_checkpoint.cells rm_X9_checkpoint.slots (g_A t)) (f : Nat) : ∀ (o0 : Nat) (x1 : Int32) (M : gM), o0 < 1 → wp_X9_checkpoint_L21 K f o0 x1 M → G t rm_X9_checkpoint X 2 0 0 M [(0, .ref (gAd t 9 o0)), (1, .int x1)] [] 21 := by
  induction f with
  | zero => intro _ _ _ _ _; exact False.elim (by assumption)
  | succ f ih =>
    intro o0 x1 M v0 h
    refine gg_iload_n (pc := 21) cx 1 rfl dX9_checkpoint_21 rfl ?_
    refine gg_sipush (pc := 22) cx (v := 7600) dX9_checkpoint_22 (by decide) ?_
    refine gg_icmp_ge (pc := 25) cx (tgt := 55) dX9_checkpoint_25 (by decide) (fun c25 => ?_) (fun c25 => ?_)
    · have h := g_it c25 h
      refine gg_aload_n (pc := 55) cx 0 rfl dX9_checkpoint_55 rfl ?_
      refine gg_dup (pc := 56) cx dX9_checkpoint_56 rfl ?_
      refine gf_Model_keeps (pc := 57) cx (hM 9 _ rfl v0) tw_1309 dX9_checkpoint_57 ?_
      refine gg_iconst (pc := 60) cx (v := 1) dX9_checkpoint_60 (by decide) ?_
      refine gg_iadd (pc := 61) cx dX9_checkpoint_61 ?_
      refine gp_Model_keeps (pc := 62) cx (hM 9 _ rfl v0) tw_1309 dX9_checkpoint_62 ?_
      refine gg_mem (fun M62 eM62 => ?_)
      have h := h M62 eM62
      refine gg_aload_n (pc := 65) cx 0 rfl dX9_checkpoint_65 rfl ?_
      refine gf_Model_keeps (pc := 66) cx (hM 9 _ rfl v0) tw_1309 dX9_checkpoint_66 ?_
      exact gg_iret (pc := 69) cx hQ h dX9_checkpoint_69
    · have h := g_if c25 h
      refine gg_aload_n (pc := 28) cx 0 rfl dX9_checkpoint_28 rfl ?_
      refine gf_Model_kept (pc := 29) cx (hM 9 _ rfl v0) tw_1308 dX9_checkpoint_29 ?_
      refine gg_sipush (pc := 32) cx (v := 7600) dX9_checkpoint_32 (by decide) ?_
      refine gg_aload_n (pc := 35) cx 0 rfl dX9_checkpoint_35 rfl ?_
      refine gf_Model_keeps (pc := 36) cx (hM 9 _ rfl v0) tw_1309 dX9_checkpoint_36 ?_
      refine gg_imul (pc := 39) cx dX9_checkpoint_39 ?_
      refine gg_iload_n (pc := 40) cx 1 rfl dX9_checkpoint_40 rfl ?_
      refine gg_iadd (pc := 41) cx dX9_checkpoint_41 ?_
      refine gg_aload_n (pc := 42) cx 0 rfl dX9_checkpoint_42 rfl ?_
      refine gf_Model_v (pc := 43) cx (hM 9 _ rfl v0) tw_1306 dX9_checkpoint_43 ?_
      refine gg_iload_n (pc := 46) cx 1 rfl dX9_checkpoint_46 rfl ?_
      have q47 := h.1
      have h := h.2
      refine gg_lald (pc := 47) cx (hM 47 _ rfl v0) rfl q47 dX9_checkpoint_47 ?_
      have q48 := h.1
      have h := h.2
      refine gg_last (pc := 48) cx (hM 49 _ rfl v0) (fun _ _ => rfl) q48 dX9_checkpoint_48 ?_
      refine gg_mem (fun M48 eM48 => ?_)
      have h := h M48 eM48
      obtain ⟨n49, en49⟩ : ∃ z : Int32, z = x1 + Int32.ofInt (1) := ⟨_, rfl⟩
      have h := h n49 en49
      refine gg_iinc (pc := 49) cx 1 [(1, .int n49), (0, .ref (gAd t 9 o0))] dX9_checkpoint_49 rfl en49.symm (by decide) rfl ?_
      refine gg_goto (pc := 52) cx (tgt := 21) dX9_checkpoint_52 (by decide) ?_
      refine gg_lv (lv' := [(0, .ref (gAd t 9 o0)), (1, .int n49)]) [1, 0] rfl ?_
      exact ih o0 n49 M48 v0 h
theorem cal_X9_checkpoint : g_Cal yX9_checkpoint cX9_checkpoint 2 (some .int) 0 := ⟨tw_17, tw_1657, by decide, by decide, by decide +kernel⟩
theorem calv_X9_checkpoint : g_CalV yX9_checkpoint := ⟨tw_1655, tw_1656⟩
set_option maxRecDepth 100000 in
set_option maxHeartbeats 4000000 in
theorem ct_X9_checkpoint {l : Launch} (hl : l.stackTraces = false) {t : gT} (hM : g_hM t) {o0 : Nat} (v0 : o0 < 1) {M : gM} {K : Int32 → gM → Prop} (h : wp_X9_checkpoint o0 M K) : Met l yX9_checkpoint (g_y yX9_checkpoint cX9_checkpoint 2 (some .int)) rm_X9_checkpoint (va_Pc [.ref (gAd t 9 o0)] (g_Pre t M)) (va_Qi K (g_B t) (g_A t)) rm_X9_checkpoint.cells rm_X9_checkpoint.slots (g_A t) := by
  refine g_met hl rfl (Nat.le_of_ble_eq_true rfl) (fun X hlX cx hQ => ?_)
  subst hlX
  refine gg_aload_n (pc := 0) cx 0 rfl dX9_checkpoint_0 rfl ?_
  refine gg_iconst (pc := 1) cx (v := 0) dX9_checkpoint_1 (by decide) ?_
  refine gp_Model_thrown (pc := 2) cx (hM 9 _ rfl v0) tw_1310 dX9_checkpoint_2 ?_
  refine gg_mem (fun M2 eM2 => ?_)
  have h := h M2 eM2
  refine gg_aload_n (pc := 5) cx 0 rfl dX9_checkpoint_5 rfl ?_
  refine gf_Model_keeps (pc := 6) cx (hM 9 _ rfl v0) tw_1309 dX9_checkpoint_6 ?_
  refine gg_iconst (pc := 9) cx (v := 3) dX9_checkpoint_9 (by decide) ?_
  refine gg_icmp_ne (pc := 10) cx (tgt := 19) dX9_checkpoint_10 (by decide) (fun c10 => ?_) (fun c10 => ?_)
  · have h := g_if c10 h
    refine gg_iconst (pc := 19) cx (v := 0) dX9_checkpoint_19 (by decide) ?_
    refine gg_istore_n (pc := 20) cx [(1, .int 0), (0, .ref (gAd t 9 o0))] dX9_checkpoint_20 rfl (by decide) rfl ?_
    refine gg_lv (lv' := [(0, .ref (gAd t 9 o0)), (1, .int 0)]) [1, 0] rfl ?_
    obtain ⟨f21, h⟩ := h
    exact wk_X9_checkpoint_L21 cx hM hQ f21 o0 0 M2 v0 h
  · have h := g_it c10 h
    refine gg_aload_n (pc := 13) cx 0 rfl dX9_checkpoint_13 rfl ?_
    refine gg_iconst (pc := 14) cx (v := 1) dX9_checkpoint_14 (by decide) ?_
    refine gg_callVi (pc := 15) cx cal_X9_fails calv_X9_fails (ct_X9_fails cx.tr hM v0 h) tw_1377 (hM 9 _ rfl v0) rfl rfl rfl (st := []) rfl (Nat.le_of_ble_eq_true rfl) ⟨Nat.le_of_ble_eq_true rfl, Nat.le_of_ble_eq_true rfl⟩ ⟨Nat.le_of_ble_eq_true rfl, Nat.le_of_ble_eq_true rfl⟩ dX9_checkpoint_15 (fun r15 M15 h => ?_)
    exact gg_iret (pc := 18) cx hQ h dX9_checkpoint_18
set_option maxRecDepth 100000 in
set_option maxHeartbeats 4000000 in
theorem wk_X9_rollback_L30 {t : gT} {X : gX} (cx : g_Cx t X cX9_rollback 2 RX9 (some .int)) (hM : g_hM t) {K : Int32 → gM → Prop} (hQ : gXQ X = MQ (gXb X) (va_Qi K (g_B t) (g_A t)) (gXa X) (gXs X) rm_X9_rollback.cells rm_X9_rollback.slots (g_A t)) (f : Nat) : ∀ (o0 : Nat) (x1 : Int32) (M : gM), o0 < 1 → wp_X9_rollback_L30 K f o0 x1 M → G t rm_X9_rollback X 2 0 0 M [(0, .ref (gAd t 9 o0)), (1, .int x1)] [] 30 := by
  induction f with
  | zero => intro _ _ _ _ _; exact False.elim (by assumption)
  | succ f ih =>
    intro o0 x1 M v0 h
    refine gg_iload_n (pc := 30) cx 1 rfl dX9_rollback_30 rfl ?_
    refine gg_sipush (pc := 31) cx (v := 7600) dX9_rollback_31 (by decide) ?_
    refine gg_icmp_ge (pc := 34) cx (tgt := 64) dX9_rollback_34 (by decide) (fun c34 => ?_) (fun c34 => ?_)
    · have h := g_it c34 h
      refine gg_aload_n (pc := 64) cx 0 rfl dX9_rollback_64 rfl ?_
      refine gf_Model_keeps (pc := 65) cx (hM 9 _ rfl v0) tw_1309 dX9_rollback_65 ?_
      exact gg_iret (pc := 68) cx hQ h dX9_rollback_68
    · have h := g_if c34 h
      refine gg_aload_n (pc := 37) cx 0 rfl dX9_rollback_37 rfl ?_
      refine gf_Model_v (pc := 38) cx (hM 9 _ rfl v0) tw_1306 dX9_rollback_38 ?_
      refine gg_iload_n (pc := 41) cx 1 rfl dX9_rollback_41 rfl ?_
      refine gg_aload_n (pc := 42) cx 0 rfl dX9_rollback_42 rfl ?_
      refine gf_Model_kept (pc := 43) cx (hM 9 _ rfl v0) tw_1308 dX9_rollback_43 ?_
      refine gg_sipush (pc := 46) cx (v := 7600) dX9_rollback_46 (by decide) ?_
      refine gg_aload_n (pc := 49) cx 0 rfl dX9_rollback_49 rfl ?_
      refine gf_Model_keeps (pc := 50) cx (hM 9 _ rfl v0) tw_1309 dX9_rollback_50 ?_
      refine gg_imul (pc := 53) cx dX9_rollback_53 ?_
      refine gg_iload_n (pc := 54) cx 1 rfl dX9_rollback_54 rfl ?_
      refine gg_iadd (pc := 55) cx dX9_rollback_55 ?_
      have q56 := h.1
      have h := h.2
      refine gg_lald (pc := 56) cx (hM 49 _ rfl v0) rfl q56 dX9_rollback_56 ?_
      have q57 := h.1
      have h := h.2
      refine gg_last (pc := 57) cx (hM 47 _ rfl v0) (fun _ _ => rfl) q57 dX9_rollback_57 ?_
      refine gg_mem (fun M57 eM57 => ?_)
      have h := h M57 eM57
      obtain ⟨n58, en58⟩ : ∃ z : Int32, z = x1 + Int32.ofInt (1) := ⟨_, rfl⟩
      have h := h n58 en58
      refine gg_iinc (pc := 58) cx 1 [(1, .int n58), (0, .ref (gAd t 9 o0))] dX9_rollback_58 rfl en58.symm (by decide) rfl ?_
      refine gg_goto (pc := 61) cx (tgt := 30) dX9_rollback_61 (by decide) ?_
      refine gg_lv (lv' := [(0, .ref (gAd t 9 o0)), (1, .int n58)]) [1, 0] rfl ?_
      exact ih o0 n58 M57 v0 h
theorem cal_X9_rollback : g_Cal yX9_rollback cX9_rollback 2 (some .int) 0 := ⟨tw_17, tw_1661, by decide, by decide, by decide +kernel⟩
theorem calv_X9_rollback : g_CalV yX9_rollback := ⟨tw_1659, tw_1660⟩
set_option maxRecDepth 100000 in
set_option maxHeartbeats 4000000 in
theorem ct_X9_rollback {l : Launch} (hl : l.stackTraces = false) {t : gT} (hM : g_hM t) {o0 : Nat} (v0 : o0 < 1) {M : gM} {K : Int32 → gM → Prop} (h : wp_X9_rollback o0 M K) : Met l yX9_rollback (g_y yX9_rollback cX9_rollback 2 (some .int)) rm_X9_rollback (va_Pc [.ref (gAd t 9 o0)] (g_Pre t M)) (va_Qi K (g_B t) (g_A t)) rm_X9_rollback.cells rm_X9_rollback.slots (g_A t) := by
  refine g_met hl rfl (Nat.le_of_ble_eq_true rfl) (fun X hlX cx hQ => ?_)
  subst hlX
  refine gg_aload_n (pc := 0) cx 0 rfl dX9_rollback_0 rfl ?_
  refine gg_iconst (pc := 1) cx (v := 0) dX9_rollback_1 (by decide) ?_
  refine gp_Model_thrown (pc := 2) cx (hM 9 _ rfl v0) tw_1310 dX9_rollback_2 ?_
  refine gg_mem (fun M2 eM2 => ?_)
  have h := h M2 eM2
  refine gg_aload_n (pc := 5) cx 0 rfl dX9_rollback_5 rfl ?_
  refine gf_Model_keeps (pc := 6) cx (hM 9 _ rfl v0) tw_1309 dX9_rollback_6 ?_
  refine gg_if_ne (pc := 9) cx (tgt := 18) dX9_rollback_9 (by decide) (fun c9 => ?_) (fun c9 => ?_)
  · have h := g_if c9 h
    refine gg_aload_n (pc := 18) cx 0 rfl dX9_rollback_18 rfl ?_
    refine gg_dup (pc := 19) cx dX9_rollback_19 rfl ?_
    refine gf_Model_keeps (pc := 20) cx (hM 9 _ rfl v0) tw_1309 dX9_rollback_20 ?_
    refine gg_iconst (pc := 23) cx (v := 1) dX9_rollback_23 (by decide) ?_
    refine gg_isub (pc := 24) cx dX9_rollback_24 ?_
    refine gp_Model_keeps (pc := 25) cx (hM 9 _ rfl v0) tw_1309 dX9_rollback_25 ?_
    refine gg_mem (fun M25 eM25 => ?_)
    have h := h M25 eM25
    refine gg_iconst (pc := 28) cx (v := 0) dX9_rollback_28 (by decide) ?_
    refine gg_istore_n (pc := 29) cx [(1, .int 0), (0, .ref (gAd t 9 o0))] dX9_rollback_29 rfl (by decide) rfl ?_
    refine gg_lv (lv' := [(0, .ref (gAd t 9 o0)), (1, .int 0)]) [1, 0] rfl ?_
    obtain ⟨f30, h⟩ := h
    exact wk_X9_rollback_L30 cx hM hQ f30 o0 0 M25 v0 h
  · have h := g_it c9 h
    refine gg_aload_n (pc := 12) cx 0 rfl dX9_rollback_12 rfl ?_
    refine gg_iconst (pc := 13) cx (v := 1) dX9_rollback_13 (by decide) ?_
    refine gg_callVi (pc := 14) cx cal_X9_fails calv_X9_fails (ct_X9_fails cx.tr hM v0 h) tw_1377 (hM 9 _ rfl v0) rfl rfl rfl (st := []) rfl (Nat.le_of_ble_eq_true rfl) ⟨Nat.le_of_ble_eq_true rfl, Nat.le_of_ble_eq_true rfl⟩ ⟨Nat.le_of_ble_eq_true rfl, Nat.le_of_ble_eq_true rfl⟩ dX9_rollback_14 (fun r14 M14 h => ?_)
    exact gg_iret (pc := 17) cx hQ h dX9_rollback_17
theorem cal_X9_commit : g_Cal yX9_commit cX9_commit 1 (some .int) 0 := ⟨tw_17, tw_1665, by decide, by decide, by decide +kernel⟩
theorem calv_X9_commit : g_CalV yX9_commit := ⟨tw_1663, tw_1664⟩
set_option maxRecDepth 100000 in
set_option maxHeartbeats 4000000 in
theorem ct_X9_commit {l : Launch} (hl : l.stackTraces = false) {t : gT} (hM : g_hM t) {o0 : Nat} (v0 : o0 < 1) {M : gM} {K : Int32 → gM → Prop} (h : wp_X9_commit o0 M K) : Met l yX9_commit (g_y yX9_commit cX9_commit 1 (some .int)) rm_X9_commit (va_Pc [.ref (gAd t 9 o0)] (g_Pre t M)) (va_Qi K (g_B t) (g_A t)) rm_X9_commit.cells rm_X9_commit.slots (g_A t) := by
  refine g_met hl rfl (Nat.le_of_ble_eq_true rfl) (fun X hlX cx hQ => ?_)
  subst hlX
  refine gg_aload_n (pc := 0) cx 0 rfl dX9_commit_0 rfl ?_
  refine gg_iconst (pc := 1) cx (v := 0) dX9_commit_1 (by decide) ?_
  refine gp_Model_thrown (pc := 2) cx (hM 9 _ rfl v0) tw_1310 dX9_commit_2 ?_
  refine gg_mem (fun M2 eM2 => ?_)
  have h := h M2 eM2
  refine gg_aload_n (pc := 5) cx 0 rfl dX9_commit_5 rfl ?_
  refine gf_Model_keeps (pc := 6) cx (hM 9 _ rfl v0) tw_1309 dX9_commit_6 ?_
  refine gg_if_ne (pc := 9) cx (tgt := 18) dX9_commit_9 (by decide) (fun c9 => ?_) (fun c9 => ?_)
  · have h := g_if c9 h
    refine gg_aload_n (pc := 18) cx 0 rfl dX9_commit_18 rfl ?_
    refine gg_dup (pc := 19) cx dX9_commit_19 rfl ?_
    refine gf_Model_keeps (pc := 20) cx (hM 9 _ rfl v0) tw_1309 dX9_commit_20 ?_
    refine gg_iconst (pc := 23) cx (v := 1) dX9_commit_23 (by decide) ?_
    refine gg_isub (pc := 24) cx dX9_commit_24 ?_
    refine gp_Model_keeps (pc := 25) cx (hM 9 _ rfl v0) tw_1309 dX9_commit_25 ?_
    refine gg_mem (fun M25 eM25 => ?_)
    have h := h M25 eM25
    refine gg_aload_n (pc := 28) cx 0 rfl dX9_commit_28 rfl ?_
    refine gf_Model_keeps (pc := 29) cx (hM 9 _ rfl v0) tw_1309 dX9_commit_29 ?_
    exact gg_iret (pc := 32) cx hQ h dX9_commit_32
  · have h := g_it c9 h
    refine gg_aload_n (pc := 12) cx 0 rfl dX9_commit_12 rfl ?_
    refine gg_iconst (pc := 13) cx (v := 1) dX9_commit_13 (by decide) ?_
    refine gg_callVi (pc := 14) cx cal_X9_fails calv_X9_fails (ct_X9_fails cx.tr hM v0 h) tw_1377 (hM 9 _ rfl v0) rfl rfl rfl (st := []) rfl (Nat.le_of_ble_eq_true rfl) ⟨Nat.le_of_ble_eq_true rfl, Nat.le_of_ble_eq_true rfl⟩ ⟨Nat.le_of_ble_eq_true rfl, Nat.le_of_ble_eq_true rfl⟩ dX9_commit_14 (fun r14 M14 h => ?_)
    exact gg_iret (pc := 17) cx hQ h dX9_commit_17
set_option maxRecDepth 100000 in
set_option maxHeartbeats 4000000 in
theorem wk_X9_fingerprint_L160 {t : gT} {X : gX} (cx : g_Cx t X cX9_fingerprint 6 RX9 (some .long)) (hM : g_hM t) {K : Int64 → gM → Prop} (hQ : gXQ X = MQ (gXb X) (va_Ql K (g_B t) (g_A t)) (gXa X) (gXs X) rm_X9_fingerprint.cells rm_X9_fingerprint.slots (g_A t)) (f : Nat) : ∀ (o0 : Nat) (y1 : Int64) (x3 : Int32) (M : gM), o0 < 1 → wp_X9_fingerprint_L160 K f o0 y1 x3 M → G t rm_X9_fingerprint X 6 0 0 M [(0, .ref (gAd t 9 o0)), (1, .long y1), (3, .int x3)] [] 160 := by
  induction f with
  | zero => intro _ _ _ _ _ _; exact False.elim (by assumption)
  | succ f ih =>
    intro o0 y1 x3 M v0 h
    refine gg_iload_n (pc := 160) cx 2 rfl dX9_fingerprint_160 rfl ?_
    refine gg_bipush (pc := 161) cx (v := 16) dX9_fingerprint_161 (by decide) ?_
    refine gg_icmp_ge (pc := 163) cx (tgt := 245) dX9_fingerprint_163 (by decide) (fun c163 => ?_) (fun c163 => ?_)
    · have h := g_it c163 h
      refine gg_lload_n (pc := 245) cx 1 rfl dX9_fingerprint_245 rfl ?_
      exact gg_lret (pc := 246) cx hQ h dX9_fingerprint_246
    · have h := g_if c163 h
      refine gg_ldc2 (pc := 166) cx (v := 31) tw_1670 dX9_fingerprint_166 ?_
      refine gg_lload_n (pc := 169) cx 1 rfl dX9_fingerprint_169 rfl ?_
      refine gg_lmul (pc := 170) cx dX9_fingerprint_170 ?_
      refine gg_aload_n (pc := 171) cx 0 rfl dX9_fingerprint_171 rfl ?_
      refine gf_Model_v (pc := 172) cx (hM 9 _ rfl v0) tw_1306 dX9_fingerprint_172 ?_
      refine gg_iload_n (pc := 175) cx 2 rfl dX9_fingerprint_175 rfl ?_
      refine gg_callSi (pc := 176) cx cal_X9_flow tw_1297 (ct_X9_flow cx.tr hM  h) tw_1296 rfl (st := [.ref (gAd t 47 o0), .long (31 * y1)]) rfl (Nat.le_of_ble_eq_true rfl) ⟨Nat.le_of_ble_eq_true rfl, Nat.le_of_ble_eq_true rfl⟩ ⟨Nat.le_of_ble_eq_true rfl, Nat.le_of_ble_eq_true rfl⟩ dX9_fingerprint_176 (fun r176 M176 h => ?_)
      refine gg_iconst (pc := 179) cx (v := 2) dX9_fingerprint_179 (by decide) ?_
      refine gg_iadd (pc := 180) cx dX9_fingerprint_180 ?_
      have q181 := h.1
      have h := h.2
      refine gg_lald (pc := 181) cx (hM 47 _ rfl v0) rfl q181 dX9_fingerprint_181 ?_
      refine gg_ladd (pc := 182) cx dX9_fingerprint_182 ?_
      refine gg_topl (fun n183 en183 => ?_)
      have h := h n183 en183
      refine gg_lstore_n (pc := 183) cx [(1, .long n183), (0, .ref (gAd t 9 o0)), (3, .int x3)] dX9_fingerprint_183 rfl (by decide) rfl ?_
      refine gg_ldc2 (pc := 184) cx (v := 31) tw_1670 dX9_fingerprint_184 ?_
      refine gg_lload_n (pc := 187) cx 0 rfl dX9_fingerprint_187 rfl ?_
      refine gg_lmul (pc := 188) cx dX9_fingerprint_188 ?_
      refine gg_aload_n (pc := 189) cx 1 rfl dX9_fingerprint_189 rfl ?_
      refine gf_Model_v (pc := 190) cx (hM 9 _ rfl v0) tw_1306 dX9_fingerprint_190 ?_
      refine gg_iload_n (pc := 193) cx 2 rfl dX9_fingerprint_193 rfl ?_
      refine gg_callSi (pc := 194) cx cal_X9_flow tw_1297 (ct_X9_flow cx.tr hM  h) tw_1296 rfl (st := [.ref (gAd t 47 o0), .long (31 * n183)]) rfl (Nat.le_of_ble_eq_true rfl) ⟨Nat.le_of_ble_eq_true rfl, Nat.le_of_ble_eq_true rfl⟩ ⟨Nat.le_of_ble_eq_true rfl, Nat.le_of_ble_eq_true rfl⟩ dX9_fingerprint_194 (fun r194 M194 h => ?_)
      refine gg_iconst (pc := 197) cx (v := 3) dX9_fingerprint_197 (by decide) ?_
      refine gg_iadd (pc := 198) cx dX9_fingerprint_198 ?_
      have q199 := h.1
      have h := h.2
      refine gg_lald (pc := 199) cx (hM 47 _ rfl v0) rfl q199 dX9_fingerprint_199 ?_
      refine gg_ladd (pc := 200) cx dX9_fingerprint_200 ?_
      refine gg_topl (fun n201 en201 => ?_)
      have h := h n201 en201
      refine gg_lstore_n (pc := 201) cx [(1, .long n201), (0, .ref (gAd t 9 o0)), (3, .int x3)] dX9_fingerprint_201 rfl (by decide) rfl ?_
      refine gg_ldc2 (pc := 202) cx (v := 31) tw_1670 dX9_fingerprint_202 ?_
      refine gg_lload_n (pc := 205) cx 0 rfl dX9_fingerprint_205 rfl ?_
      refine gg_lmul (pc := 206) cx dX9_fingerprint_206 ?_
      refine gg_aload_n (pc := 207) cx 1 rfl dX9_fingerprint_207 rfl ?_
      refine gf_Model_v (pc := 208) cx (hM 9 _ rfl v0) tw_1306 dX9_fingerprint_208 ?_
      refine gg_iload_n (pc := 211) cx 2 rfl dX9_fingerprint_211 rfl ?_
      refine gg_callSi (pc := 212) cx cal_X9_flow tw_1297 (ct_X9_flow cx.tr hM  h) tw_1296 rfl (st := [.ref (gAd t 47 o0), .long (31 * n201)]) rfl (Nat.le_of_ble_eq_true rfl) ⟨Nat.le_of_ble_eq_true rfl, Nat.le_of_ble_eq_true rfl⟩ ⟨Nat.le_of_ble_eq_true rfl, Nat.le_of_ble_eq_true rfl⟩ dX9_fingerprint_212 (fun r212 M212 h => ?_)
      refine gg_iconst (pc := 215) cx (v := 4) dX9_fingerprint_215 (by decide) ?_
      refine gg_iadd (pc := 216) cx dX9_fingerprint_216 ?_
      have q217 := h.1
      have h := h.2
      refine gg_lald (pc := 217) cx (hM 47 _ rfl v0) rfl q217 dX9_fingerprint_217 ?_
      refine gg_ladd (pc := 218) cx dX9_fingerprint_218 ?_
      refine gg_topl (fun n219 en219 => ?_)
      have h := h n219 en219
      refine gg_lstore_n (pc := 219) cx [(1, .long n219), (0, .ref (gAd t 9 o0)), (3, .int x3)] dX9_fingerprint_219 rfl (by decide) rfl ?_
      refine gg_ldc2 (pc := 220) cx (v := 31) tw_1670 dX9_fingerprint_220 ?_
      refine gg_lload_n (pc := 223) cx 0 rfl dX9_fingerprint_223 rfl ?_
      refine gg_lmul (pc := 224) cx dX9_fingerprint_224 ?_
      refine gg_aload_n (pc := 225) cx 1 rfl dX9_fingerprint_225 rfl ?_
      refine gf_Model_v (pc := 226) cx (hM 9 _ rfl v0) tw_1306 dX9_fingerprint_226 ?_
      refine gg_iload_n (pc := 229) cx 2 rfl dX9_fingerprint_229 rfl ?_
      refine gg_callSi (pc := 230) cx cal_X9_flow tw_1297 (ct_X9_flow cx.tr hM  h) tw_1296 rfl (st := [.ref (gAd t 47 o0), .long (31 * n219)]) rfl (Nat.le_of_ble_eq_true rfl) ⟨Nat.le_of_ble_eq_true rfl, Nat.le_of_ble_eq_true rfl⟩ ⟨Nat.le_of_ble_eq_true rfl, Nat.le_of_ble_eq_true rfl⟩ dX9_fingerprint_230 (fun r230 M230 h => ?_)
      refine gg_bipush (pc := 233) cx (v := 6) dX9_fingerprint_233 (by decide) ?_
      refine gg_iadd (pc := 235) cx dX9_fingerprint_235 ?_
      have q236 := h.1
      have h := h.2
      refine gg_lald (pc := 236) cx (hM 47 _ rfl v0) rfl q236 dX9_fingerprint_236 ?_
      refine gg_ladd (pc := 237) cx dX9_fingerprint_237 ?_
      refine gg_topl (fun n238 en238 => ?_)
      have h := h n238 en238
      refine gg_lstore_n (pc := 238) cx [(1, .long n238), (0, .ref (gAd t 9 o0)), (3, .int x3)] dX9_fingerprint_238 rfl (by decide) rfl ?_
      obtain ⟨n239, en239⟩ : ∃ z : Int32, z = x3 + Int32.ofInt (1) := ⟨_, rfl⟩
      have h := h n239 en239
      refine gg_iinc (pc := 239) cx 2 [(3, .int n239), (1, .long n238), (0, .ref (gAd t 9 o0))] dX9_fingerprint_239 rfl en239.symm (by decide) rfl ?_
      refine gg_goto (pc := 242) cx (tgt := 160) dX9_fingerprint_242 (by decide) ?_
      refine gg_lv (lv' := [(0, .ref (gAd t 9 o0)), (1, .long n238), (3, .int n239)]) [2, 1, 0] rfl ?_
      exact ih o0 n238 n239 M230 v0 h
set_option maxRecDepth 100000 in
set_option maxHeartbeats 4000000 in
theorem wk_X9_fingerprint_L82 {t : gT} {X : gX} (cx : g_Cx t X cX9_fingerprint 6 RX9 (some .long)) (hM : g_hM t) {K : Int64 → gM → Prop} (hQ : gXQ X = MQ (gXb X) (va_Ql K (g_B t) (g_A t)) (gXa X) (gXs X) rm_X9_fingerprint.cells rm_X9_fingerprint.slots (g_A t)) {R29 : Nat → Int64 → Int32 → gM → Prop} (hR29 : ∀ (o0 : Nat) (y1 : Int64) (x3 : Int32) (M : gM), o0 < 1 → R29 o0 y1 x3 M → G t rm_X9_fingerprint X 6 0 0 M [(0, .ref (gAd t 9 o0)), (1, .long y1), (3, .int x3)] [] 29) (f : Nat) : ∀ (o0 : Nat) (y1 : Int64) (x3 : Int32) (x4 : Int32) (M : gM), o0 < 1 → wp_X9_fingerprint_L82 R29 K f o0 y1 x3 x4 M → G t rm_X9_fingerprint X 6 0 0 M [(0, .ref (gAd t 9 o0)), (1, .long y1), (3, .int x3), (4, .int x4)] [] 82 := by
  induction f with
  | zero => intro _ _ _ _ _ _ _; exact False.elim (by assumption)
  | succ f ih =>
    intro o0 y1 x3 x4 M v0 h
    refine gg_iload (pc := 82) cx 3 rfl dX9_fingerprint_82 ?_
    refine gg_i2l (pc := 84) cx dX9_fingerprint_84 ?_
    refine gg_aload_n (pc := 85) cx 0 rfl dX9_fingerprint_85 rfl ?_
    refine gf_Model_v (pc := 86) cx (hM 9 _ rfl v0) tw_1306 dX9_fingerprint_86 ?_
    refine gg_iload_n (pc := 89) cx 2 rfl dX9_fingerprint_89 rfl ?_
    refine gg_callSi (pc := 90) cx cal_X9_node tw_1300 (ct_X9_node cx.tr hM  h) tw_1299 rfl (st := [.ref (gAd t 47 o0), .long x4.toInt64]) rfl (Nat.le_of_ble_eq_true rfl) ⟨Nat.le_of_ble_eq_true rfl, Nat.le_of_ble_eq_true rfl⟩ ⟨Nat.le_of_ble_eq_true rfl, Nat.le_of_ble_eq_true rfl⟩ dX9_fingerprint_90 (fun r90 M90 h => ?_)
    refine gg_bipush (pc := 93) cx (v := 11) dX9_fingerprint_93 (by decide) ?_
    refine gg_iadd (pc := 95) cx dX9_fingerprint_95 ?_
    have q96 := h.1
    have h := h.2
    refine gg_lald (pc := 96) cx (hM 47 _ rfl v0) rfl q96 dX9_fingerprint_96 ?_
    refine gg_lcmp_ge (pc := 97) cx (tgt := 152) dX9_fingerprint_97 dX9_fingerprint_98 (by decide) (fun c97 => ?_) (fun c97 => ?_)
    · have h := g_it c97 h
      obtain ⟨n152, en152⟩ : ∃ z : Int32, z = x3 + Int32.ofInt (1) := ⟨_, rfl⟩
      have h := h n152 en152
      refine gg_iinc (pc := 152) cx 2 [(3, .int n152), (0, .ref (gAd t 9 o0)), (1, .long y1), (4, .int x4)] dX9_fingerprint_152 rfl en152.symm (by decide) rfl ?_
      refine gg_goto (pc := 155) cx (tgt := 29) dX9_fingerprint_155 (by decide) ?_
      refine gg_lv (lv' := [(0, .ref (gAd t 9 o0)), (1, .long y1), (3, .int n152)]) [1, 2, 0] rfl ?_
      exact hR29 o0 y1 n152 M90 v0 h
    · have h := g_if c97 h
      refine gg_iload_n (pc := 101) cx 2 rfl dX9_fingerprint_101 rfl ?_
      refine gg_aload_n (pc := 102) cx 0 rfl dX9_fingerprint_102 rfl ?_
      refine gg_iload_n (pc := 103) cx 2 rfl dX9_fingerprint_103 rfl ?_
      refine gg_iload (pc := 104) cx 3 rfl dX9_fingerprint_104 ?_
      refine gg_callVi (pc := 106) cx cal_X9_placeOf calv_X9_placeOf (ct_X9_placeOf cx.tr hM v0 h) tw_1520 (hM 9 _ rfl v0) rfl rfl rfl (st := [.int x3]) rfl (Nat.le_of_ble_eq_true rfl) ⟨Nat.le_of_ble_eq_true rfl, Nat.le_of_ble_eq_true rfl⟩ ⟨Nat.le_of_ble_eq_true rfl, Nat.le_of_ble_eq_true rfl⟩ dX9_fingerprint_106 (fun r106 M106 h => ?_)
      refine gg_callSi (pc := 109) cx cal_X9_element tw_1494 (ct_X9_element cx.tr hM  h) tw_1493 rfl (st := []) rfl (Nat.le_of_ble_eq_true rfl) ⟨Nat.le_of_ble_eq_true rfl, Nat.le_of_ble_eq_true rfl⟩ ⟨Nat.le_of_ble_eq_true rfl, Nat.le_of_ble_eq_true rfl⟩ dX9_fingerprint_109 (fun r109 M109 h => ?_)
      refine gg_istore (pc := 112) cx [(5, .int r109), (0, .ref (gAd t 9 o0)), (1, .long y1), (3, .int x3), (4, .int x4)] dX9_fingerprint_112 (by decide) rfl ?_
      refine gg_ldc2 (pc := 114) cx (v := 31) tw_1670 dX9_fingerprint_114 ?_
      refine gg_lload_n (pc := 117) cx 2 rfl dX9_fingerprint_117 rfl ?_
      refine gg_lmul (pc := 118) cx dX9_fingerprint_118 ?_
      refine gg_aload_n (pc := 119) cx 1 rfl dX9_fingerprint_119 rfl ?_
      refine gf_Model_v (pc := 120) cx (hM 9 _ rfl v0) tw_1306 dX9_fingerprint_120 ?_
      refine gg_iload (pc := 123) cx 0 rfl dX9_fingerprint_123 ?_
      refine gg_iconst (pc := 125) cx (v := 0) dX9_fingerprint_125 (by decide) ?_
      refine gg_iadd (pc := 126) cx dX9_fingerprint_126 ?_
      have q127 := h.1
      have h := h.2
      refine gg_lald (pc := 127) cx (hM 47 _ rfl v0) rfl q127 dX9_fingerprint_127 ?_
      refine gg_ladd (pc := 128) cx dX9_fingerprint_128 ?_
      refine gg_topl (fun n129 en129 => ?_)
      have h := h n129 en129
      refine gg_lstore_n (pc := 129) cx [(1, .long n129), (5, .int r109), (0, .ref (gAd t 9 o0)), (3, .int x3), (4, .int x4)] dX9_fingerprint_129 rfl (by decide) rfl ?_
      refine gg_ldc2 (pc := 130) cx (v := 31) tw_1670 dX9_fingerprint_130 ?_
      refine gg_lload_n (pc := 133) cx 0 rfl dX9_fingerprint_133 rfl ?_
      refine gg_lmul (pc := 134) cx dX9_fingerprint_134 ?_
      refine gg_aload_n (pc := 135) cx 2 rfl dX9_fingerprint_135 rfl ?_
      refine gf_Model_v (pc := 136) cx (hM 9 _ rfl v0) tw_1306 dX9_fingerprint_136 ?_
      refine gg_iload (pc := 139) cx 1 rfl dX9_fingerprint_139 ?_
      refine gg_iconst (pc := 141) cx (v := 1) dX9_fingerprint_141 (by decide) ?_
      refine gg_iadd (pc := 142) cx dX9_fingerprint_142 ?_
      have q143 := h.1
      have h := h.2
      refine gg_lald (pc := 143) cx (hM 47 _ rfl v0) rfl q143 dX9_fingerprint_143 ?_
      refine gg_ladd (pc := 144) cx dX9_fingerprint_144 ?_
      refine gg_topl (fun n145 en145 => ?_)
      have h := h n145 en145
      refine gg_lstore_n (pc := 145) cx [(1, .long n145), (5, .int r109), (0, .ref (gAd t 9 o0)), (3, .int x3), (4, .int x4)] dX9_fingerprint_145 rfl (by decide) rfl ?_
      obtain ⟨n146, en146⟩ : ∃ z : Int32, z = x4 + Int32.ofInt (1) := ⟨_, rfl⟩
      have h := h n146 en146
      refine gg_iinc (pc := 146) cx 4 [(4, .int n146), (1, .long n145), (5, .int r109), (0, .ref (gAd t 9 o0)), (3, .int x3)] dX9_fingerprint_146 rfl en146.symm (by decide) rfl ?_
      refine gg_goto (pc := 149) cx (tgt := 82) dX9_fingerprint_149 (by decide) ?_
      refine gg_lv (lv' := [(0, .ref (gAd t 9 o0)), (1, .long n145), (3, .int x3), (4, .int n146)]) [3, 1, 4, 0] rfl ?_
      exact ih o0 n145 x3 n146 M109 v0 h
set_option maxRecDepth 100000 in
set_option maxHeartbeats 4000000 in
theorem wk_X9_fingerprint_L29 {t : gT} {X : gX} (cx : g_Cx t X cX9_fingerprint 6 RX9 (some .long)) (hM : g_hM t) {K : Int64 → gM → Prop} (hQ : gXQ X = MQ (gXb X) (va_Ql K (g_B t) (g_A t)) (gXa X) (gXs X) rm_X9_fingerprint.cells rm_X9_fingerprint.slots (g_A t)) (f : Nat) : ∀ (o0 : Nat) (y1 : Int64) (x3 : Int32) (M : gM), o0 < 1 → wp_X9_fingerprint_L29 K f o0 y1 x3 M → G t rm_X9_fingerprint X 6 0 0 M [(0, .ref (gAd t 9 o0)), (1, .long y1), (3, .int x3)] [] 29 := by
  induction f with
  | zero => intro _ _ _ _ _ _; exact False.elim (by assumption)
  | succ f ih =>
    intro o0 y1 x3 M v0 h
    refine gg_iload_n (pc := 29) cx 2 rfl dX9_fingerprint_29 rfl ?_
    refine gg_i2l (pc := 30) cx dX9_fingerprint_30 ?_
    refine gg_aload_n (pc := 31) cx 0 rfl dX9_fingerprint_31 rfl ?_
    refine gf_Model_v (pc := 32) cx (hM 9 _ rfl v0) tw_1306 dX9_fingerprint_32 ?_
    refine gg_iconst (pc := 35) cx (v := 2) dX9_fingerprint_35 (by decide) ?_
    have q36 := h.1
    have h := h.2
    refine gg_lald (pc := 36) cx (hM 47 _ rfl v0) rfl q36 dX9_fingerprint_36 ?_
    refine gg_lcmp_ge (pc := 37) cx (tgt := 158) dX9_fingerprint_37 dX9_fingerprint_38 (by decide) (fun c37 => ?_) (fun c37 => ?_)
    · have h := g_it c37 h
      refine gg_iconst (pc := 158) cx (v := 0) dX9_fingerprint_158 (by decide) ?_
      refine gg_istore_n (pc := 159) cx [(3, .int 0), (0, .ref (gAd t 9 o0)), (1, .long y1)] dX9_fingerprint_159 rfl (by decide) rfl ?_
      refine gg_lv (lv' := [(0, .ref (gAd t 9 o0)), (1, .long y1), (3, .int 0)]) [1, 2, 0] rfl ?_
      obtain ⟨f160, h⟩ := h
      exact wk_X9_fingerprint_L160 cx hM hQ f160 o0 y1 0 M v0 h
    · have h := g_if c37 h
      refine gg_ldc2 (pc := 41) cx (v := 31) tw_1670 dX9_fingerprint_41 ?_
      refine gg_lload_n (pc := 44) cx 1 rfl dX9_fingerprint_44 rfl ?_
      refine gg_lmul (pc := 45) cx dX9_fingerprint_45 ?_
      refine gg_aload_n (pc := 46) cx 0 rfl dX9_fingerprint_46 rfl ?_
      refine gf_Model_v (pc := 47) cx (hM 9 _ rfl v0) tw_1306 dX9_fingerprint_47 ?_
      refine gg_iload_n (pc := 50) cx 2 rfl dX9_fingerprint_50 rfl ?_
      refine gg_callSi (pc := 51) cx cal_X9_node tw_1300 (ct_X9_node cx.tr hM  h) tw_1299 rfl (st := [.ref (gAd t 47 o0), .long (31 * y1)]) rfl (Nat.le_of_ble_eq_true rfl) ⟨Nat.le_of_ble_eq_true rfl, Nat.le_of_ble_eq_true rfl⟩ ⟨Nat.le_of_ble_eq_true rfl, Nat.le_of_ble_eq_true rfl⟩ dX9_fingerprint_51 (fun r51 M51 h => ?_)
      refine gg_bipush (pc := 54) cx (v := 6) dX9_fingerprint_54 (by decide) ?_
      refine gg_iadd (pc := 56) cx dX9_fingerprint_56 ?_
      have q57 := h.1
      have h := h.2
      refine gg_lald (pc := 57) cx (hM 47 _ rfl v0) rfl q57 dX9_fingerprint_57 ?_
      refine gg_ladd (pc := 58) cx dX9_fingerprint_58 ?_
      refine gg_topl (fun n59 en59 => ?_)
      have h := h n59 en59
      refine gg_lstore_n (pc := 59) cx [(1, .long n59), (0, .ref (gAd t 9 o0)), (3, .int x3)] dX9_fingerprint_59 rfl (by decide) rfl ?_
      refine gg_ldc2 (pc := 60) cx (v := 31) tw_1670 dX9_fingerprint_60 ?_
      refine gg_lload_n (pc := 63) cx 0 rfl dX9_fingerprint_63 rfl ?_
      refine gg_lmul (pc := 64) cx dX9_fingerprint_64 ?_
      refine gg_aload_n (pc := 65) cx 1 rfl dX9_fingerprint_65 rfl ?_
      refine gf_Model_v (pc := 66) cx (hM 9 _ rfl v0) tw_1306 dX9_fingerprint_66 ?_
      refine gg_iload_n (pc := 69) cx 2 rfl dX9_fingerprint_69 rfl ?_
      refine gg_callSi (pc := 70) cx cal_X9_node tw_1300 (ct_X9_node cx.tr hM  h) tw_1299 rfl (st := [.ref (gAd t 47 o0), .long (31 * n59)]) rfl (Nat.le_of_ble_eq_true rfl) ⟨Nat.le_of_ble_eq_true rfl, Nat.le_of_ble_eq_true rfl⟩ ⟨Nat.le_of_ble_eq_true rfl, Nat.le_of_ble_eq_true rfl⟩ dX9_fingerprint_70 (fun r70 M70 h => ?_)
      refine gg_bipush (pc := 73) cx (v := 11) dX9_fingerprint_73 (by decide) ?_
      refine gg_iadd (pc := 75) cx dX9_fingerprint_75 ?_
      have q76 := h.1
      have h := h.2
      refine gg_lald (pc := 76) cx (hM 47 _ rfl v0) rfl q76 dX9_fingerprint_76 ?_
      refine gg_ladd (pc := 77) cx dX9_fingerprint_77 ?_
      refine gg_topl (fun n78 en78 => ?_)
      have h := h n78 en78
      refine gg_lstore_n (pc := 78) cx [(1, .long n78), (0, .ref (gAd t 9 o0)), (3, .int x3)] dX9_fingerprint_78 rfl (by decide) rfl ?_
      refine gg_iconst (pc := 79) cx (v := 0) dX9_fingerprint_79 (by decide) ?_
      refine gg_istore (pc := 80) cx [(4, .int 0), (1, .long n78), (0, .ref (gAd t 9 o0)), (3, .int x3)] dX9_fingerprint_80 (by decide) rfl ?_
      refine gg_lv (lv' := [(0, .ref (gAd t 9 o0)), (1, .long n78), (3, .int x3), (4, .int 0)]) [2, 1, 3, 0] rfl ?_
      obtain ⟨f82, h⟩ := h
      exact wk_X9_fingerprint_L82 cx hM hQ ih f82 o0 n78 x3 0 M70 v0 h
theorem cal_X9_fingerprint : g_Cal yX9_fingerprint cX9_fingerprint 6 (some .long) 0 := ⟨tw_17, tw_1669, by decide, by decide, by decide +kernel⟩
theorem calv_X9_fingerprint : g_CalV yX9_fingerprint := ⟨tw_1667, tw_1668⟩
set_option maxRecDepth 100000 in
set_option maxHeartbeats 4000000 in
theorem ct_X9_fingerprint {l : Launch} (hl : l.stackTraces = false) {t : gT} (hM : g_hM t) {o0 : Nat} (v0 : o0 < 1) {M : gM} {K : Int64 → gM → Prop} (h : wp_X9_fingerprint o0 M K) : Met l yX9_fingerprint (g_y yX9_fingerprint cX9_fingerprint 6 (some .long)) rm_X9_fingerprint (va_Pc [.ref (gAd t 9 o0)] (g_Pre t M)) (va_Ql K (g_B t) (g_A t)) rm_X9_fingerprint.cells rm_X9_fingerprint.slots (g_A t) := by
  refine g_met hl rfl (Nat.le_of_ble_eq_true rfl) (fun X hlX cx hQ => ?_)
  subst hlX
  refine gg_aload_n (pc := 0) cx 0 rfl dX9_fingerprint_0 rfl ?_
  refine gg_iconst (pc := 1) cx (v := 0) dX9_fingerprint_1 (by decide) ?_
  refine gp_Model_thrown (pc := 2) cx (hM 9 _ rfl v0) tw_1310 dX9_fingerprint_2 ?_
  refine gg_mem (fun M2 eM2 => ?_)
  have h := h M2 eM2
  refine gg_ldc2 (pc := 5) cx (v := 31) tw_1670 dX9_fingerprint_5 ?_
  refine gg_ldc2 (pc := 8) cx (v := 341) tw_1671 dX9_fingerprint_8 ?_
  refine gg_aload_n (pc := 11) cx 0 rfl dX9_fingerprint_11 rfl ?_
  refine gf_Model_v (pc := 12) cx (hM 9 _ rfl v0) tw_1306 dX9_fingerprint_12 ?_
  refine gg_iconst (pc := 15) cx (v := 0) dX9_fingerprint_15 (by decide) ?_
  have q16 := h.1
  have h := h.2
  refine gg_lald (pc := 16) cx (hM 47 _ rfl v0) rfl q16 dX9_fingerprint_16 ?_
  refine gg_ladd (pc := 17) cx dX9_fingerprint_17 ?_
  refine gg_lmul (pc := 18) cx dX9_fingerprint_18 ?_
  refine gg_aload_n (pc := 19) cx 0 rfl dX9_fingerprint_19 rfl ?_
  refine gf_Model_v (pc := 20) cx (hM 9 _ rfl v0) tw_1306 dX9_fingerprint_20 ?_
  refine gg_iconst (pc := 23) cx (v := 4) dX9_fingerprint_23 (by decide) ?_
  have q24 := h.1
  have h := h.2
  refine gg_lald (pc := 24) cx (hM 47 _ rfl v0) rfl q24 dX9_fingerprint_24 ?_
  refine gg_ladd (pc := 25) cx dX9_fingerprint_25 ?_
  refine gg_topl (fun n26 en26 => ?_)
  have h := h n26 en26
  refine gg_lstore_n (pc := 26) cx [(1, .long n26), (0, .ref (gAd t 9 o0))] dX9_fingerprint_26 rfl (by decide) rfl ?_
  refine gg_iconst (pc := 27) cx (v := 0) dX9_fingerprint_27 (by decide) ?_
  refine gg_istore_n (pc := 28) cx [(3, .int 0), (1, .long n26), (0, .ref (gAd t 9 o0))] dX9_fingerprint_28 rfl (by decide) rfl ?_
  refine gg_lv (lv' := [(0, .ref (gAd t 9 o0)), (1, .long n26), (3, .int 0)]) [2, 1, 0] rfl ?_
  obtain ⟨f29, h⟩ := h
  exact wk_X9_fingerprint_L29 cx hM hQ f29 o0 n26 0 M2 v0 h
