set_option maxRecDepth 100000 in
set_option maxHeartbeats 4000000 in
theorem wk_X8_type_b41 {t : gT} {X : gX} (cx : g_Cx t X cX8_type 2 RX8 (some .int)) (hC : g_hC t) {K : Int32 → gM → Prop} {KX : Nat → gM → Prop} (hQ : gXQ X = vx_MQ (gXb X) (va_Qi K (g_B t) (g_A t)) (g_XC t KX) (gXa X) (gXs X) rm_X8_type.cells rm_X8_type.slots (g_A t)) (hx : ∀ x ∈ (gXc X).exceptionTable.toList, False)  {M : gM}  (h : wp_X8_type_b41 K KX  M) : G t rm_X8_type X 2 0 0 M [] [] 41 := by
  refine gg_wide (k' := 1) (n' := 6) (Nat.le_of_ble_eq_true rfl) (Nat.le_of_ble_eq_true rfl) ?_
  exact gg_throw (pc := 41) cx hQ hx g_thr1 tw_833 (g_st9 cx.T) (Nat.le_of_ble_eq_true rfl) (Nat.le_of_ble_eq_true rfl) ⟨Nat.le_of_ble_eq_true rfl, Nat.le_of_ble_eq_true rfl⟩ ⟨Nat.le_of_ble_eq_true rfl, Nat.le_of_ble_eq_true rfl⟩ dX8_type_41 dX8_type_44 dX8_type_45 dX8_type_47 dX8_type_50 h
set_option maxRecDepth 100000 in
set_option maxHeartbeats 4000000 in
theorem wk_X8_type_b12 {t : gT} {X : gX} (cx : g_Cx t X cX8_type 2 RX8 (some .int)) (hC : g_hC t) {K : Int32 → gM → Prop} {KX : Nat → gM → Prop} (hQ : gXQ X = vx_MQ (gXb X) (va_Qi K (g_B t) (g_A t)) (g_XC t KX) (gXa X) (gXs X) rm_X8_type.cells rm_X8_type.slots (g_A t)) (hx : ∀ x ∈ (gXc X).exceptionTable.toList, False)  {M : gM}  (h : wp_X8_type_b12 K KX  M) : G t rm_X8_type X 2 0 0 M [] [] 12 := by
  refine gg_wide (k' := 1) (n' := 6) (Nat.le_of_ble_eq_true rfl) (Nat.le_of_ble_eq_true rfl) ?_
  exact gg_throw (pc := 12) cx hQ hx g_thr0 tw_766 (g_st8 cx.T) (Nat.le_of_ble_eq_true rfl) (Nat.le_of_ble_eq_true rfl) ⟨Nat.le_of_ble_eq_true rfl, Nat.le_of_ble_eq_true rfl⟩ ⟨Nat.le_of_ble_eq_true rfl, Nat.le_of_ble_eq_true rfl⟩ dX8_type_12 dX8_type_15 dX8_type_16 dX8_type_18 dX8_type_21 h
theorem cal_X8_type : g_Cal yX8_type cX8_type 2 (some .int) 1 := ⟨tw_1, tw_765, by decide, by decide, by decide +kernel⟩
theorem calv_X8_type : g_CalV yX8_type := ⟨tw_763, tw_764⟩
set_option maxRecDepth 100000 in
set_option maxHeartbeats 4000000 in
theorem ct_X8_type {l : Launch} (hl : l.stackTraces = false) {t : gT} (hC : g_hC t) {o0 : Nat} {x1 : Int32} (v0 : o0 < 1) {M : gM} {K : Int32 → gM → Prop} {KX : Nat → gM → Prop} (h : wp_X8_type o0 x1 M K KX) : vx_Met l yX8_type (g_y yX8_type cX8_type 2 (some .int)) rm_X8_type (va_Pc [.ref (gAd t 8 o0), .int x1] (g_Pre t M)) (va_Qi K (g_B t) (g_A t)) (g_XC t KX) rm_X8_type.cells rm_X8_type.slots (g_A t) := by
  refine g_xmet hl rfl (Nat.le_of_ble_eq_true rfl) (fun X hlX cx hx hQ => ?_)
  subst hlX
  refine gg_iload_n (pc := 0) cx 1 rfl dX8_type_0 rfl ?_
  refine gg_bipush (pc := 1) cx (v := 32) dX8_type_1 (by decide) ?_
  refine gg_icmp_lt (pc := 3) cx (tgt := 12) dX8_type_3 (by decide) (fun c3 => ?_) (fun c3 => ?_)
  · have h := g_it c3 h
    refine gg_lv (lv' := []) [] rfl ?_
    exact wk_X8_type_b12 cx hC hQ hx  h
  · have h := g_if c3 h
    refine gg_iload_n (pc := 6) cx 1 rfl dX8_type_6 rfl ?_
    refine gg_bipush (pc := 7) cx (v := 126) dX8_type_7 (by decide) ?_
    refine gg_icmp_le (pc := 9) cx (tgt := 22) dX8_type_9 (by decide) (fun c9 => ?_) (fun c9 => ?_)
    · have h := g_it c9 h
      refine gg_aload_n (pc := 22) cx 0 rfl dX8_type_22 rfl ?_
      refine gf_Tree_textLength (pc := 23) cx (hC 8 _ rfl v0) tw_557 dX8_type_23 ?_
      refine gg_if_lt (pc := 26) cx (tgt := 41) dX8_type_26 (by decide) (fun c26 => ?_) (fun c26 => ?_)
      · have h := g_it c26 h
        refine gg_lv (lv' := []) [] rfl ?_
        exact wk_X8_type_b41 cx hC hQ hx  h
      · have h := g_if c26 h
        refine gg_aload_n (pc := 29) cx 0 rfl dX8_type_29 rfl ?_
        refine gf_Tree_textLength (pc := 30) cx (hC 8 _ rfl v0) tw_557 dX8_type_30 ?_
        refine gg_aload_n (pc := 33) cx 0 rfl dX8_type_33 rfl ?_
        refine gf_Tree_text (pc := 34) cx (hC 8 _ rfl v0) tw_556 dX8_type_34 ?_
        refine gg_alen (pc := 37) cx (ca := 2) (v := 120) (hC 44 _ rfl v0) rfl rfl rfl dX8_type_37 ?_
        refine gg_icmp_lt (pc := 38) cx (tgt := 51) dX8_type_38 (by decide) (fun c38 => ?_) (fun c38 => ?_)
        · have h := g_it c38 h
          refine gg_aload_n (pc := 51) cx 0 rfl dX8_type_51 rfl ?_
          refine gf_Tree_text (pc := 52) cx (hC 8 _ rfl v0) tw_556 dX8_type_52 ?_
          refine gg_aload_n (pc := 55) cx 0 rfl dX8_type_55 rfl ?_
          refine gf_Tree_textLength (pc := 56) cx (hC 8 _ rfl v0) tw_557 dX8_type_56 ?_
          refine gg_iload_n (pc := 59) cx 1 rfl dX8_type_59 rfl ?_
          refine gg_i2c (pc := 60) cx dX8_type_60 ?_
          have q61 := h.1
          have h := h.2
          refine gg_cast (pc := 61) cx (hC 44 _ rfl v0) (fun _ _ => rfl) q61 dX8_type_61 ?_
          refine gg_mem (fun M61 eM61 => ?_)
          have h := h M61 eM61
          refine gg_aload_n (pc := 62) cx 0 rfl dX8_type_62 rfl ?_
          refine gg_dup (pc := 63) cx dX8_type_63 rfl ?_
          refine gf_Tree_textLength (pc := 64) cx (hC 8 _ rfl v0) tw_557 dX8_type_64 ?_
          refine gg_iconst (pc := 67) cx (v := 1) dX8_type_67 (by decide) ?_
          refine gg_iadd (pc := 68) cx dX8_type_68 ?_
          refine gp_Tree_textLength (pc := 69) cx (hC 8 _ rfl v0) tw_557 dX8_type_69 ?_
          refine gg_mem (fun M69 eM69 => ?_)
          have h := h M69 eM69
          refine gg_aload_n (pc := 72) cx 0 rfl dX8_type_72 rfl ?_
          refine gf_Tree_textLength (pc := 73) cx (hC 8 _ rfl v0) tw_557 dX8_type_73 ?_
          refine gg_wide (k' := rm_X8_type.cells) (n' := rm_X8_type.slots) (Nat.le_of_ble_eq_true rfl) (Nat.le_of_ble_eq_true rfl) ?_
          exact gg_xiret (pc := 76) cx hQ h dX8_type_76
        · have h := g_if c38 h
          refine gg_lv (lv' := []) [] rfl ?_
          exact wk_X8_type_b41 cx hC hQ hx  h
    · have h := g_if c9 h
      refine gg_lv (lv' := []) [] rfl ?_
      exact wk_X8_type_b12 cx hC hQ hx  h
theorem cal_X8_clearText : g_Cal yX8_clearText cX8_clearText 2 (some .int) 0 := ⟨tw_1, tw_585, by decide, by decide, by decide +kernel⟩
theorem calv_X8_clearText : g_CalV yX8_clearText := ⟨tw_583, tw_584⟩
set_option maxRecDepth 100000 in
set_option maxHeartbeats 4000000 in
theorem ct_X8_clearText {l : Launch} (hl : l.stackTraces = false) {t : gT} (hC : g_hC t) {o0 : Nat} (v0 : o0 < 1) {M : gM} {K : Int32 → gM → Prop} (h : wp_X8_clearText o0 M K) : Met l yX8_clearText (g_y yX8_clearText cX8_clearText 2 (some .int)) rm_X8_clearText (va_Pc [.ref (gAd t 8 o0)] (g_Pre t M)) (va_Qi K (g_B t) (g_A t)) rm_X8_clearText.cells rm_X8_clearText.slots (g_A t) := by
  refine g_met hl rfl (Nat.le_of_ble_eq_true rfl) (fun X hlX cx hQ => ?_)
  subst hlX
  refine gg_aload_n (pc := 0) cx 0 rfl dX8_clearText_0 rfl ?_
  refine gf_Tree_textLength (pc := 1) cx (hC 8 _ rfl v0) tw_557 dX8_clearText_1 ?_
  refine gg_topi (fun n4 en4 => ?_)
  have h := h n4 en4
  refine gg_istore_n (pc := 4) cx [(1, .int n4), (0, .ref (gAd t 8 o0))] dX8_clearText_4 rfl (by decide) rfl ?_
  refine gg_aload_n (pc := 5) cx 1 rfl dX8_clearText_5 rfl ?_
  refine gg_iconst (pc := 6) cx (v := 0) dX8_clearText_6 (by decide) ?_
  refine gp_Tree_textLength (pc := 7) cx (hC 8 _ rfl v0) tw_557 dX8_clearText_7 ?_
  refine gg_mem (fun M7 eM7 => ?_)
  have h := h M7 eM7
  refine gg_iload_n (pc := 10) cx 0 rfl dX8_clearText_10 rfl ?_
  exact gg_iret (pc := 11) cx hQ h dX8_clearText_11
set_option maxRecDepth 100000 in
set_option maxHeartbeats 4000000 in
theorem wk_X8_loadTree_b55 {t : gT} {X : gX} (cx : g_Cx t X cX8_loadTree 3 RX8 (some .int)) (hC : g_hC t) {K : Int32 → gM → Prop} (hQ : gXQ X = MQ (gXb X) (va_Qi K (g_B t) (g_A t)) (gXa X) (gXs X) rm_X8_loadTree.cells rm_X8_loadTree.slots (g_A t)) {R25 : Nat → Int32 → Int32 → gM → Prop} (hR25 : ∀ (o0 : Nat) (x1 : Int32) (x2 : Int32) (M : gM), o0 < 1 → R25 o0 x1 x2 M → G t rm_X8_loadTree X 3 0 0 M [(0, .ref (gAd t 8 o0)), (1, .int x1), (2, .int x2)] [] 25) {o0 : Nat} {x1 : Int32} {x2 : Int32} {os0 : Nat} {xs1 : Int32} {xs2 : Int32} {M : gM} (v0 : o0 < 1) (vs0 : os0 < 1) (h : wp_X8_loadTree_b55 R25 K o0 x1 x2 os0 xs1 xs2 M) : G t rm_X8_loadTree X 3 0 0 M [(0, .ref (gAd t 8 o0)), (1, .int x1), (2, .int x2)] [.int xs2, .int xs1, .ref (gAd t 45 os0)] 55 := by
  have q55 := h.1
  have h := h.2
  refine gg_iast (pc := 55) cx (hC 45 _ rfl vs0) (fun _ _ => rfl) q55 dX8_loadTree_55 ?_
  refine gg_mem (fun M55 eM55 => ?_)
  have h := h M55 eM55
  obtain ⟨n56, en56⟩ : ∃ z : Int32, z = x2 + Int32.ofInt (1) := ⟨_, rfl⟩
  have h := h n56 en56
  refine gg_iinc (pc := 56) cx 2 [(2, .int n56), (0, .ref (gAd t 8 o0)), (1, .int x1)] dX8_loadTree_56 rfl en56.symm (by decide) rfl ?_
  refine gg_goto (pc := 59) cx (tgt := 25) dX8_loadTree_59 (by decide) ?_
  refine gg_lv (lv' := [(0, .ref (gAd t 8 o0)), (1, .int x1), (2, .int n56)]) [1, 2, 0] rfl ?_
  exact hR25 o0 x1 n56 M55 v0 h
set_option maxRecDepth 100000 in
set_option maxHeartbeats 4000000 in
theorem wk_X8_loadTree_L25 {t : gT} {X : gX} (cx : g_Cx t X cX8_loadTree 3 RX8 (some .int)) (hC : g_hC t) {K : Int32 → gM → Prop} (hQ : gXQ X = MQ (gXb X) (va_Qi K (g_B t) (g_A t)) (gXa X) (gXs X) rm_X8_loadTree.cells rm_X8_loadTree.slots (g_A t)) (f : Nat) : ∀ (o0 : Nat) (x1 : Int32) (x2 : Int32) (M : gM), o0 < 1 → wp_X8_loadTree_L25 K f o0 x1 x2 M → G t rm_X8_loadTree X 3 0 0 M [(0, .ref (gAd t 8 o0)), (1, .int x1), (2, .int x2)] [] 25 := by
  induction f with
  | zero => intro _ _ _ _ _ _; exact False.elim (by assumption)
  | succ f ih =>
    intro o0 x1 x2 M v0 h
    refine gg_iload_n (pc := 25) cx 2 rfl dX8_loadTree_25 rfl ?_
    refine gg_aload_n (pc := 26) cx 0 rfl dX8_loadTree_26 rfl ?_
    refine gf_Tree_errors (pc := 27) cx (hC 8 _ rfl v0) tw_558 dX8_loadTree_27 ?_
    refine gg_alen (pc := 30) cx (ca := 0) (v := 3) (hC 45 _ rfl v0) rfl rfl rfl dX8_loadTree_30 ?_
    refine gg_icmp_ge (pc := 31) cx (tgt := 62) dX8_loadTree_31 (by decide) (fun c31 => ?_) (fun c31 => ?_)
    · have h := g_it c31 h
      refine gg_iload_n (pc := 62) cx 1 rfl dX8_loadTree_62 rfl ?_
      refine gg_if_ne (pc := 63) cx (tgt := 76) dX8_loadTree_63 (by decide) (fun c63 => ?_) (fun c63 => ?_)
      · have h := g_if c63 h
        refine gg_aload_n (pc := 76) cx 0 rfl dX8_loadTree_76 rfl ?_
        refine gg_iconst (pc := 77) cx (v := 0) dX8_loadTree_77 (by decide) ?_
        refine gp_Tree_textLength (pc := 78) cx (hC 8 _ rfl v0) tw_557 dX8_loadTree_78 ?_
        refine gg_mem (fun M78 eM78 => ?_)
        have h := h M78 eM78
        refine gg_aload_n (pc := 81) cx 0 rfl dX8_loadTree_81 rfl ?_
        refine gf_Tree_now (pc := 82) cx (hC 8 _ rfl v0) tw_560 dX8_loadTree_82 ?_
        refine gg_aload_n (pc := 85) cx 0 rfl dX8_loadTree_85 rfl ?_
        refine gf_Tree_reader (pc := 86) cx (hC 8 _ rfl v0) tw_559 dX8_loadTree_86 ?_
        refine gf_Reader_plan (pc := 89) cx (hC 6 _ rfl (Nat.le_of_ble_eq_true rfl)) tw_99 dX8_loadTree_89 ?_
        refine gg_callVv (pc := 92) cx cal_X7_startWith calv_X7_startWith (ct_X7_startWith cx.tr hC (Nat.le_of_ble_eq_true rfl) (Nat.le_of_ble_eq_true rfl) h) tw_529 (hC 7 _ rfl (Nat.le_of_ble_eq_true rfl)) rfl rfl rfl (st := []) rfl (Nat.le_of_ble_eq_true rfl) ⟨Nat.le_of_ble_eq_true rfl, Nat.le_of_ble_eq_true rfl⟩ ⟨Nat.le_of_ble_eq_true rfl, Nat.le_of_ble_eq_true rfl⟩ dX8_loadTree_92 (fun M92 h => ?_)
        refine gg_aload_n (pc := 95) cx 0 rfl dX8_loadTree_95 rfl ?_
        refine gf_Tree_now (pc := 96) cx (hC 8 _ rfl v0) tw_560 dX8_loadTree_96 ?_
        refine gf_World_plan (pc := 99) cx (hC 7 _ rfl (Nat.le_of_ble_eq_true rfl)) tw_298 dX8_loadTree_99 ?_
        refine gf_Plan_nodeCount (pc := 102) cx (hC 5 _ rfl (g_v56 (Nat.le_of_ble_eq_true rfl))) tw_45 dX8_loadTree_102 ?_
        exact gg_iret (pc := 105) cx hQ h dX8_loadTree_105
      · have h := g_it c63 h
        refine gg_iconst (pc := 66) cx (v := (-1)) dX8_loadTree_66 (by decide) ?_
        refine gg_aload_n (pc := 67) cx 0 rfl dX8_loadTree_67 rfl ?_
        refine gf_Tree_reader (pc := 68) cx (hC 8 _ rfl v0) tw_559 dX8_loadTree_68 ?_
        refine gg_callVi (pc := 71) cx cal_X6_lastError calv_X6_lastError (ct_X6_lastError cx.tr hC (Nat.le_of_ble_eq_true rfl) h) tw_598 (hC 6 _ rfl (Nat.le_of_ble_eq_true rfl)) rfl rfl rfl (st := [.int (-1)]) rfl (Nat.le_of_ble_eq_true rfl) ⟨Nat.le_of_ble_eq_true rfl, Nat.le_of_ble_eq_true rfl⟩ ⟨Nat.le_of_ble_eq_true rfl, Nat.le_of_ble_eq_true rfl⟩ dX8_loadTree_71 (fun r71 M71 h => ?_)
        refine gg_isub (pc := 74) cx dX8_loadTree_74 ?_
        exact gg_iret (pc := 75) cx hQ h dX8_loadTree_75
    · have h := g_if c31 h
      refine gg_aload_n (pc := 34) cx 0 rfl dX8_loadTree_34 rfl ?_
      refine gf_Tree_errors (pc := 35) cx (hC 8 _ rfl v0) tw_558 dX8_loadTree_35 ?_
      refine gg_iload_n (pc := 38) cx 2 rfl dX8_loadTree_38 rfl ?_
      refine gg_iload_n (pc := 39) cx 1 rfl dX8_loadTree_39 rfl ?_
      refine gg_if_eq (pc := 40) cx (tgt := 47) dX8_loadTree_40 (by decide) (fun c40 => ?_) (fun c40 => ?_)
      · have h := g_it c40 h
        refine gg_aload_n (pc := 47) cx 0 rfl dX8_loadTree_47 rfl ?_
        refine gf_Tree_reader (pc := 48) cx (hC 8 _ rfl v0) tw_559 dX8_loadTree_48 ?_
        refine gg_iload_n (pc := 51) cx 2 rfl dX8_loadTree_51 rfl ?_
        refine gg_callVi (pc := 52) cx cal_X6_errorAt calv_X6_errorAt (ct_X6_errorAt cx.tr hC (Nat.le_of_ble_eq_true rfl) h) tw_594 (hC 6 _ rfl (Nat.le_of_ble_eq_true rfl)) rfl rfl rfl (st := [.int x2, .ref (gAd t 45 o0)]) rfl (Nat.le_of_ble_eq_true rfl) ⟨Nat.le_of_ble_eq_true rfl, Nat.le_of_ble_eq_true rfl⟩ ⟨Nat.le_of_ble_eq_true rfl, Nat.le_of_ble_eq_true rfl⟩ dX8_loadTree_52 (fun r52 M52 h => ?_)
        exact wk_X8_loadTree_b55 cx hC hQ ih v0 v0 h
      · have h := g_if c40 h
        refine gg_iconst (pc := 43) cx (v := (-1)) dX8_loadTree_43 (by decide) ?_
        refine gg_goto (pc := 44) cx (tgt := 55) dX8_loadTree_44 (by decide) ?_
        exact wk_X8_loadTree_b55 cx hC hQ ih v0 v0 h
theorem cal_X8_loadTree : g_Cal yX8_loadTree cX8_loadTree 3 (some .int) 0 := ⟨tw_1, tw_589, by decide, by decide, by decide +kernel⟩
theorem calv_X8_loadTree : g_CalV yX8_loadTree := ⟨tw_587, tw_588⟩
set_option maxRecDepth 100000 in
set_option maxHeartbeats 4000000 in
theorem ct_X8_loadTree {l : Launch} (hl : l.stackTraces = false) {t : gT} (hC : g_hC t) {o0 : Nat} (v0 : o0 < 1) {M : gM} {K : Int32 → gM → Prop} (h : wp_X8_loadTree o0 M K) : Met l yX8_loadTree (g_y yX8_loadTree cX8_loadTree 3 (some .int)) rm_X8_loadTree (va_Pc [.ref (gAd t 8 o0)] (g_Pre t M)) (va_Qi K (g_B t) (g_A t)) rm_X8_loadTree.cells rm_X8_loadTree.slots (g_A t) := by
  refine g_met hl rfl (Nat.le_of_ble_eq_true rfl) (fun X hlX cx hQ => ?_)
  subst hlX
  refine gg_aload_n (pc := 0) cx 0 rfl dX8_loadTree_0 rfl ?_
  refine gf_Tree_reader (pc := 1) cx (hC 8 _ rfl v0) tw_559 dX8_loadTree_1 ?_
  refine gg_aload_n (pc := 4) cx 0 rfl dX8_loadTree_4 rfl ?_
  refine gf_Tree_text (pc := 5) cx (hC 8 _ rfl v0) tw_556 dX8_loadTree_5 ?_
  refine gg_aload_n (pc := 8) cx 0 rfl dX8_loadTree_8 rfl ?_
  refine gf_Tree_textLength (pc := 9) cx (hC 8 _ rfl v0) tw_557 dX8_loadTree_9 ?_
  refine gg_callVv (pc := 12) cx cal_X6_takeText calv_X6_takeText (ct_X6_takeText cx.tr hC (Nat.le_of_ble_eq_true rfl) v0 h) tw_590 (hC 6 _ rfl (Nat.le_of_ble_eq_true rfl)) rfl rfl rfl (st := []) rfl (Nat.le_of_ble_eq_true rfl) ⟨Nat.le_of_ble_eq_true rfl, Nat.le_of_ble_eq_true rfl⟩ ⟨Nat.le_of_ble_eq_true rfl, Nat.le_of_ble_eq_true rfl⟩ dX8_loadTree_12 (fun M12 h => ?_)
  refine gg_aload_n (pc := 15) cx 0 rfl dX8_loadTree_15 rfl ?_
  refine gf_Tree_reader (pc := 16) cx (hC 8 _ rfl v0) tw_559 dX8_loadTree_16 ?_
  refine gg_callVi (pc := 19) cx cal_X6_readTree calv_X6_readTree (ct_X6_readTree cx.tr hC (Nat.le_of_ble_eq_true rfl) h) tw_390 (hC 6 _ rfl (Nat.le_of_ble_eq_true rfl)) rfl rfl rfl (st := []) rfl (Nat.le_of_ble_eq_true rfl) ⟨Nat.le_of_ble_eq_true rfl, Nat.le_of_ble_eq_true rfl⟩ ⟨Nat.le_of_ble_eq_true rfl, Nat.le_of_ble_eq_true rfl⟩ dX8_loadTree_19 (fun r19 M19 h => ?_)
  refine gg_istore_n (pc := 22) cx [(1, .int r19), (0, .ref (gAd t 8 o0))] dX8_loadTree_22 rfl (by decide) rfl ?_
  refine gg_iconst (pc := 23) cx (v := 0) dX8_loadTree_23 (by decide) ?_
  refine gg_istore_n (pc := 24) cx [(2, .int 0), (1, .int r19), (0, .ref (gAd t 8 o0))] dX8_loadTree_24 rfl (by decide) rfl ?_
  refine gg_lv (lv' := [(0, .ref (gAd t 8 o0)), (1, .int r19), (2, .int 0)]) [2, 1, 0] rfl ?_
  obtain ⟨f25, h⟩ := h
  exact wk_X8_loadTree_L25 cx hC hQ f25 o0 r19 0 M19 v0 h
theorem cal_X8_templateText : g_Cal yX8_templateText cX8_templateText 1 (some (.object "java/lang/String")) 1 := ⟨tw_1, tw_331, by decide, by decide, by decide +kernel⟩
set_option maxRecDepth 100000 in
set_option maxHeartbeats 4000000 in
theorem ct_X8_templateText {l : Launch} (hl : l.stackTraces = false) {t : gT} (hC : g_hC t) {x0 : Int32}  {M : gM} {K : Nat → gM → Prop} (h : wp_X8_templateText x0 M K) : Met l yX8_templateText (g_y yX8_templateText cX8_templateText 1 (some (.object "java/lang/String"))) rm_X8_templateText (va_Pc [.int x0] (g_Pre t M)) (g_Qs t K) rm_X8_templateText.cells rm_X8_templateText.slots (g_A t) := by
  refine g_met hl rfl (Nat.le_of_ble_eq_true rfl) (fun X hlX cx hQ => ?_)
  subst hlX
  refine gg_iload_n (pc := 0) cx 0 rfl dX8_templateText_0 rfl ?_
  by_cases c1_1 : x0 = 1
  · have h := g_it c1_1 h
    refine gg_swv c1_1 ?_
    refine gg_tableIn (pc := 1) cx (off := 35) (tgt := 36) dX8_templateText_1 (by decide) (by decide) rfl (by decide) ?_
    refine gg_ldcSW (pc := 36) cx (g_st0 cx.T) dX8_templateText_36 ?_
    exact gg_sret (pc := 39) cx hQ h dX8_templateText_39
  have h := g_if c1_1 h
  by_cases c1_2 : x0 = 2
  · have h := g_it c1_2 h
    refine gg_swv c1_2 ?_
    refine gg_tableIn (pc := 1) cx (off := 39) (tgt := 40) dX8_templateText_1 (by decide) (by decide) rfl (by decide) ?_
    refine gg_ldcSW (pc := 40) cx (g_st1 cx.T) dX8_templateText_40 ?_
    exact gg_sret (pc := 43) cx hQ h dX8_templateText_43
  have h := g_if c1_2 h
  by_cases c1_3 : x0 = 3
  · have h := g_it c1_3 h
    refine gg_swv c1_3 ?_
    refine gg_tableIn (pc := 1) cx (off := 43) (tgt := 44) dX8_templateText_1 (by decide) (by decide) rfl (by decide) ?_
    refine gg_ldcSW (pc := 44) cx (g_st2 cx.T) dX8_templateText_44 ?_
    exact gg_sret (pc := 47) cx hQ h dX8_templateText_47
  have h := g_if c1_3 h
  by_cases c1_4 : x0 = 4
  · have h := g_it c1_4 h
    refine gg_swv c1_4 ?_
    refine gg_tableIn (pc := 1) cx (off := 47) (tgt := 48) dX8_templateText_1 (by decide) (by decide) rfl (by decide) ?_
    refine gg_ldcSW (pc := 48) cx (g_st3 cx.T) dX8_templateText_48 ?_
    exact gg_sret (pc := 51) cx hQ h dX8_templateText_51
  have h := g_if c1_4 h
  by_cases c1_5 : x0 = 5
  · have h := g_it c1_5 h
    refine gg_swv c1_5 ?_
    refine gg_tableIn (pc := 1) cx (off := 51) (tgt := 52) dX8_templateText_1 (by decide) (by decide) rfl (by decide) ?_
    refine gg_ldcSW (pc := 52) cx (g_st4 cx.T) dX8_templateText_52 ?_
    exact gg_sret (pc := 55) cx hQ h dX8_templateText_55
  have h := g_if c1_5 h
  refine gg_tableOut (pc := 1) cx (tgt := 56) dX8_templateText_1 (g_tout_X8_templateText c1_1 c1_2 c1_3 c1_4 c1_5) (by decide) ?_
  refine gg_ldcSW (pc := 56) cx (g_st5 cx.T) dX8_templateText_56 ?_
  exact gg_sret (pc := 59) cx hQ h dX8_templateText_59
theorem cal_X8_plant : g_Cal yX8_plant cX8_plant 2 (none) 1 := ⟨tw_1, tw_328, by decide, by decide, by decide +kernel⟩
theorem calv_X8_plant : g_CalV yX8_plant := ⟨tw_327, ts_0⟩
set_option maxRecDepth 100000 in
set_option maxHeartbeats 4000000 in
theorem ct_X8_plant {l : Launch} (hl : l.stackTraces = false) {t : gT} (hC : g_hC t) {o0 : Nat} {x1 : Int32} (v0 : o0 < 1) {M : gM} {K : gM → Prop} (h : wp_X8_plant o0 x1 M K) : Met l yX8_plant (g_y yX8_plant cX8_plant 2 (none)) rm_X8_plant (va_Pc [.ref (gAd t 8 o0), .int x1] (g_Pre t M)) (va_Qv K (g_B t) (g_A t)) rm_X8_plant.cells rm_X8_plant.slots (g_A t) := by
  refine g_met hl rfl (Nat.le_of_ble_eq_true rfl) (fun X hlX cx hQ => ?_)
  subst hlX
  refine gg_aload_n (pc := 0) cx 0 rfl dX8_plant_0 rfl ?_
  refine gf_Tree_reader (pc := 1) cx (hC 8 _ rfl v0) tw_559 dX8_plant_1 ?_
  refine gg_iload_n (pc := 4) cx 1 rfl dX8_plant_4 rfl ?_
  refine gg_callSs (pc := 5) cx cal_X8_templateText tw_330 (ct_X8_templateText cx.tr hC  h) tw_329 rfl (st := [.ref (gAd t 6 0)]) rfl (Nat.le_of_ble_eq_true rfl) ⟨Nat.le_of_ble_eq_true rfl, Nat.le_of_ble_eq_true rfl⟩ ⟨Nat.le_of_ble_eq_true rfl, Nat.le_of_ble_eq_true rfl⟩ dX8_plant_5 (fun r5 M5 h => ?_)
  refine gg_callVv (pc := 8) cx cal_X6_takeTemplate calv_X6_takeTemplate (ct_X6_takeTemplate cx.tr hC (Nat.le_of_ble_eq_true rfl) h) tw_338 (hC 6 _ rfl (Nat.le_of_ble_eq_true rfl)) rfl rfl rfl (st := []) rfl (Nat.le_of_ble_eq_true rfl) ⟨Nat.le_of_ble_eq_true rfl, Nat.le_of_ble_eq_true rfl⟩ ⟨Nat.le_of_ble_eq_true rfl, Nat.le_of_ble_eq_true rfl⟩ dX8_plant_8 (fun M8 h => ?_)
  refine gg_aload_n (pc := 11) cx 0 rfl dX8_plant_11 rfl ?_
  refine gf_Tree_reader (pc := 12) cx (hC 8 _ rfl v0) tw_559 dX8_plant_12 ?_
  refine gg_callVi (pc := 15) cx cal_X6_readTree calv_X6_readTree (ct_X6_readTree cx.tr hC (Nat.le_of_ble_eq_true rfl) h) tw_390 (hC 6 _ rfl (Nat.le_of_ble_eq_true rfl)) rfl rfl rfl (st := []) rfl (Nat.le_of_ble_eq_true rfl) ⟨Nat.le_of_ble_eq_true rfl, Nat.le_of_ble_eq_true rfl⟩ ⟨Nat.le_of_ble_eq_true rfl, Nat.le_of_ble_eq_true rfl⟩ dX8_plant_15 (fun r15 M15 h => ?_)
  refine gg_if_eq (pc := 18) cx (tgt := 35) dX8_plant_18 (by decide) (fun c18 => ?_) (fun c18 => ?_)
  · have h := g_it c18 h
    exact gg_vret (pc := 35) cx hQ h dX8_plant_35
  · have h := g_if c18 h
    refine gg_aload_n (pc := 21) cx 0 rfl dX8_plant_21 rfl ?_
    refine gf_Tree_now (pc := 22) cx (hC 8 _ rfl v0) tw_560 dX8_plant_22 ?_
    refine gg_aload_n (pc := 25) cx 0 rfl dX8_plant_25 rfl ?_
    refine gf_Tree_reader (pc := 26) cx (hC 8 _ rfl v0) tw_559 dX8_plant_26 ?_
    refine gf_Reader_plan (pc := 29) cx (hC 6 _ rfl (Nat.le_of_ble_eq_true rfl)) tw_99 dX8_plant_29 ?_
    refine gg_callVv (pc := 32) cx cal_X7_startWith calv_X7_startWith (ct_X7_startWith cx.tr hC (Nat.le_of_ble_eq_true rfl) (Nat.le_of_ble_eq_true rfl) h) tw_529 (hC 7 _ rfl (Nat.le_of_ble_eq_true rfl)) rfl rfl rfl (st := []) rfl (Nat.le_of_ble_eq_true rfl) ⟨Nat.le_of_ble_eq_true rfl, Nat.le_of_ble_eq_true rfl⟩ ⟨Nat.le_of_ble_eq_true rfl, Nat.le_of_ble_eq_true rfl⟩ dX8_plant_32 (fun M32 h => ?_)
    exact gg_vret (pc := 35) cx hQ h dX8_plant_35
set_option maxRecDepth 100000 in
set_option maxHeartbeats 4000000 in
theorem wk_X8_loadTemplate_b9 {t : gT} {X : gX} (cx : g_Cx t X cX8_loadTemplate 2 RX8 (some .int)) (hC : g_hC t) {K : Int32 → gM → Prop} {KX : Nat → gM → Prop} (hQ : gXQ X = vx_MQ (gXb X) (va_Qi K (g_B t) (g_A t)) (g_XC t KX) (gXa X) (gXs X) rm_X8_loadTemplate.cells rm_X8_loadTemplate.slots (g_A t)) (hx : ∀ x ∈ (gXc X).exceptionTable.toList, False)  {M : gM}  (h : wp_X8_loadTemplate_b9 K KX  M) : G t rm_X8_loadTemplate X 2 0 0 M [] [] 9 := by
  exact gg_throw (pc := 9) cx hQ hx g_thr0 tw_766 (g_st10 cx.T) (Nat.le_of_ble_eq_true rfl) (Nat.le_of_ble_eq_true rfl) ⟨Nat.le_of_ble_eq_true rfl, Nat.le_of_ble_eq_true rfl⟩ ⟨Nat.le_of_ble_eq_true rfl, Nat.le_of_ble_eq_true rfl⟩ dX8_loadTemplate_9 dX8_loadTemplate_12 dX8_loadTemplate_13 dX8_loadTemplate_15 dX8_loadTemplate_18 h
theorem cal_X8_loadTemplate : g_Cal yX8_loadTemplate cX8_loadTemplate 2 (some .int) 1 := ⟨tw_1, tw_855, by decide, by decide, by decide +kernel⟩
theorem calv_X8_loadTemplate : g_CalV yX8_loadTemplate := ⟨tw_853, tw_854⟩
set_option maxRecDepth 100000 in
set_option maxHeartbeats 4000000 in
theorem ct_X8_loadTemplate {l : Launch} (hl : l.stackTraces = false) {t : gT} (hC : g_hC t) {o0 : Nat} {x1 : Int32} (v0 : o0 < 1) {M : gM} {K : Int32 → gM → Prop} {KX : Nat → gM → Prop} (h : wp_X8_loadTemplate o0 x1 M K KX) : vx_Met l yX8_loadTemplate (g_y yX8_loadTemplate cX8_loadTemplate 2 (some .int)) rm_X8_loadTemplate (va_Pc [.ref (gAd t 8 o0), .int x1] (g_Pre t M)) (va_Qi K (g_B t) (g_A t)) (g_XC t KX) rm_X8_loadTemplate.cells rm_X8_loadTemplate.slots (g_A t) := by
  refine g_xmet hl rfl (Nat.le_of_ble_eq_true rfl) (fun X hlX cx hx hQ => ?_)
  subst hlX
  refine gg_iload_n (pc := 0) cx 1 rfl dX8_loadTemplate_0 rfl ?_
  refine gg_if_lt (pc := 1) cx (tgt := 9) dX8_loadTemplate_1 (by decide) (fun c1 => ?_) (fun c1 => ?_)
  · have h := g_it c1 h
    refine gg_lv (lv' := []) [] rfl ?_
    exact wk_X8_loadTemplate_b9 cx hC hQ hx  h
  · have h := g_if c1 h
    refine gg_iload_n (pc := 4) cx 1 rfl dX8_loadTemplate_4 rfl ?_
    refine gg_iconst (pc := 5) cx (v := 5) dX8_loadTemplate_5 (by decide) ?_
    refine gg_icmp_le (pc := 6) cx (tgt := 19) dX8_loadTemplate_6 (by decide) (fun c6 => ?_) (fun c6 => ?_)
    · have h := g_it c6 h
      refine gg_aload_n (pc := 19) cx 0 rfl dX8_loadTemplate_19 rfl ?_
      refine gg_iload_n (pc := 20) cx 1 rfl dX8_loadTemplate_20 rfl ?_
      refine gg_callVv (pc := 21) cx cal_X8_plant calv_X8_plant (ct_X8_plant cx.tr hC v0 h) tw_325 (hC 8 _ rfl v0) rfl rfl rfl (st := []) rfl (Nat.le_of_ble_eq_true rfl) ⟨Nat.le_of_ble_eq_true rfl, Nat.le_of_ble_eq_true rfl⟩ ⟨Nat.le_of_ble_eq_true rfl, Nat.le_of_ble_eq_true rfl⟩ dX8_loadTemplate_21 (fun M21 h => ?_)
      refine gg_aload_n (pc := 24) cx 0 rfl dX8_loadTemplate_24 rfl ?_
      refine gf_Tree_now (pc := 25) cx (hC 8 _ rfl v0) tw_560 dX8_loadTemplate_25 ?_
      refine gf_World_plan (pc := 28) cx (hC 7 _ rfl (Nat.le_of_ble_eq_true rfl)) tw_298 dX8_loadTemplate_28 ?_
      refine gf_Plan_nodeCount (pc := 31) cx (hC 5 _ rfl (g_v56 (Nat.le_of_ble_eq_true rfl))) tw_45 dX8_loadTemplate_31 ?_
      refine gg_wide (k' := rm_X8_loadTemplate.cells) (n' := rm_X8_loadTemplate.slots) (Nat.le_of_ble_eq_true rfl) (Nat.le_of_ble_eq_true rfl) ?_
      exact gg_xiret (pc := 34) cx hQ h dX8_loadTemplate_34
    · have h := g_if c6 h
      refine gg_lv (lv' := []) [] rfl ?_
      exact wk_X8_loadTemplate_b9 cx hC hQ hx  h
theorem cal_X8_errorPosition : g_Cal yX8_errorPosition cX8_errorPosition 2 (some .int) 1 := ⟨tw_1, tw_864, by decide, by decide, by decide +kernel⟩
theorem calv_X8_errorPosition : g_CalV yX8_errorPosition := ⟨tw_862, tw_863⟩
set_option maxRecDepth 100000 in
set_option maxHeartbeats 4000000 in
theorem ct_X8_errorPosition {l : Launch} (hl : l.stackTraces = false) {t : gT} (hC : g_hC t) {o0 : Nat} {x1 : Int32} (v0 : o0 < 1) {M : gM} {K : Int32 → gM → Prop} {KX : Nat → gM → Prop} (h : wp_X8_errorPosition o0 x1 M K KX) : vx_Met l yX8_errorPosition (g_y yX8_errorPosition cX8_errorPosition 2 (some .int)) rm_X8_errorPosition (va_Pc [.ref (gAd t 8 o0), .int x1] (g_Pre t M)) (va_Qi K (g_B t) (g_A t)) (g_XC t KX) rm_X8_errorPosition.cells rm_X8_errorPosition.slots (g_A t) := by
  refine g_xmet hl rfl (Nat.le_of_ble_eq_true rfl) (fun X hlX cx hx hQ => ?_)
  subst hlX
  refine gg_iload_n (pc := 0) cx 1 rfl dX8_errorPosition_0 rfl ?_
  refine gg_if_ge (pc := 1) cx (tgt := 14) dX8_errorPosition_1 (by decide) (fun c1 => ?_) (fun c1 => ?_)
  · have h := g_it c1 h
    refine gg_iload_n (pc := 14) cx 1 rfl dX8_errorPosition_14 rfl ?_
    refine gg_aload_n (pc := 15) cx 0 rfl dX8_errorPosition_15 rfl ?_
    refine gf_Tree_errors (pc := 16) cx (hC 8 _ rfl v0) tw_558 dX8_errorPosition_16 ?_
    refine gg_alen (pc := 19) cx (ca := 0) (v := 3) (hC 45 _ rfl v0) rfl rfl rfl dX8_errorPosition_19 ?_
    refine gg_icmp_ge (pc := 20) cx (tgt := 32) dX8_errorPosition_20 (by decide) (fun c20 => ?_) (fun c20 => ?_)
    · have h := g_it c20 h
      refine gg_iconst (pc := 32) cx (v := (-1)) dX8_errorPosition_32 (by decide) ?_
      refine gg_wide (k' := rm_X8_errorPosition.cells) (n' := rm_X8_errorPosition.slots) (Nat.le_of_ble_eq_true rfl) (Nat.le_of_ble_eq_true rfl) ?_
      exact gg_xiret (pc := 33) cx hQ h dX8_errorPosition_33
    · have h := g_if c20 h
      refine gg_aload_n (pc := 23) cx 0 rfl dX8_errorPosition_23 rfl ?_
      refine gf_Tree_errors (pc := 24) cx (hC 8 _ rfl v0) tw_558 dX8_errorPosition_24 ?_
      refine gg_iload_n (pc := 27) cx 1 rfl dX8_errorPosition_27 rfl ?_
      have q28 := h.1
      have h := h.2
      refine gg_iald (pc := 28) cx (hC 45 _ rfl v0) rfl q28 dX8_errorPosition_28 ?_
      refine gg_goto (pc := 29) cx (tgt := 33) dX8_errorPosition_29 (by decide) ?_
      refine gg_wide (k' := rm_X8_errorPosition.cells) (n' := rm_X8_errorPosition.slots) (Nat.le_of_ble_eq_true rfl) (Nat.le_of_ble_eq_true rfl) ?_
      exact gg_xiret (pc := 33) cx hQ h dX8_errorPosition_33
  · have h := g_if c1 h
    exact gg_throw (pc := 4) cx hQ hx g_thr2 tw_865 (g_st11 cx.T) (Nat.le_of_ble_eq_true rfl) (Nat.le_of_ble_eq_true rfl) ⟨Nat.le_of_ble_eq_true rfl, Nat.le_of_ble_eq_true rfl⟩ ⟨Nat.le_of_ble_eq_true rfl, Nat.le_of_ble_eq_true rfl⟩ dX8_errorPosition_4 dX8_errorPosition_7 dX8_errorPosition_8 dX8_errorPosition_10 dX8_errorPosition_13 h
theorem cal_X8_nodes : g_Cal yX8_nodes cX8_nodes 1 (some .int) 0 := ⟨tw_1, tw_605, by decide, by decide, by decide +kernel⟩
theorem calv_X8_nodes : g_CalV yX8_nodes := ⟨tw_603, tw_604⟩
set_option maxRecDepth 100000 in
set_option maxHeartbeats 4000000 in
theorem ct_X8_nodes {l : Launch} (hl : l.stackTraces = false) {t : gT} (hC : g_hC t) {o0 : Nat} (v0 : o0 < 1) {M : gM} {K : Int32 → gM → Prop} (h : wp_X8_nodes o0 M K) : Met l yX8_nodes (g_y yX8_nodes cX8_nodes 1 (some .int)) rm_X8_nodes (va_Pc [.ref (gAd t 8 o0)] (g_Pre t M)) (va_Qi K (g_B t) (g_A t)) rm_X8_nodes.cells rm_X8_nodes.slots (g_A t) := by
  refine g_met hl rfl (Nat.le_of_ble_eq_true rfl) (fun X hlX cx hQ => ?_)
  subst hlX
  refine gg_aload_n (pc := 0) cx 0 rfl dX8_nodes_0 rfl ?_
  refine gf_Tree_now (pc := 1) cx (hC 8 _ rfl v0) tw_560 dX8_nodes_1 ?_
  refine gf_World_plan (pc := 4) cx (hC 7 _ rfl (Nat.le_of_ble_eq_true rfl)) tw_298 dX8_nodes_4 ?_
  refine gf_Plan_nodeCount (pc := 7) cx (hC 5 _ rfl (g_v56 (Nat.le_of_ble_eq_true rfl))) tw_45 dX8_nodes_7 ?_
  exact gg_iret (pc := 10) cx hQ h dX8_nodes_10
theorem cal_X8_needNode : g_Cal yX8_needNode cX8_needNode 2 (none) 1 := ⟨tw_1, tw_891, by decide, by decide, by decide +kernel⟩
theorem calv_X8_needNode : g_CalV yX8_needNode := ⟨tw_890, ts_20⟩
set_option maxRecDepth 100000 in
set_option maxHeartbeats 4000000 in
theorem ct_X8_needNode {l : Launch} (hl : l.stackTraces = false) {t : gT} (hC : g_hC t) {o0 : Nat} {x1 : Int32} (v0 : o0 < 1) {M : gM} {K : gM → Prop} {KX : Nat → gM → Prop} (h : wp_X8_needNode o0 x1 M K KX) : vx_Met l yX8_needNode (g_y yX8_needNode cX8_needNode 2 (none)) rm_X8_needNode (va_Pc [.ref (gAd t 8 o0), .int x1] (g_Pre t M)) (va_Qv K (g_B t) (g_A t)) (g_XC t KX) rm_X8_needNode.cells rm_X8_needNode.slots (g_A t) := by
  refine g_xmet hl rfl (Nat.le_of_ble_eq_true rfl) (fun X hlX cx hx hQ => ?_)
  subst hlX
  refine gg_aload_n (pc := 0) cx 0 rfl dX8_needNode_0 rfl ?_
  refine gf_Tree_now (pc := 1) cx (hC 8 _ rfl v0) tw_560 dX8_needNode_1 ?_
  refine gf_World_plan (pc := 4) cx (hC 7 _ rfl (Nat.le_of_ble_eq_true rfl)) tw_298 dX8_needNode_4 ?_
  refine gg_iload_n (pc := 7) cx 1 rfl dX8_needNode_7 rfl ?_
  refine gg_callVi (pc := 8) cx cal_X5_hasNode calv_X5_hasNode (ct_X5_hasNode cx.tr hC (g_v56 (Nat.le_of_ble_eq_true rfl)) h) tw_892 (hC 5 _ rfl (g_v56 (Nat.le_of_ble_eq_true rfl))) rfl rfl rfl (st := []) rfl (Nat.le_of_ble_eq_true rfl) ⟨Nat.le_of_ble_eq_true rfl, Nat.le_of_ble_eq_true rfl⟩ ⟨Nat.le_of_ble_eq_true rfl, Nat.le_of_ble_eq_true rfl⟩ dX8_needNode_8 (fun r8 M8 h => ?_)
  refine gg_if_ne (pc := 11) cx (tgt := 25) dX8_needNode_11 (by decide) (fun c11 => ?_) (fun c11 => ?_)
  · have h := g_if c11 h
    refine gg_wide (k' := rm_X8_needNode.cells) (n' := rm_X8_needNode.slots) (Nat.le_of_ble_eq_true rfl) (Nat.le_of_ble_eq_true rfl) ?_
    exact gg_xvret (pc := 25) cx hQ h dX8_needNode_25
  · have h := g_it c11 h
    exact gg_throwW (pc := 14) cx hQ hx g_thr2 tw_865 (g_st12 cx.T) (Nat.le_of_ble_eq_true rfl) (Nat.le_of_ble_eq_true rfl) ⟨Nat.le_of_ble_eq_true rfl, Nat.le_of_ble_eq_true rfl⟩ ⟨Nat.le_of_ble_eq_true rfl, Nat.le_of_ble_eq_true rfl⟩ dX8_needNode_14 dX8_needNode_17 dX8_needNode_18 dX8_needNode_21 dX8_needNode_24 h
theorem cal_X8_parentOf : g_Cal yX8_parentOf cX8_parentOf 2 (some .int) 1 := ⟨tw_1, tw_887, by decide, by decide, by decide +kernel⟩
theorem calv_X8_parentOf : g_CalV yX8_parentOf := ⟨tw_885, tw_886⟩
set_option maxRecDepth 100000 in
set_option maxHeartbeats 4000000 in
theorem ct_X8_parentOf {l : Launch} (hl : l.stackTraces = false) {t : gT} (hC : g_hC t) {o0 : Nat} {x1 : Int32} (v0 : o0 < 1) {M : gM} {K : Int32 → gM → Prop} {KX : Nat → gM → Prop} (h : wp_X8_parentOf o0 x1 M K KX) : vx_Met l yX8_parentOf (g_y yX8_parentOf cX8_parentOf 2 (some .int)) rm_X8_parentOf (va_Pc [.ref (gAd t 8 o0), .int x1] (g_Pre t M)) (va_Qi K (g_B t) (g_A t)) (g_XC t KX) rm_X8_parentOf.cells rm_X8_parentOf.slots (g_A t) := by
  refine g_xmet hl rfl (Nat.le_of_ble_eq_true rfl) (fun X hlX cx hx hQ => ?_)
  subst hlX
  refine gg_aload_n (pc := 0) cx 0 rfl dX8_parentOf_0 rfl ?_
  refine gg_iload_n (pc := 1) cx 1 rfl dX8_parentOf_1 rfl ?_
  refine gg_xcallVv (pc := 2) cx cal_X8_needNode calv_X8_needNode (ct_X8_needNode cx.tr hC v0 h) tw_888 (hC 8 _ rfl v0) rfl rfl rfl (st := []) rfl (Nat.le_of_ble_eq_true rfl) ⟨Nat.le_of_ble_eq_true rfl, Nat.le_of_ble_eq_true rfl⟩ ⟨Nat.le_of_ble_eq_true rfl, Nat.le_of_ble_eq_true rfl⟩ dX8_parentOf_2 hQ hx ⟨Nat.le_of_ble_eq_true rfl, Nat.le_of_ble_eq_true rfl⟩ (fun M2 h => ?_)
  refine gg_aload_n (pc := 5) cx 0 rfl dX8_parentOf_5 rfl ?_
  refine gf_Tree_now (pc := 6) cx (hC 8 _ rfl v0) tw_560 dX8_parentOf_6 ?_
  refine gf_World_plan (pc := 9) cx (hC 7 _ rfl (Nat.le_of_ble_eq_true rfl)) tw_298 dX8_parentOf_9 ?_
  refine gf_Plan_parent (pc := 12) cx (hC 5 _ rfl (g_v56 (Nat.le_of_ble_eq_true rfl))) tw_47 dX8_parentOf_12 ?_
  refine gg_iload_n (pc := 15) cx 1 rfl dX8_parentOf_15 rfl ?_
  have q16 := h.1
  have h := h.2
  refine gg_iald (pc := 16) cx (hC 32 _ rfl (g_v56 (Nat.le_of_ble_eq_true rfl))) rfl q16 dX8_parentOf_16 ?_
  exact gg_xiret (pc := 17) cx hQ h dX8_parentOf_17
theorem cal_X8_children : g_Cal yX8_children cX8_children 2 (some .int) 1 := ⟨tw_1, tw_900, by decide, by decide, by decide +kernel⟩
theorem calv_X8_children : g_CalV yX8_children := ⟨tw_898, tw_899⟩
set_option maxRecDepth 100000 in
set_option maxHeartbeats 4000000 in
theorem ct_X8_children {l : Launch} (hl : l.stackTraces = false) {t : gT} (hC : g_hC t) {o0 : Nat} {x1 : Int32} (v0 : o0 < 1) {M : gM} {K : Int32 → gM → Prop} {KX : Nat → gM → Prop} (h : wp_X8_children o0 x1 M K KX) : vx_Met l yX8_children (g_y yX8_children cX8_children 2 (some .int)) rm_X8_children (va_Pc [.ref (gAd t 8 o0), .int x1] (g_Pre t M)) (va_Qi K (g_B t) (g_A t)) (g_XC t KX) rm_X8_children.cells rm_X8_children.slots (g_A t) := by
  refine g_xmet hl rfl (Nat.le_of_ble_eq_true rfl) (fun X hlX cx hx hQ => ?_)
  subst hlX
  refine gg_aload_n (pc := 0) cx 0 rfl dX8_children_0 rfl ?_
  refine gg_iload_n (pc := 1) cx 1 rfl dX8_children_1 rfl ?_
  refine gg_xcallVv (pc := 2) cx cal_X8_needNode calv_X8_needNode (ct_X8_needNode cx.tr hC v0 h) tw_888 (hC 8 _ rfl v0) rfl rfl rfl (st := []) rfl (Nat.le_of_ble_eq_true rfl) ⟨Nat.le_of_ble_eq_true rfl, Nat.le_of_ble_eq_true rfl⟩ ⟨Nat.le_of_ble_eq_true rfl, Nat.le_of_ble_eq_true rfl⟩ dX8_children_2 hQ hx ⟨Nat.le_of_ble_eq_true rfl, Nat.le_of_ble_eq_true rfl⟩ (fun M2 h => ?_)
  refine gg_aload_n (pc := 5) cx 0 rfl dX8_children_5 rfl ?_
  refine gf_Tree_now (pc := 6) cx (hC 8 _ rfl v0) tw_560 dX8_children_6 ?_
  refine gf_World_plan (pc := 9) cx (hC 7 _ rfl (Nat.le_of_ble_eq_true rfl)) tw_298 dX8_children_9 ?_
  refine gf_Plan_childCount (pc := 12) cx (hC 5 _ rfl (g_v56 (Nat.le_of_ble_eq_true rfl))) tw_50 dX8_children_12 ?_
  refine gg_iload_n (pc := 15) cx 1 rfl dX8_children_15 rfl ?_
  have q16 := h.1
  have h := h.2
  refine gg_iald (pc := 16) cx (hC 33 _ rfl (g_v56 (Nat.le_of_ble_eq_true rfl))) rfl q16 dX8_children_16 ?_
  exact gg_xiret (pc := 17) cx hQ h dX8_children_17
theorem cal_X8_tieRule : g_Cal yX8_tieRule cX8_tieRule 2 (some .int) 1 := ⟨tw_1, tw_907, by decide, by decide, by decide +kernel⟩
theorem calv_X8_tieRule : g_CalV yX8_tieRule := ⟨tw_905, tw_906⟩
set_option maxRecDepth 100000 in
set_option maxHeartbeats 4000000 in
theorem ct_X8_tieRule {l : Launch} (hl : l.stackTraces = false) {t : gT} (hC : g_hC t) {o0 : Nat} {x1 : Int32} (v0 : o0 < 1) {M : gM} {K : Int32 → gM → Prop} {KX : Nat → gM → Prop} (h : wp_X8_tieRule o0 x1 M K KX) : vx_Met l yX8_tieRule (g_y yX8_tieRule cX8_tieRule 2 (some .int)) rm_X8_tieRule (va_Pc [.ref (gAd t 8 o0), .int x1] (g_Pre t M)) (va_Qi K (g_B t) (g_A t)) (g_XC t KX) rm_X8_tieRule.cells rm_X8_tieRule.slots (g_A t) := by
  refine g_xmet hl rfl (Nat.le_of_ble_eq_true rfl) (fun X hlX cx hx hQ => ?_)
  subst hlX
  refine gg_aload_n (pc := 0) cx 0 rfl dX8_tieRule_0 rfl ?_
  refine gg_iload_n (pc := 1) cx 1 rfl dX8_tieRule_1 rfl ?_
  refine gg_xcallVv (pc := 2) cx cal_X8_needNode calv_X8_needNode (ct_X8_needNode cx.tr hC v0 h) tw_888 (hC 8 _ rfl v0) rfl rfl rfl (st := []) rfl (Nat.le_of_ble_eq_true rfl) ⟨Nat.le_of_ble_eq_true rfl, Nat.le_of_ble_eq_true rfl⟩ ⟨Nat.le_of_ble_eq_true rfl, Nat.le_of_ble_eq_true rfl⟩ dX8_tieRule_2 hQ hx ⟨Nat.le_of_ble_eq_true rfl, Nat.le_of_ble_eq_true rfl⟩ (fun M2 h => ?_)
  refine gg_aload_n (pc := 5) cx 0 rfl dX8_tieRule_5 rfl ?_
  refine gf_Tree_now (pc := 6) cx (hC 8 _ rfl v0) tw_560 dX8_tieRule_6 ?_
  refine gf_World_plan (pc := 9) cx (hC 7 _ rfl (Nat.le_of_ble_eq_true rfl)) tw_298 dX8_tieRule_9 ?_
  refine gf_Plan_tie (pc := 12) cx (hC 5 _ rfl (g_v56 (Nat.le_of_ble_eq_true rfl))) tw_53 dX8_tieRule_12 ?_
  refine gg_iload_n (pc := 15) cx 1 rfl dX8_tieRule_15 rfl ?_
  have q16 := h.1
  have h := h.2
  refine gg_iald (pc := 16) cx (hC 34 _ rfl (g_v56 (Nat.le_of_ble_eq_true rfl))) rfl q16 dX8_tieRule_16 ?_
  exact gg_xiret (pc := 17) cx hQ h dX8_tieRule_17
set_option maxRecDepth 100000 in
set_option maxHeartbeats 4000000 in
theorem wk_X8_needFlow_b10 {t : gT} {X : gX} (cx : g_Cx t X cX8_needFlow 1 RX8 (none)) (hC : g_hC t) {K : gM → Prop} {KX : Nat → gM → Prop} (hQ : gXQ X = vx_MQ (gXb X) (va_Qv K (g_B t) (g_A t)) (g_XC t KX) (gXa X) (gXs X) rm_X8_needFlow.cells rm_X8_needFlow.slots (g_A t)) (hx : ∀ x ∈ (gXc X).exceptionTable.toList, False)  {M : gM}  (h : wp_X8_needFlow_b10 K KX  M) : G t rm_X8_needFlow X 1 0 0 M [] [] 10 := by
  exact gg_throwW (pc := 10) cx hQ hx g_thr2 tw_865 (g_st13 cx.T) (Nat.le_of_ble_eq_true rfl) (Nat.le_of_ble_eq_true rfl) ⟨Nat.le_of_ble_eq_true rfl, Nat.le_of_ble_eq_true rfl⟩ ⟨Nat.le_of_ble_eq_true rfl, Nat.le_of_ble_eq_true rfl⟩ dX8_needFlow_10 dX8_needFlow_13 dX8_needFlow_14 dX8_needFlow_17 dX8_needFlow_20 h
theorem cal_X8_needFlow : g_Cal yX8_needFlow cX8_needFlow 1 (none) 1 := ⟨tw_1, tw_917, by decide, by decide, by decide +kernel⟩
set_option maxRecDepth 100000 in
set_option maxHeartbeats 4000000 in
theorem ct_X8_needFlow {l : Launch} (hl : l.stackTraces = false) {t : gT} (hC : g_hC t) {x0 : Int32}  {M : gM} {K : gM → Prop} {KX : Nat → gM → Prop} (h : wp_X8_needFlow x0 M K KX) : vx_Met l yX8_needFlow (g_y yX8_needFlow cX8_needFlow 1 (none)) rm_X8_needFlow (va_Pc [.int x0] (g_Pre t M)) (va_Qv K (g_B t) (g_A t)) (g_XC t KX) rm_X8_needFlow.cells rm_X8_needFlow.slots (g_A t) := by
  refine g_xmet hl rfl (Nat.le_of_ble_eq_true rfl) (fun X hlX cx hx hQ => ?_)
  subst hlX
  refine gg_iload_n (pc := 0) cx 0 rfl dX8_needFlow_0 rfl ?_
  refine gg_if_lt (pc := 1) cx (tgt := 10) dX8_needFlow_1 (by decide) (fun c1 => ?_) (fun c1 => ?_)
  · have h := g_it c1 h
    refine gg_lv (lv' := []) [] rfl ?_
    exact wk_X8_needFlow_b10 cx hC hQ hx  h
  · have h := g_if c1 h
    refine gg_iload_n (pc := 4) cx 0 rfl dX8_needFlow_4 rfl ?_
    refine gg_bipush (pc := 5) cx (v := 16) dX8_needFlow_5 (by decide) ?_
    refine gg_icmp_lt (pc := 7) cx (tgt := 21) dX8_needFlow_7 (by decide) (fun c7 => ?_) (fun c7 => ?_)
    · have h := g_it c7 h
      refine gg_wide (k' := rm_X8_needFlow.cells) (n' := rm_X8_needFlow.slots) (Nat.le_of_ble_eq_true rfl) (Nat.le_of_ble_eq_true rfl) ?_
      exact gg_xvret (pc := 21) cx hQ h dX8_needFlow_21
    · have h := g_if c7 h
      refine gg_lv (lv' := []) [] rfl ?_
      exact wk_X8_needFlow_b10 cx hC hQ hx  h
set_option maxRecDepth 100000 in
set_option maxHeartbeats 4000000 in
theorem wk_X8_needWeight_b11 {t : gT} {X : gX} (cx : g_Cx t X cX8_needWeight 1 RX8 (none)) (hC : g_hC t) {K : gM → Prop} {KX : Nat → gM → Prop} (hQ : gXQ X = vx_MQ (gXb X) (va_Qv K (g_B t) (g_A t)) (g_XC t KX) (gXa X) (gXs X) rm_X8_needWeight.cells rm_X8_needWeight.slots (g_A t)) (hx : ∀ x ∈ (gXc X).exceptionTable.toList, False)  {M : gM}  (h : wp_X8_needWeight_b11 K KX  M) : G t rm_X8_needWeight X 1 0 0 M [] [] 11 := by
  exact gg_throwW (pc := 11) cx hQ hx g_thr0 tw_766 (g_st14 cx.T) (Nat.le_of_ble_eq_true rfl) (Nat.le_of_ble_eq_true rfl) ⟨Nat.le_of_ble_eq_true rfl, Nat.le_of_ble_eq_true rfl⟩ ⟨Nat.le_of_ble_eq_true rfl, Nat.le_of_ble_eq_true rfl⟩ dX8_needWeight_11 dX8_needWeight_14 dX8_needWeight_15 dX8_needWeight_18 dX8_needWeight_21 h
theorem cal_X8_needWeight : g_Cal yX8_needWeight cX8_needWeight 1 (none) 1 := ⟨tw_1, tw_921, by decide, by decide, by decide +kernel⟩
set_option maxRecDepth 100000 in
set_option maxHeartbeats 4000000 in
theorem ct_X8_needWeight {l : Launch} (hl : l.stackTraces = false) {t : gT} (hC : g_hC t) {x0 : Int32}  {M : gM} {K : gM → Prop} {KX : Nat → gM → Prop} (h : wp_X8_needWeight x0 M K KX) : vx_Met l yX8_needWeight (g_y yX8_needWeight cX8_needWeight 1 (none)) rm_X8_needWeight (va_Pc [.int x0] (g_Pre t M)) (va_Qv K (g_B t) (g_A t)) (g_XC t KX) rm_X8_needWeight.cells rm_X8_needWeight.slots (g_A t) := by
  refine g_xmet hl rfl (Nat.le_of_ble_eq_true rfl) (fun X hlX cx hx hQ => ?_)
  subst hlX
  refine gg_iload_n (pc := 0) cx 0 rfl dX8_needWeight_0 rfl ?_
  refine gg_iconst (pc := 1) cx (v := 1) dX8_needWeight_1 (by decide) ?_
  refine gg_icmp_lt (pc := 2) cx (tgt := 11) dX8_needWeight_2 (by decide) (fun c2 => ?_) (fun c2 => ?_)
  · have h := g_it c2 h
    refine gg_lv (lv' := []) [] rfl ?_
    exact wk_X8_needWeight_b11 cx hC hQ hx  h
  · have h := g_if c2 h
    refine gg_iload_n (pc := 5) cx 0 rfl dX8_needWeight_5 rfl ?_
    refine gg_bipush (pc := 6) cx (v := 100) dX8_needWeight_6 (by decide) ?_
    refine gg_icmp_le (pc := 8) cx (tgt := 22) dX8_needWeight_8 (by decide) (fun c8 => ?_) (fun c8 => ?_)
    · have h := g_it c8 h
      refine gg_wide (k' := rm_X8_needWeight.cells) (n' := rm_X8_needWeight.slots) (Nat.le_of_ble_eq_true rfl) (Nat.le_of_ble_eq_true rfl) ?_
      exact gg_xvret (pc := 22) cx hQ h dX8_needWeight_22
    · have h := g_if c8 h
      refine gg_lv (lv' := []) [] rfl ?_
      exact wk_X8_needWeight_b11 cx hC hQ hx  h
theorem cal_X8_setFlowWeight : g_Cal yX8_setFlowWeight cX8_setFlowWeight 4 (some .int) 2 := ⟨tw_1, tw_914, by decide, by decide, by decide +kernel⟩
theorem calv_X8_setFlowWeight : g_CalV yX8_setFlowWeight := ⟨tw_912, tw_913⟩
set_option maxRecDepth 100000 in
set_option maxHeartbeats 4000000 in
theorem ct_X8_setFlowWeight {l : Launch} (hl : l.stackTraces = false) {t : gT} (hC : g_hC t) {o0 : Nat} {x1 : Int32} {x2 : Int32} (v0 : o0 < 1) {M : gM} {K : Int32 → gM → Prop} {KX : Nat → gM → Prop} (h : wp_X8_setFlowWeight o0 x1 x2 M K KX) : vx_Met l yX8_setFlowWeight (g_y yX8_setFlowWeight cX8_setFlowWeight 4 (some .int)) rm_X8_setFlowWeight (va_Pc [.ref (gAd t 8 o0), .int x1, .int x2] (g_Pre t M)) (va_Qi K (g_B t) (g_A t)) (g_XC t KX) rm_X8_setFlowWeight.cells rm_X8_setFlowWeight.slots (g_A t) := by
  refine g_xmet hl rfl (Nat.le_of_ble_eq_true rfl) (fun X hlX cx hx hQ => ?_)
  subst hlX
  refine gg_iload_n (pc := 0) cx 1 rfl dX8_setFlowWeight_0 rfl ?_
  refine gg_xcallSv (pc := 1) cx cal_X8_needFlow tw_916 (ct_X8_needFlow cx.tr hC  h) tw_915 rfl (st := []) rfl (Nat.le_of_ble_eq_true rfl) ⟨Nat.le_of_ble_eq_true rfl, Nat.le_of_ble_eq_true rfl⟩ ⟨Nat.le_of_ble_eq_true rfl, Nat.le_of_ble_eq_true rfl⟩ dX8_setFlowWeight_1 hQ hx ⟨Nat.le_of_ble_eq_true rfl, Nat.le_of_ble_eq_true rfl⟩ (fun M1 h => ?_)
  refine gg_iload_n (pc := 4) cx 2 rfl dX8_setFlowWeight_4 rfl ?_
  refine gg_xcallSv (pc := 5) cx cal_X8_needWeight tw_920 (ct_X8_needWeight cx.tr hC  h) tw_919 rfl (st := []) rfl (Nat.le_of_ble_eq_true rfl) ⟨Nat.le_of_ble_eq_true rfl, Nat.le_of_ble_eq_true rfl⟩ ⟨Nat.le_of_ble_eq_true rfl, Nat.le_of_ble_eq_true rfl⟩ dX8_setFlowWeight_5 hQ hx ⟨Nat.le_of_ble_eq_true rfl, Nat.le_of_ble_eq_true rfl⟩ (fun M5 h => ?_)
  refine gg_aload_n (pc := 8) cx 0 rfl dX8_setFlowWeight_8 rfl ?_
  refine gf_Tree_now (pc := 9) cx (hC 8 _ rfl v0) tw_560 dX8_setFlowWeight_9 ?_
  refine gf_World_flows (pc := 12) cx (hC 7 _ rfl (Nat.le_of_ble_eq_true rfl)) tw_304 dX8_setFlowWeight_12 ?_
  refine gf_Flows_weight (pc := 15) cx (hC 1 _ rfl (Nat.le_of_ble_eq_true rfl)) tw_199 dX8_setFlowWeight_15 ?_
  refine gg_iload_n (pc := 18) cx 1 rfl dX8_setFlowWeight_18 rfl ?_
  have q19 := h.1
  have h := h.2
  refine gg_iald (pc := 19) cx (hC 12 _ rfl (Nat.le_of_ble_eq_true rfl)) rfl q19 dX8_setFlowWeight_19 ?_
  refine gg_topi (fun n20 en20 => ?_)
  have h := h n20 en20
  refine gg_istore_n (pc := 20) cx [(3, .int n20), (0, .ref (gAd t 8 o0)), (1, .int x1), (2, .int x2)] dX8_setFlowWeight_20 rfl (by decide) rfl ?_
  refine gg_aload_n (pc := 21) cx 1 rfl dX8_setFlowWeight_21 rfl ?_
  refine gf_Tree_now (pc := 22) cx (hC 8 _ rfl v0) tw_560 dX8_setFlowWeight_22 ?_
  refine gf_World_flows (pc := 25) cx (hC 7 _ rfl (Nat.le_of_ble_eq_true rfl)) tw_304 dX8_setFlowWeight_25 ?_
  refine gf_Flows_weight (pc := 28) cx (hC 1 _ rfl (Nat.le_of_ble_eq_true rfl)) tw_199 dX8_setFlowWeight_28 ?_
  refine gg_iload_n (pc := 31) cx 2 rfl dX8_setFlowWeight_31 rfl ?_
  refine gg_iload_n (pc := 32) cx 3 rfl dX8_setFlowWeight_32 rfl ?_
  have q33 := h.1
  have h := h.2
  refine gg_iast (pc := 33) cx (hC 12 _ rfl (Nat.le_of_ble_eq_true rfl)) (fun _ _ => rfl) q33 dX8_setFlowWeight_33 ?_
  refine gg_mem (fun M33 eM33 => ?_)
  have h := h M33 eM33
  refine gg_iload_n (pc := 34) cx 0 rfl dX8_setFlowWeight_34 rfl ?_
  exact gg_xiret (pc := 35) cx hQ h dX8_setFlowWeight_35
theorem cal_X8_setNodeWeight : g_Cal yX8_setNodeWeight cX8_setNodeWeight 4 (some .int) 2 := ⟨tw_1, tw_929, by decide, by decide, by decide +kernel⟩
theorem calv_X8_setNodeWeight : g_CalV yX8_setNodeWeight := ⟨tw_927, tw_928⟩
set_option maxRecDepth 100000 in
set_option maxHeartbeats 4000000 in
theorem ct_X8_setNodeWeight {l : Launch} (hl : l.stackTraces = false) {t : gT} (hC : g_hC t) {o0 : Nat} {x1 : Int32} {x2 : Int32} (v0 : o0 < 1) {M : gM} {K : Int32 → gM → Prop} {KX : Nat → gM → Prop} (h : wp_X8_setNodeWeight o0 x1 x2 M K KX) : vx_Met l yX8_setNodeWeight (g_y yX8_setNodeWeight cX8_setNodeWeight 4 (some .int)) rm_X8_setNodeWeight (va_Pc [.ref (gAd t 8 o0), .int x1, .int x2] (g_Pre t M)) (va_Qi K (g_B t) (g_A t)) (g_XC t KX) rm_X8_setNodeWeight.cells rm_X8_setNodeWeight.slots (g_A t) := by
  refine g_xmet hl rfl (Nat.le_of_ble_eq_true rfl) (fun X hlX cx hx hQ => ?_)
  subst hlX
  refine gg_aload_n (pc := 0) cx 0 rfl dX8_setNodeWeight_0 rfl ?_
  refine gg_iload_n (pc := 1) cx 1 rfl dX8_setNodeWeight_1 rfl ?_
  refine gg_xcallVv (pc := 2) cx cal_X8_needNode calv_X8_needNode (ct_X8_needNode cx.tr hC v0 h) tw_888 (hC 8 _ rfl v0) rfl rfl rfl (st := []) rfl (Nat.le_of_ble_eq_true rfl) ⟨Nat.le_of_ble_eq_true rfl, Nat.le_of_ble_eq_true rfl⟩ ⟨Nat.le_of_ble_eq_true rfl, Nat.le_of_ble_eq_true rfl⟩ dX8_setNodeWeight_2 hQ hx ⟨Nat.le_of_ble_eq_true rfl, Nat.le_of_ble_eq_true rfl⟩ (fun M2 h => ?_)
  refine gg_iload_n (pc := 5) cx 2 rfl dX8_setNodeWeight_5 rfl ?_
  refine gg_xcallSv (pc := 6) cx cal_X8_needWeight tw_920 (ct_X8_needWeight cx.tr hC  h) tw_919 rfl (st := []) rfl (Nat.le_of_ble_eq_true rfl) ⟨Nat.le_of_ble_eq_true rfl, Nat.le_of_ble_eq_true rfl⟩ ⟨Nat.le_of_ble_eq_true rfl, Nat.le_of_ble_eq_true rfl⟩ dX8_setNodeWeight_6 hQ hx ⟨Nat.le_of_ble_eq_true rfl, Nat.le_of_ble_eq_true rfl⟩ (fun M6 h => ?_)
  refine gg_aload_n (pc := 9) cx 0 rfl dX8_setNodeWeight_9 rfl ?_
  refine gf_Tree_now (pc := 10) cx (hC 8 _ rfl v0) tw_560 dX8_setNodeWeight_10 ?_
  refine gf_World_nodes (pc := 13) cx (hC 7 _ rfl (Nat.le_of_ble_eq_true rfl)) tw_300 dX8_setNodeWeight_13 ?_
  refine gg_iload_n (pc := 16) cx 1 rfl dX8_setNodeWeight_16 rfl ?_
  have q17 := h.1
  have h := h.2
  refine gg_aald (pc := 17) cx (ca := 3) (hC 43 _ rfl (Nat.le_of_ble_eq_true rfl)) rfl rfl q17 rfl dX8_setNodeWeight_17 ?_
  refine gf_Node_weight (pc := 18) cx (hC 3 _ rfl (g_vN (Nat.le_of_ble_eq_true rfl) q17)) tw_259 dX8_setNodeWeight_18 ?_
  refine gg_topi (fun n21 en21 => ?_)
  have h := h n21 en21
  refine gg_istore_n (pc := 21) cx [(3, .int n21), (0, .ref (gAd t 8 o0)), (1, .int x1), (2, .int x2)] dX8_setNodeWeight_21 rfl (by decide) rfl ?_
  refine gg_aload_n (pc := 22) cx 1 rfl dX8_setNodeWeight_22 rfl ?_
  refine gf_Tree_now (pc := 23) cx (hC 8 _ rfl v0) tw_560 dX8_setNodeWeight_23 ?_
  refine gf_World_nodes (pc := 26) cx (hC 7 _ rfl (Nat.le_of_ble_eq_true rfl)) tw_300 dX8_setNodeWeight_26 ?_
  refine gg_iload_n (pc := 29) cx 2 rfl dX8_setNodeWeight_29 rfl ?_
  have q30 := h.1
  have h := h.2
  refine gg_aald (pc := 30) cx (ca := 3) (hC 43 _ rfl (Nat.le_of_ble_eq_true rfl)) rfl rfl q30 rfl dX8_setNodeWeight_30 ?_
  refine gg_iload_n (pc := 31) cx 3 rfl dX8_setNodeWeight_31 rfl ?_
  refine gp_Node_weight (pc := 32) cx (hC 3 _ rfl (g_vN (Nat.le_of_ble_eq_true rfl) q30)) tw_259 dX8_setNodeWeight_32 ?_
  refine gg_mem (fun M32 eM32 => ?_)
  have h := h M32 eM32
  refine gg_iload_n (pc := 35) cx 0 rfl dX8_setNodeWeight_35 rfl ?_
  exact gg_xiret (pc := 36) cx hQ h dX8_setNodeWeight_36
theorem cal_X8_assign : g_Cal yX8_assign cX8_assign 4 (some .int) 2 := ⟨tw_1, tw_936, by decide, by decide, by decide +kernel⟩
theorem calv_X8_assign : g_CalV yX8_assign := ⟨tw_934, tw_935⟩
set_option maxRecDepth 100000 in
set_option maxHeartbeats 4000000 in
theorem ct_X8_assign {l : Launch} (hl : l.stackTraces = false) {t : gT} (hC : g_hC t) {o0 : Nat} {x1 : Int32} {x2 : Int32} (v0 : o0 < 1) {M : gM} {K : Int32 → gM → Prop} {KX : Nat → gM → Prop} (h : wp_X8_assign o0 x1 x2 M K KX) : vx_Met l yX8_assign (g_y yX8_assign cX8_assign 4 (some .int)) rm_X8_assign (va_Pc [.ref (gAd t 8 o0), .int x1, .int x2] (g_Pre t M)) (va_Qi K (g_B t) (g_A t)) (g_XC t KX) rm_X8_assign.cells rm_X8_assign.slots (g_A t) := by
  refine g_xmet hl rfl (Nat.le_of_ble_eq_true rfl) (fun X hlX cx hx hQ => ?_)
  subst hlX
  refine gg_iload_n (pc := 0) cx 1 rfl dX8_assign_0 rfl ?_
  refine gg_xcallSv (pc := 1) cx cal_X8_needFlow tw_916 (ct_X8_needFlow cx.tr hC  h) tw_915 rfl (st := []) rfl (Nat.le_of_ble_eq_true rfl) ⟨Nat.le_of_ble_eq_true rfl, Nat.le_of_ble_eq_true rfl⟩ ⟨Nat.le_of_ble_eq_true rfl, Nat.le_of_ble_eq_true rfl⟩ dX8_assign_1 hQ hx ⟨Nat.le_of_ble_eq_true rfl, Nat.le_of_ble_eq_true rfl⟩ (fun M1 h => ?_)
  refine gg_aload_n (pc := 4) cx 0 rfl dX8_assign_4 rfl ?_
  refine gg_iload_n (pc := 5) cx 2 rfl dX8_assign_5 rfl ?_
  refine gg_xcallVv (pc := 6) cx cal_X8_needNode calv_X8_needNode (ct_X8_needNode cx.tr hC v0 h) tw_888 (hC 8 _ rfl v0) rfl rfl rfl (st := []) rfl (Nat.le_of_ble_eq_true rfl) ⟨Nat.le_of_ble_eq_true rfl, Nat.le_of_ble_eq_true rfl⟩ ⟨Nat.le_of_ble_eq_true rfl, Nat.le_of_ble_eq_true rfl⟩ dX8_assign_6 hQ hx ⟨Nat.le_of_ble_eq_true rfl, Nat.le_of_ble_eq_true rfl⟩ (fun M6 h => ?_)
  refine gg_aload_n (pc := 9) cx 0 rfl dX8_assign_9 rfl ?_
  refine gf_Tree_now (pc := 10) cx (hC 8 _ rfl v0) tw_560 dX8_assign_10 ?_
  refine gf_World_plan (pc := 13) cx (hC 7 _ rfl (Nat.le_of_ble_eq_true rfl)) tw_298 dX8_assign_13 ?_
  refine gg_iload_n (pc := 16) cx 2 rfl dX8_assign_16 rfl ?_
  refine gg_callVi (pc := 17) cx cal_X5_isLeaf calv_X5_isLeaf (ct_X5_isLeaf cx.tr hC (g_v56 (Nat.le_of_ble_eq_true rfl)) h) tw_937 (hC 5 _ rfl (g_v56 (Nat.le_of_ble_eq_true rfl))) rfl rfl rfl (st := []) rfl (Nat.le_of_ble_eq_true rfl) ⟨Nat.le_of_ble_eq_true rfl, Nat.le_of_ble_eq_true rfl⟩ ⟨Nat.le_of_ble_eq_true rfl, Nat.le_of_ble_eq_true rfl⟩ dX8_assign_17 (fun r17 M17 h => ?_)
  refine gg_if_ne (pc := 20) cx (tgt := 33) dX8_assign_20 (by decide) (fun c20 => ?_) (fun c20 => ?_)
  · have h := g_if c20 h
    refine gg_aload_n (pc := 33) cx 0 rfl dX8_assign_33 rfl ?_
    refine gf_Tree_now (pc := 34) cx (hC 8 _ rfl v0) tw_560 dX8_assign_34 ?_
    refine gf_World_flows (pc := 37) cx (hC 7 _ rfl (Nat.le_of_ble_eq_true rfl)) tw_304 dX8_assign_37 ?_
    refine gf_Flows_leaf (pc := 40) cx (hC 1 _ rfl (Nat.le_of_ble_eq_true rfl)) tw_202 dX8_assign_40 ?_
    refine gg_iload_n (pc := 43) cx 1 rfl dX8_assign_43 rfl ?_
    have q44 := h.1
    have h := h.2
    refine gg_iald (pc := 44) cx (hC 13 _ rfl (Nat.le_of_ble_eq_true rfl)) rfl q44 dX8_assign_44 ?_
    refine gg_topi (fun n45 en45 => ?_)
    have h := h n45 en45
    refine gg_istore_n (pc := 45) cx [(3, .int n45), (0, .ref (gAd t 8 o0)), (1, .int x1), (2, .int x2)] dX8_assign_45 rfl (by decide) rfl ?_
    refine gg_aload_n (pc := 46) cx 1 rfl dX8_assign_46 rfl ?_
    refine gf_Tree_now (pc := 47) cx (hC 8 _ rfl v0) tw_560 dX8_assign_47 ?_
    refine gf_World_flows (pc := 50) cx (hC 7 _ rfl (Nat.le_of_ble_eq_true rfl)) tw_304 dX8_assign_50 ?_
    refine gf_Flows_leaf (pc := 53) cx (hC 1 _ rfl (Nat.le_of_ble_eq_true rfl)) tw_202 dX8_assign_53 ?_
    refine gg_iload_n (pc := 56) cx 2 rfl dX8_assign_56 rfl ?_
    refine gg_iload_n (pc := 57) cx 3 rfl dX8_assign_57 rfl ?_
    have q58 := h.1
    have h := h.2
    refine gg_iast (pc := 58) cx (hC 13 _ rfl (Nat.le_of_ble_eq_true rfl)) (fun _ _ => rfl) q58 dX8_assign_58 ?_
    refine gg_mem (fun M58 eM58 => ?_)
    have h := h M58 eM58
    refine gg_iload_n (pc := 59) cx 0 rfl dX8_assign_59 rfl ?_
    refine gg_wide (k' := rm_X8_assign.cells) (n' := rm_X8_assign.slots) (Nat.le_of_ble_eq_true rfl) (Nat.le_of_ble_eq_true rfl) ?_
    exact gg_xiret (pc := 60) cx hQ h dX8_assign_60
  · have h := g_it c20 h
    exact gg_throw (pc := 23) cx hQ hx g_thr0 tw_766 (g_st15 cx.T) (Nat.le_of_ble_eq_true rfl) (Nat.le_of_ble_eq_true rfl) ⟨Nat.le_of_ble_eq_true rfl, Nat.le_of_ble_eq_true rfl⟩ ⟨Nat.le_of_ble_eq_true rfl, Nat.le_of_ble_eq_true rfl⟩ dX8_assign_23 dX8_assign_26 dX8_assign_27 dX8_assign_29 dX8_assign_32 h
theorem cal_X8_leafOf : g_Cal yX8_leafOf cX8_leafOf 2 (some .int) 1 := ⟨tw_1, tw_945, by decide, by decide, by decide +kernel⟩
theorem calv_X8_leafOf : g_CalV yX8_leafOf := ⟨tw_943, tw_944⟩
set_option maxRecDepth 100000 in
set_option maxHeartbeats 4000000 in
theorem ct_X8_leafOf {l : Launch} (hl : l.stackTraces = false) {t : gT} (hC : g_hC t) {o0 : Nat} {x1 : Int32} (v0 : o0 < 1) {M : gM} {K : Int32 → gM → Prop} {KX : Nat → gM → Prop} (h : wp_X8_leafOf o0 x1 M K KX) : vx_Met l yX8_leafOf (g_y yX8_leafOf cX8_leafOf 2 (some .int)) rm_X8_leafOf (va_Pc [.ref (gAd t 8 o0), .int x1] (g_Pre t M)) (va_Qi K (g_B t) (g_A t)) (g_XC t KX) rm_X8_leafOf.cells rm_X8_leafOf.slots (g_A t) := by
  refine g_xmet hl rfl (Nat.le_of_ble_eq_true rfl) (fun X hlX cx hx hQ => ?_)
  subst hlX
  refine gg_iload_n (pc := 0) cx 1 rfl dX8_leafOf_0 rfl ?_
  refine gg_xcallSv (pc := 1) cx cal_X8_needFlow tw_916 (ct_X8_needFlow cx.tr hC  h) tw_915 rfl (st := []) rfl (Nat.le_of_ble_eq_true rfl) ⟨Nat.le_of_ble_eq_true rfl, Nat.le_of_ble_eq_true rfl⟩ ⟨Nat.le_of_ble_eq_true rfl, Nat.le_of_ble_eq_true rfl⟩ dX8_leafOf_1 hQ hx ⟨Nat.le_of_ble_eq_true rfl, Nat.le_of_ble_eq_true rfl⟩ (fun M1 h => ?_)
  refine gg_aload_n (pc := 4) cx 0 rfl dX8_leafOf_4 rfl ?_
  refine gf_Tree_now (pc := 5) cx (hC 8 _ rfl v0) tw_560 dX8_leafOf_5 ?_
  refine gf_World_flows (pc := 8) cx (hC 7 _ rfl (Nat.le_of_ble_eq_true rfl)) tw_304 dX8_leafOf_8 ?_
  refine gf_Flows_leaf (pc := 11) cx (hC 1 _ rfl (Nat.le_of_ble_eq_true rfl)) tw_202 dX8_leafOf_11 ?_
  refine gg_iload_n (pc := 14) cx 1 rfl dX8_leafOf_14 rfl ?_
  have q15 := h.1
  have h := h.2
  refine gg_iald (pc := 15) cx (hC 13 _ rfl (Nat.le_of_ble_eq_true rfl)) rfl q15 dX8_leafOf_15 ?_
  exact gg_xiret (pc := 16) cx hQ h dX8_leafOf_16
set_option maxRecDepth 100000 in
set_option maxHeartbeats 4000000 in
theorem wk_X8_setLinkRate_b12 {t : gT} {X : gX} (cx : g_Cx t X cX8_setLinkRate 3 RX8 (some .int)) (hC : g_hC t) {K : Int32 → gM → Prop} {KX : Nat → gM → Prop} (hQ : gXQ X = vx_MQ (gXb X) (va_Qi K (g_B t) (g_A t)) (g_XC t KX) (gXa X) (gXs X) rm_X8_setLinkRate.cells rm_X8_setLinkRate.slots (g_A t)) (hx : ∀ x ∈ (gXc X).exceptionTable.toList, False)  {M : gM}  (h : wp_X8_setLinkRate_b12 K KX  M) : G t rm_X8_setLinkRate X 3 0 0 M [] [] 12 := by
  exact gg_throw (pc := 12) cx hQ hx g_thr0 tw_766 (g_st16 cx.T) (Nat.le_of_ble_eq_true rfl) (Nat.le_of_ble_eq_true rfl) ⟨Nat.le_of_ble_eq_true rfl, Nat.le_of_ble_eq_true rfl⟩ ⟨Nat.le_of_ble_eq_true rfl, Nat.le_of_ble_eq_true rfl⟩ dX8_setLinkRate_12 dX8_setLinkRate_15 dX8_setLinkRate_16 dX8_setLinkRate_18 dX8_setLinkRate_21 h
theorem cal_X8_setLinkRate : g_Cal yX8_setLinkRate cX8_setLinkRate 3 (some .int) 1 := ⟨tw_1, tw_952, by decide, by decide, by decide +kernel⟩
theorem calv_X8_setLinkRate : g_CalV yX8_setLinkRate := ⟨tw_950, tw_951⟩
set_option maxRecDepth 100000 in
set_option maxHeartbeats 4000000 in
theorem ct_X8_setLinkRate {l : Launch} (hl : l.stackTraces = false) {t : gT} (hC : g_hC t) {o0 : Nat} {x1 : Int32} (v0 : o0 < 1) {M : gM} {K : Int32 → gM → Prop} {KX : Nat → gM → Prop} (h : wp_X8_setLinkRate o0 x1 M K KX) : vx_Met l yX8_setLinkRate (g_y yX8_setLinkRate cX8_setLinkRate 3 (some .int)) rm_X8_setLinkRate (va_Pc [.ref (gAd t 8 o0), .int x1] (g_Pre t M)) (va_Qi K (g_B t) (g_A t)) (g_XC t KX) rm_X8_setLinkRate.cells rm_X8_setLinkRate.slots (g_A t) := by
  refine g_xmet hl rfl (Nat.le_of_ble_eq_true rfl) (fun X hlX cx hx hQ => ?_)
  subst hlX
  refine gg_iload_n (pc := 0) cx 1 rfl dX8_setLinkRate_0 rfl ?_
  refine gg_iconst (pc := 1) cx (v := 1) dX8_setLinkRate_1 (by decide) ?_
  refine gg_icmp_lt (pc := 2) cx (tgt := 12) dX8_setLinkRate_2 (by decide) (fun c2 => ?_) (fun c2 => ?_)
  · have h := g_it c2 h
    refine gg_lv (lv' := []) [] rfl ?_
    exact wk_X8_setLinkRate_b12 cx hC hQ hx  h
  · have h := g_if c2 h
    refine gg_iload_n (pc := 5) cx 1 rfl dX8_setLinkRate_5 rfl ?_
    refine gg_sipush (pc := 6) cx (v := 9999) dX8_setLinkRate_6 (by decide) ?_
    refine gg_icmp_le (pc := 9) cx (tgt := 22) dX8_setLinkRate_9 (by decide) (fun c9 => ?_) (fun c9 => ?_)
    · have h := g_it c9 h
      refine gg_aload_n (pc := 22) cx 0 rfl dX8_setLinkRate_22 rfl ?_
      refine gf_Tree_now (pc := 23) cx (hC 8 _ rfl v0) tw_560 dX8_setLinkRate_23 ?_
      refine gf_World_linkRate (pc := 26) cx (hC 7 _ rfl (Nat.le_of_ble_eq_true rfl)) tw_296 dX8_setLinkRate_26 ?_
      refine gg_topi (fun n29 en29 => ?_)
      have h := h n29 en29
      refine gg_istore_n (pc := 29) cx [(2, .int n29), (0, .ref (gAd t 8 o0)), (1, .int x1)] dX8_setLinkRate_29 rfl (by decide) rfl ?_
      refine gg_aload_n (pc := 30) cx 1 rfl dX8_setLinkRate_30 rfl ?_
      refine gf_Tree_now (pc := 31) cx (hC 8 _ rfl v0) tw_560 dX8_setLinkRate_31 ?_
      refine gg_iload_n (pc := 34) cx 2 rfl dX8_setLinkRate_34 rfl ?_
      refine gp_World_linkRate (pc := 35) cx (hC 7 _ rfl (Nat.le_of_ble_eq_true rfl)) tw_296 dX8_setLinkRate_35 ?_
      refine gg_mem (fun M35 eM35 => ?_)
      have h := h M35 eM35
      refine gg_iload_n (pc := 38) cx 0 rfl dX8_setLinkRate_38 rfl ?_
      refine gg_wide (k' := rm_X8_setLinkRate.cells) (n' := rm_X8_setLinkRate.slots) (Nat.le_of_ble_eq_true rfl) (Nat.le_of_ble_eq_true rfl) ?_
      exact gg_xiret (pc := 39) cx hQ h dX8_setLinkRate_39
    · have h := g_if c9 h
      refine gg_lv (lv' := []) [] rfl ?_
      exact wk_X8_setLinkRate_b12 cx hC hQ hx  h
set_option maxRecDepth 100000 in
set_option maxHeartbeats 4000000 in
theorem wk_X8_needPacketValues_b55 {t : gT} {X : gX} (cx : g_Cx t X cX8_needPacketValues 3 RX8 (none)) (hC : g_hC t) {K : gM → Prop} {KX : Nat → gM → Prop} (hQ : gXQ X = vx_MQ (gXb X) (va_Qv K (g_B t) (g_A t)) (g_XC t KX) (gXa X) (gXs X) rm_X8_needPacketValues.cells rm_X8_needPacketValues.slots (g_A t)) (hx : ∀ x ∈ (gXc X).exceptionTable.toList, False)  {M : gM}  (h : wp_X8_needPacketValues_b55 K KX  M) : G t rm_X8_needPacketValues X 3 0 0 M [] [] 55 := by
  refine gg_wide (k' := 2) (n' := 12) (Nat.le_of_ble_eq_true rfl) (Nat.le_of_ble_eq_true rfl) ?_
  exact gg_throwW (pc := 55) cx hQ hx g_thr0 tw_766 (g_st19 cx.T) (Nat.le_of_ble_eq_true rfl) (Nat.le_of_ble_eq_true rfl) ⟨Nat.le_of_ble_eq_true rfl, Nat.le_of_ble_eq_true rfl⟩ ⟨Nat.le_of_ble_eq_true rfl, Nat.le_of_ble_eq_true rfl⟩ dX8_needPacketValues_55 dX8_needPacketValues_58 dX8_needPacketValues_59 dX8_needPacketValues_62 dX8_needPacketValues_65 h
set_option maxRecDepth 100000 in
set_option maxHeartbeats 4000000 in
theorem wk_X8_needPacketValues_b33 {t : gT} {X : gX} (cx : g_Cx t X cX8_needPacketValues 3 RX8 (none)) (hC : g_hC t) {K : gM → Prop} {KX : Nat → gM → Prop} (hQ : gXQ X = vx_MQ (gXb X) (va_Qv K (g_B t) (g_A t)) (g_XC t KX) (gXa X) (gXs X) rm_X8_needPacketValues.cells rm_X8_needPacketValues.slots (g_A t)) (hx : ∀ x ∈ (gXc X).exceptionTable.toList, False)  {M : gM}  (h : wp_X8_needPacketValues_b33 K KX  M) : G t rm_X8_needPacketValues X 3 0 0 M [] [] 33 := by
  refine gg_wide (k' := 2) (n' := 12) (Nat.le_of_ble_eq_true rfl) (Nat.le_of_ble_eq_true rfl) ?_
  exact gg_throwW (pc := 33) cx hQ hx g_thr0 tw_766 (g_st18 cx.T) (Nat.le_of_ble_eq_true rfl) (Nat.le_of_ble_eq_true rfl) ⟨Nat.le_of_ble_eq_true rfl, Nat.le_of_ble_eq_true rfl⟩ ⟨Nat.le_of_ble_eq_true rfl, Nat.le_of_ble_eq_true rfl⟩ dX8_needPacketValues_33 dX8_needPacketValues_36 dX8_needPacketValues_37 dX8_needPacketValues_40 dX8_needPacketValues_43 h
set_option maxRecDepth 100000 in
set_option maxHeartbeats 4000000 in
theorem wk_X8_needPacketValues_b12 {t : gT} {X : gX} (cx : g_Cx t X cX8_needPacketValues 3 RX8 (none)) (hC : g_hC t) {K : gM → Prop} {KX : Nat → gM → Prop} (hQ : gXQ X = vx_MQ (gXb X) (va_Qv K (g_B t) (g_A t)) (g_XC t KX) (gXa X) (gXs X) rm_X8_needPacketValues.cells rm_X8_needPacketValues.slots (g_A t)) (hx : ∀ x ∈ (gXc X).exceptionTable.toList, False)  {M : gM}  (h : wp_X8_needPacketValues_b12 K KX  M) : G t rm_X8_needPacketValues X 3 0 0 M [] [] 12 := by
  refine gg_wide (k' := 2) (n' := 12) (Nat.le_of_ble_eq_true rfl) (Nat.le_of_ble_eq_true rfl) ?_
  exact gg_throwW (pc := 12) cx hQ hx g_thr0 tw_766 (g_st17 cx.T) (Nat.le_of_ble_eq_true rfl) (Nat.le_of_ble_eq_true rfl) ⟨Nat.le_of_ble_eq_true rfl, Nat.le_of_ble_eq_true rfl⟩ ⟨Nat.le_of_ble_eq_true rfl, Nat.le_of_ble_eq_true rfl⟩ dX8_needPacketValues_12 dX8_needPacketValues_15 dX8_needPacketValues_16 dX8_needPacketValues_19 dX8_needPacketValues_22 h
theorem cal_X8_needPacketValues : g_Cal yX8_needPacketValues cX8_needPacketValues 3 (none) 3 := ⟨tw_1, tw_963, by decide, by decide, by decide +kernel⟩
set_option maxRecDepth 100000 in
set_option maxHeartbeats 4000000 in
theorem ct_X8_needPacketValues {l : Launch} (hl : l.stackTraces = false) {t : gT} (hC : g_hC t) {x0 : Int32} {x1 : Int32} {x2 : Int32}  {M : gM} {K : gM → Prop} {KX : Nat → gM → Prop} (h : wp_X8_needPacketValues x0 x1 x2 M K KX) : vx_Met l yX8_needPacketValues (g_y yX8_needPacketValues cX8_needPacketValues 3 (none)) rm_X8_needPacketValues (va_Pc [.int x0, .int x1, .int x2] (g_Pre t M)) (va_Qv K (g_B t) (g_A t)) (g_XC t KX) rm_X8_needPacketValues.cells rm_X8_needPacketValues.slots (g_A t) := by
  refine g_xmet hl rfl (Nat.le_of_ble_eq_true rfl) (fun X hlX cx hx hQ => ?_)
  subst hlX
  refine gg_iload_n (pc := 0) cx 0 rfl dX8_needPacketValues_0 rfl ?_
  refine gg_iconst (pc := 1) cx (v := 1) dX8_needPacketValues_1 (by decide) ?_
  refine gg_icmp_lt (pc := 2) cx (tgt := 12) dX8_needPacketValues_2 (by decide) (fun c2 => ?_) (fun c2 => ?_)
  · have h := g_it c2 h
    refine gg_lv (lv' := []) [] rfl ?_
    exact wk_X8_needPacketValues_b12 cx hC hQ hx  h
  · have h := g_if c2 h
    refine gg_iload_n (pc := 5) cx 0 rfl dX8_needPacketValues_5 rfl ?_
    refine gg_sipush (pc := 6) cx (v := 1500) dX8_needPacketValues_6 (by decide) ?_
    refine gg_icmp_le (pc := 9) cx (tgt := 23) dX8_needPacketValues_9 (by decide) (fun c9 => ?_) (fun c9 => ?_)
    · have h := g_it c9 h
      refine gg_iload_n (pc := 23) cx 1 rfl dX8_needPacketValues_23 rfl ?_
      refine gg_if_lt (pc := 24) cx (tgt := 33) dX8_needPacketValues_24 (by decide) (fun c24 => ?_) (fun c24 => ?_)
      · have h := g_it c24 h
        refine gg_lv (lv' := []) [] rfl ?_
        exact wk_X8_needPacketValues_b33 cx hC hQ hx  h
      · have h := g_if c24 h
        refine gg_iload_n (pc := 27) cx 1 rfl dX8_needPacketValues_27 rfl ?_
        refine gg_bipush (pc := 28) cx (v := 9) dX8_needPacketValues_28 (by decide) ?_
        refine gg_icmp_le (pc := 30) cx (tgt := 44) dX8_needPacketValues_30 (by decide) (fun c30 => ?_) (fun c30 => ?_)
        · have h := g_it c30 h
          refine gg_iload_n (pc := 44) cx 2 rfl dX8_needPacketValues_44 rfl ?_
          refine gg_if_lt (pc := 45) cx (tgt := 55) dX8_needPacketValues_45 (by decide) (fun c45 => ?_) (fun c45 => ?_)
          · have h := g_it c45 h
            refine gg_lv (lv' := []) [] rfl ?_
            exact wk_X8_needPacketValues_b55 cx hC hQ hx  h
          · have h := g_if c45 h
            refine gg_iload_n (pc := 48) cx 2 rfl dX8_needPacketValues_48 rfl ?_
            refine gg_ldc_w (pc := 49) cx (v := 1000000) tw_966 dX8_needPacketValues_49 ?_
            refine gg_icmp_le (pc := 52) cx (tgt := 66) dX8_needPacketValues_52 (by decide) (fun c52 => ?_) (fun c52 => ?_)
            · have h := g_it c52 h
              refine gg_wide (k' := rm_X8_needPacketValues.cells) (n' := rm_X8_needPacketValues.slots) (Nat.le_of_ble_eq_true rfl) (Nat.le_of_ble_eq_true rfl) ?_
              exact gg_xvret (pc := 66) cx hQ h dX8_needPacketValues_66
            · have h := g_if c52 h
              refine gg_lv (lv' := []) [] rfl ?_
              exact wk_X8_needPacketValues_b55 cx hC hQ hx  h
        · have h := g_if c30 h
          refine gg_lv (lv' := []) [] rfl ?_
          exact wk_X8_needPacketValues_b33 cx hC hQ hx  h
    · have h := g_if c9 h
      refine gg_lv (lv' := []) [] rfl ?_
      exact wk_X8_needPacketValues_b12 cx hC hQ hx  h
theorem cal_X8_enqueue : g_Cal yX8_enqueue cX8_enqueue 5 (some .int) 4 := ⟨tw_1, tw_960, by decide, by decide, by decide +kernel⟩
theorem calv_X8_enqueue : g_CalV yX8_enqueue := ⟨tw_958, tw_959⟩
set_option maxRecDepth 100000 in
set_option maxHeartbeats 4000000 in
theorem ct_X8_enqueue {l : Launch} (hl : l.stackTraces = false) {t : gT} (hC : g_hC t) {o0 : Nat} {x1 : Int32} {x2 : Int32} {x3 : Int32} {x4 : Int32} (v0 : o0 < 1) {M : gM} {K : Int32 → gM → Prop} {KX : Nat → gM → Prop} (h : wp_X8_enqueue o0 x1 x2 x3 x4 M K KX) : vx_Met l yX8_enqueue (g_y yX8_enqueue cX8_enqueue 5 (some .int)) rm_X8_enqueue (va_Pc [.ref (gAd t 8 o0), .int x1, .int x2, .int x3, .int x4] (g_Pre t M)) (va_Qi K (g_B t) (g_A t)) (g_XC t KX) rm_X8_enqueue.cells rm_X8_enqueue.slots (g_A t) := by
  refine g_xmet hl rfl (Nat.le_of_ble_eq_true rfl) (fun X hlX cx hx hQ => ?_)
  subst hlX
  refine gg_iload_n (pc := 0) cx 1 rfl dX8_enqueue_0 rfl ?_
  refine gg_xcallSv (pc := 1) cx cal_X8_needFlow tw_916 (ct_X8_needFlow cx.tr hC  h) tw_915 rfl (st := []) rfl (Nat.le_of_ble_eq_true rfl) ⟨Nat.le_of_ble_eq_true rfl, Nat.le_of_ble_eq_true rfl⟩ ⟨Nat.le_of_ble_eq_true rfl, Nat.le_of_ble_eq_true rfl⟩ dX8_enqueue_1 hQ hx ⟨Nat.le_of_ble_eq_true rfl, Nat.le_of_ble_eq_true rfl⟩ (fun M1 h => ?_)
  refine gg_iload_n (pc := 4) cx 2 rfl dX8_enqueue_4 rfl ?_
  refine gg_iload_n (pc := 5) cx 3 rfl dX8_enqueue_5 rfl ?_
  refine gg_iload (pc := 6) cx 4 rfl dX8_enqueue_6 ?_
  refine gg_xcallSv (pc := 8) cx cal_X8_needPacketValues tw_962 (ct_X8_needPacketValues cx.tr hC  h) tw_961 rfl (st := []) rfl (Nat.le_of_ble_eq_true rfl) ⟨Nat.le_of_ble_eq_true rfl, Nat.le_of_ble_eq_true rfl⟩ ⟨Nat.le_of_ble_eq_true rfl, Nat.le_of_ble_eq_true rfl⟩ dX8_enqueue_8 hQ hx ⟨Nat.le_of_ble_eq_true rfl, Nat.le_of_ble_eq_true rfl⟩ (fun M8 h => ?_)
  refine gg_aload_n (pc := 11) cx 0 rfl dX8_enqueue_11 rfl ?_
  refine gf_Tree_now (pc := 12) cx (hC 8 _ rfl v0) tw_560 dX8_enqueue_12 ?_
  refine gg_callVi (pc := 15) cx cal_X7_countWaiting calv_X7_countWaiting (ct_X7_countWaiting cx.tr hC (Nat.le_of_ble_eq_true rfl) h) tw_741 (hC 7 _ rfl (Nat.le_of_ble_eq_true rfl)) rfl rfl rfl (st := []) rfl (Nat.le_of_ble_eq_true rfl) ⟨Nat.le_of_ble_eq_true rfl, Nat.le_of_ble_eq_true rfl⟩ ⟨Nat.le_of_ble_eq_true rfl, Nat.le_of_ble_eq_true rfl⟩ dX8_enqueue_15 (fun r15 M15 h => ?_)
  refine gg_bipush (pc := 18) cx (v := 64) dX8_enqueue_18 (by decide) ?_
  refine gg_icmp_lt (pc := 20) cx (tgt := 33) dX8_enqueue_20 (by decide) (fun c20 => ?_) (fun c20 => ?_)
  · have h := g_it c20 h
    refine gg_aload_n (pc := 33) cx 0 rfl dX8_enqueue_33 rfl ?_
    refine gf_Tree_now (pc := 34) cx (hC 8 _ rfl v0) tw_560 dX8_enqueue_34 ?_
    refine gf_World_packets (pc := 37) cx (hC 7 _ rfl (Nat.le_of_ble_eq_true rfl)) tw_302 dX8_enqueue_37 ?_
    refine gf_Packets_arrived (pc := 40) cx (hC 4 _ rfl (Nat.le_of_ble_eq_true rfl)) tw_160 dX8_enqueue_40 ?_
    refine gg_sipush (pc := 43) cx (v := 500) dX8_enqueue_43 (by decide) ?_
    refine gg_icmp_lt (pc := 46) cx (tgt := 59) dX8_enqueue_46 (by decide) (fun c46 => ?_) (fun c46 => ?_)
    · have h := g_it c46 h
      refine gg_aload_n (pc := 59) cx 0 rfl dX8_enqueue_59 rfl ?_
      refine gf_Tree_now (pc := 60) cx (hC 8 _ rfl v0) tw_560 dX8_enqueue_60 ?_
      refine gg_iload_n (pc := 63) cx 1 rfl dX8_enqueue_63 rfl ?_
      refine gg_iload_n (pc := 64) cx 2 rfl dX8_enqueue_64 rfl ?_
      refine gg_iload_n (pc := 65) cx 3 rfl dX8_enqueue_65 rfl ?_
      refine gg_iload (pc := 66) cx 4 rfl dX8_enqueue_66 ?_
      refine gg_callVi (pc := 68) cx cal_X7_arrive calv_X7_arrive (ct_X7_arrive cx.tr hC (Nat.le_of_ble_eq_true rfl) h) tw_970 (hC 7 _ rfl (Nat.le_of_ble_eq_true rfl)) rfl rfl rfl (st := []) rfl (Nat.le_of_ble_eq_true rfl) ⟨Nat.le_of_ble_eq_true rfl, Nat.le_of_ble_eq_true rfl⟩ ⟨Nat.le_of_ble_eq_true rfl, Nat.le_of_ble_eq_true rfl⟩ dX8_enqueue_68 (fun r68 M68 h => ?_)
      refine gg_wide (k' := rm_X8_enqueue.cells) (n' := rm_X8_enqueue.slots) (Nat.le_of_ble_eq_true rfl) (Nat.le_of_ble_eq_true rfl) ?_
      exact gg_xiret (pc := 71) cx hQ h dX8_enqueue_71
    · have h := g_if c46 h
      refine gg_wide (k' := 5) (n' := 30) (Nat.le_of_ble_eq_true rfl) (Nat.le_of_ble_eq_true rfl) ?_
      exact gg_throw (pc := 49) cx hQ hx g_thr1 tw_833 (g_st21 cx.T) (Nat.le_of_ble_eq_true rfl) (Nat.le_of_ble_eq_true rfl) ⟨Nat.le_of_ble_eq_true rfl, Nat.le_of_ble_eq_true rfl⟩ ⟨Nat.le_of_ble_eq_true rfl, Nat.le_of_ble_eq_true rfl⟩ dX8_enqueue_49 dX8_enqueue_52 dX8_enqueue_53 dX8_enqueue_55 dX8_enqueue_58 h
  · have h := g_if c20 h
    refine gg_wide (k' := 5) (n' := 30) (Nat.le_of_ble_eq_true rfl) (Nat.le_of_ble_eq_true rfl) ?_
    exact gg_throw (pc := 23) cx hQ hx g_thr1 tw_833 (g_st20 cx.T) (Nat.le_of_ble_eq_true rfl) (Nat.le_of_ble_eq_true rfl) ⟨Nat.le_of_ble_eq_true rfl, Nat.le_of_ble_eq_true rfl⟩ ⟨Nat.le_of_ble_eq_true rfl, Nat.le_of_ble_eq_true rfl⟩ dX8_enqueue_23 dX8_enqueue_26 dX8_enqueue_27 dX8_enqueue_29 dX8_enqueue_32 h
theorem cal_X8_dequeue : g_Cal yX8_dequeue cX8_dequeue 2 (some .int) 0 := ⟨tw_1, tw_609, by decide, by decide, by decide +kernel⟩
theorem calv_X8_dequeue : g_CalV yX8_dequeue := ⟨tw_607, tw_608⟩
set_option maxRecDepth 100000 in
set_option maxHeartbeats 4000000 in
theorem ct_X8_dequeue {l : Launch} (hl : l.stackTraces = false) {t : gT} (hC : g_hC t) {o0 : Nat} (v0 : o0 < 1) {M : gM} {K : Int32 → gM → Prop} (h : wp_X8_dequeue o0 M K) : Met l yX8_dequeue (g_y yX8_dequeue cX8_dequeue 2 (some .int)) rm_X8_dequeue (va_Pc [.ref (gAd t 8 o0)] (g_Pre t M)) (va_Qi K (g_B t) (g_A t)) rm_X8_dequeue.cells rm_X8_dequeue.slots (g_A t) := by
  refine g_met hl rfl (Nat.le_of_ble_eq_true rfl) (fun X hlX cx hQ => ?_)
  subst hlX
  refine gg_aload_n (pc := 0) cx 0 rfl dX8_dequeue_0 rfl ?_
  refine gf_Tree_now (pc := 1) cx (hC 8 _ rfl v0) tw_560 dX8_dequeue_1 ?_
  refine gg_callVi (pc := 4) cx cal_X7_leave calv_X7_leave (ct_X7_leave cx.tr hC (Nat.le_of_ble_eq_true rfl) h) tw_610 (hC 7 _ rfl (Nat.le_of_ble_eq_true rfl)) rfl rfl rfl (st := []) rfl (Nat.le_of_ble_eq_true rfl) ⟨Nat.le_of_ble_eq_true rfl, Nat.le_of_ble_eq_true rfl⟩ ⟨Nat.le_of_ble_eq_true rfl, Nat.le_of_ble_eq_true rfl⟩ dX8_dequeue_4 (fun r4 M4 h => ?_)
  refine gg_istore_n (pc := 7) cx [(1, .int r4), (0, .ref (gAd t 8 o0))] dX8_dequeue_7 rfl (by decide) rfl ?_
  refine gg_aload_n (pc := 8) cx 1 rfl dX8_dequeue_8 rfl ?_
  refine gf_Tree_now (pc := 9) cx (hC 8 _ rfl v0) tw_560 dX8_dequeue_9 ?_
  refine gg_iload_n (pc := 12) cx 0 rfl dX8_dequeue_12 rfl ?_
  refine gg_aload_n (pc := 13) cx 1 rfl dX8_dequeue_13 rfl ?_
  refine gf_Tree_now (pc := 14) cx (hC 8 _ rfl v0) tw_560 dX8_dequeue_14 ?_
  refine gf_World_time (pc := 17) cx (hC 7 _ rfl (Nat.le_of_ble_eq_true rfl)) tw_294 dX8_dequeue_17 ?_
  refine gg_callVv (pc := 20) cx cal_X7_depart calv_X7_depart (ct_X7_depart cx.tr hC (Nat.le_of_ble_eq_true rfl) h) tw_621 (hC 7 _ rfl (Nat.le_of_ble_eq_true rfl)) rfl rfl rfl (st := []) rfl (Nat.le_of_ble_eq_true rfl) ⟨Nat.le_of_ble_eq_true rfl, Nat.le_of_ble_eq_true rfl⟩ ⟨Nat.le_of_ble_eq_true rfl, Nat.le_of_ble_eq_true rfl⟩ dX8_dequeue_20 (fun M20 h => ?_)
  refine gg_iload_n (pc := 23) cx 0 rfl dX8_dequeue_23 rfl ?_
  exact gg_iret (pc := 24) cx hQ h dX8_dequeue_24
theorem cal_X8_transmit : g_Cal yX8_transmit cX8_transmit 1 (some .int) 0 := ⟨tw_1, tw_639, by decide, by decide, by decide +kernel⟩
theorem calv_X8_transmit : g_CalV yX8_transmit := ⟨tw_637, tw_638⟩
set_option maxRecDepth 100000 in
set_option maxHeartbeats 4000000 in
theorem ct_X8_transmit {l : Launch} (hl : l.stackTraces = false) {t : gT} (hC : g_hC t) {o0 : Nat} (v0 : o0 < 1) {M : gM} {K : Int32 → gM → Prop} (h : wp_X8_transmit o0 M K) : Met l yX8_transmit (g_y yX8_transmit cX8_transmit 1 (some .int)) rm_X8_transmit (va_Pc [.ref (gAd t 8 o0)] (g_Pre t M)) (va_Qi K (g_B t) (g_A t)) rm_X8_transmit.cells rm_X8_transmit.slots (g_A t) := by
  refine g_met hl rfl (Nat.le_of_ble_eq_true rfl) (fun X hlX cx hQ => ?_)
  subst hlX
  refine gg_aload_n (pc := 0) cx 0 rfl dX8_transmit_0 rfl ?_
  refine gf_Tree_now (pc := 1) cx (hC 8 _ rfl v0) tw_560 dX8_transmit_1 ?_
  refine gg_callVi (pc := 4) cx cal_X7_send calv_X7_send (ct_X7_send cx.tr hC (Nat.le_of_ble_eq_true rfl) h) tw_640 (hC 7 _ rfl (Nat.le_of_ble_eq_true rfl)) rfl rfl rfl (st := []) rfl (Nat.le_of_ble_eq_true rfl) ⟨Nat.le_of_ble_eq_true rfl, Nat.le_of_ble_eq_true rfl⟩ ⟨Nat.le_of_ble_eq_true rfl, Nat.le_of_ble_eq_true rfl⟩ dX8_transmit_4 (fun r4 M4 h => ?_)
  exact gg_iret (pc := 7) cx hQ h dX8_transmit_7
theorem cal_X8_advance : g_Cal yX8_advance cX8_advance 2 (some .int) 1 := ⟨tw_1, tw_989, by decide, by decide, by decide +kernel⟩
theorem calv_X8_advance : g_CalV yX8_advance := ⟨tw_987, tw_988⟩
set_option maxRecDepth 100000 in
set_option maxHeartbeats 4000000 in
theorem ct_X8_advance {l : Launch} (hl : l.stackTraces = false) {t : gT} (hC : g_hC t) {o0 : Nat} {x1 : Int32} (v0 : o0 < 1) {M : gM} {K : Int32 → gM → Prop} {KX : Nat → gM → Prop} (h : wp_X8_advance o0 x1 M K KX) : vx_Met l yX8_advance (g_y yX8_advance cX8_advance 2 (some .int)) rm_X8_advance (va_Pc [.ref (gAd t 8 o0), .int x1] (g_Pre t M)) (va_Qi K (g_B t) (g_A t)) (g_XC t KX) rm_X8_advance.cells rm_X8_advance.slots (g_A t) := by
  refine g_xmet hl rfl (Nat.le_of_ble_eq_true rfl) (fun X hlX cx hx hQ => ?_)
  subst hlX
  refine gg_iload_n (pc := 0) cx 1 rfl dX8_advance_0 rfl ?_
  refine gg_if_ge (pc := 1) cx (tgt := 14) dX8_advance_1 (by decide) (fun c1 => ?_) (fun c1 => ?_)
  · have h := g_it c1 h
    refine gg_aload_n (pc := 14) cx 0 rfl dX8_advance_14 rfl ?_
    refine gf_Tree_now (pc := 15) cx (hC 8 _ rfl v0) tw_560 dX8_advance_15 ?_
    refine gg_aload_n (pc := 18) cx 0 rfl dX8_advance_18 rfl ?_
    refine gf_Tree_now (pc := 19) cx (hC 8 _ rfl v0) tw_560 dX8_advance_19 ?_
    refine gf_World_time (pc := 22) cx (hC 7 _ rfl (Nat.le_of_ble_eq_true rfl)) tw_294 dX8_advance_22 ?_
    refine gg_iload_n (pc := 25) cx 1 rfl dX8_advance_25 rfl ?_
    refine gg_i2l (pc := 26) cx dX8_advance_26 ?_
    refine gg_ladd (pc := 27) cx dX8_advance_27 ?_
    refine gg_callVi (pc := 28) cx cal_X7_passUntil calv_X7_passUntil (ct_X7_passUntil cx.tr hC (Nat.le_of_ble_eq_true rfl) h) tw_991 (hC 7 _ rfl (Nat.le_of_ble_eq_true rfl)) rfl rfl rfl (st := []) rfl (Nat.le_of_ble_eq_true rfl) ⟨Nat.le_of_ble_eq_true rfl, Nat.le_of_ble_eq_true rfl⟩ ⟨Nat.le_of_ble_eq_true rfl, Nat.le_of_ble_eq_true rfl⟩ dX8_advance_28 (fun r28 M28 h => ?_)
    refine gg_wide (k' := rm_X8_advance.cells) (n' := rm_X8_advance.slots) (Nat.le_of_ble_eq_true rfl) (Nat.le_of_ble_eq_true rfl) ?_
    exact gg_xiret (pc := 31) cx hQ h dX8_advance_31
  · have h := g_if c1 h
    exact gg_throw (pc := 4) cx hQ hx g_thr0 tw_766 (g_st22 cx.T) (Nat.le_of_ble_eq_true rfl) (Nat.le_of_ble_eq_true rfl) ⟨Nat.le_of_ble_eq_true rfl, Nat.le_of_ble_eq_true rfl⟩ ⟨Nat.le_of_ble_eq_true rfl, Nat.le_of_ble_eq_true rfl⟩ dX8_advance_4 dX8_advance_7 dX8_advance_8 dX8_advance_10 dX8_advance_13 h
theorem cal_X8_time : g_Cal yX8_time cX8_time 1 (some .long) 0 := ⟨tw_1, tw_722, by decide, by decide, by decide +kernel⟩
theorem calv_X8_time : g_CalV yX8_time := ⟨tw_720, tw_721⟩
set_option maxRecDepth 100000 in
set_option maxHeartbeats 4000000 in
theorem ct_X8_time {l : Launch} (hl : l.stackTraces = false) {t : gT} (hC : g_hC t) {o0 : Nat} (v0 : o0 < 1) {M : gM} {K : Int64 → gM → Prop} (h : wp_X8_time o0 M K) : Met l yX8_time (g_y yX8_time cX8_time 1 (some .long)) rm_X8_time (va_Pc [.ref (gAd t 8 o0)] (g_Pre t M)) (va_Ql K (g_B t) (g_A t)) rm_X8_time.cells rm_X8_time.slots (g_A t) := by
  refine g_met hl rfl (Nat.le_of_ble_eq_true rfl) (fun X hlX cx hQ => ?_)
  subst hlX
  refine gg_aload_n (pc := 0) cx 0 rfl dX8_time_0 rfl ?_
  refine gf_Tree_now (pc := 1) cx (hC 8 _ rfl v0) tw_560 dX8_time_1 ?_
  refine gf_World_time (pc := 4) cx (hC 7 _ rfl (Nat.le_of_ble_eq_true rfl)) tw_294 dX8_time_4 ?_
  exact gg_lret (pc := 7) cx hQ h dX8_time_7
theorem cal_X8_nextRelease : g_Cal yX8_nextRelease cX8_nextRelease 1 (some .long) 0 := ⟨tw_1, tw_726, by decide, by decide, by decide +kernel⟩
theorem calv_X8_nextRelease : g_CalV yX8_nextRelease := ⟨tw_724, tw_725⟩
set_option maxRecDepth 100000 in
set_option maxHeartbeats 4000000 in
theorem ct_X8_nextRelease {l : Launch} (hl : l.stackTraces = false) {t : gT} (hC : g_hC t) {o0 : Nat} (v0 : o0 < 1) {M : gM} {K : Int64 → gM → Prop} (h : wp_X8_nextRelease o0 M K) : Met l yX8_nextRelease (g_y yX8_nextRelease cX8_nextRelease 1 (some .long)) rm_X8_nextRelease (va_Pc [.ref (gAd t 8 o0)] (g_Pre t M)) (va_Ql K (g_B t) (g_A t)) rm_X8_nextRelease.cells rm_X8_nextRelease.slots (g_A t) := by
  refine g_met hl rfl (Nat.le_of_ble_eq_true rfl) (fun X hlX cx hQ => ?_)
  subst hlX
  refine gg_aload_n (pc := 0) cx 0 rfl dX8_nextRelease_0 rfl ?_
  refine gf_Tree_now (pc := 1) cx (hC 8 _ rfl v0) tw_560 dX8_nextRelease_1 ?_
  refine gf_World_line (pc := 4) cx (hC 7 _ rfl (Nat.le_of_ble_eq_true rfl)) tw_306 dX8_nextRelease_4 ?_
  refine gg_callVl (pc := 7) cx cal_X2_earliestRelease calv_X2_earliestRelease (ct_X2_earliestRelease cx.tr hC (Nat.le_of_ble_eq_true rfl) h) tw_727 (hC 2 _ rfl (Nat.le_of_ble_eq_true rfl)) rfl rfl rfl (st := []) rfl (Nat.le_of_ble_eq_true rfl) ⟨Nat.le_of_ble_eq_true rfl, Nat.le_of_ble_eq_true rfl⟩ ⟨Nat.le_of_ble_eq_true rfl, Nat.le_of_ble_eq_true rfl⟩ dX8_nextRelease_7 (fun r7 M7 h => ?_)
  exact gg_lret (pc := 10) cx hQ h dX8_nextRelease_10
theorem cal_X8_shaped : g_Cal yX8_shaped cX8_shaped 1 (some .int) 0 := ⟨tw_1, tw_736, by decide, by decide, by decide +kernel⟩
theorem calv_X8_shaped : g_CalV yX8_shaped := ⟨tw_734, tw_735⟩
set_option maxRecDepth 100000 in
set_option maxHeartbeats 4000000 in
theorem ct_X8_shaped {l : Launch} (hl : l.stackTraces = false) {t : gT} (hC : g_hC t) {o0 : Nat} (v0 : o0 < 1) {M : gM} {K : Int32 → gM → Prop} (h : wp_X8_shaped o0 M K) : Met l yX8_shaped (g_y yX8_shaped cX8_shaped 1 (some .int)) rm_X8_shaped (va_Pc [.ref (gAd t 8 o0)] (g_Pre t M)) (va_Qi K (g_B t) (g_A t)) rm_X8_shaped.cells rm_X8_shaped.slots (g_A t) := by
  refine g_met hl rfl (Nat.le_of_ble_eq_true rfl) (fun X hlX cx hQ => ?_)
  subst hlX
  refine gg_aload_n (pc := 0) cx 0 rfl dX8_shaped_0 rfl ?_
  refine gf_Tree_now (pc := 1) cx (hC 8 _ rfl v0) tw_560 dX8_shaped_1 ?_
  refine gf_World_line (pc := 4) cx (hC 7 _ rfl (Nat.le_of_ble_eq_true rfl)) tw_306 dX8_shaped_4 ?_
  refine gf_Line_size (pc := 7) cx (hC 2 _ rfl (Nat.le_of_ble_eq_true rfl)) tw_236 dX8_shaped_7 ?_
  exact gg_iret (pc := 10) cx hQ h dX8_shaped_10
theorem cal_X8_waiting : g_Cal yX8_waiting cX8_waiting 1 (some .int) 0 := ⟨tw_1, tw_740, by decide, by decide, by decide +kernel⟩
theorem calv_X8_waiting : g_CalV yX8_waiting := ⟨tw_738, tw_739⟩
set_option maxRecDepth 100000 in
set_option maxHeartbeats 4000000 in
theorem ct_X8_waiting {l : Launch} (hl : l.stackTraces = false) {t : gT} (hC : g_hC t) {o0 : Nat} (v0 : o0 < 1) {M : gM} {K : Int32 → gM → Prop} (h : wp_X8_waiting o0 M K) : Met l yX8_waiting (g_y yX8_waiting cX8_waiting 1 (some .int)) rm_X8_waiting (va_Pc [.ref (gAd t 8 o0)] (g_Pre t M)) (va_Qi K (g_B t) (g_A t)) rm_X8_waiting.cells rm_X8_waiting.slots (g_A t) := by
  refine g_met hl rfl (Nat.le_of_ble_eq_true rfl) (fun X hlX cx hQ => ?_)
  subst hlX
  refine gg_aload_n (pc := 0) cx 0 rfl dX8_waiting_0 rfl ?_
  refine gf_Tree_now (pc := 1) cx (hC 8 _ rfl v0) tw_560 dX8_waiting_1 ?_
  refine gg_callVi (pc := 4) cx cal_X7_countWaiting calv_X7_countWaiting (ct_X7_countWaiting cx.tr hC (Nat.le_of_ble_eq_true rfl) h) tw_741 (hC 7 _ rfl (Nat.le_of_ble_eq_true rfl)) rfl rfl rfl (st := []) rfl (Nat.le_of_ble_eq_true rfl) ⟨Nat.le_of_ble_eq_true rfl, Nat.le_of_ble_eq_true rfl⟩ ⟨Nat.le_of_ble_eq_true rfl, Nat.le_of_ble_eq_true rfl⟩ dX8_waiting_4 (fun r4 M4 h => ?_)
  exact gg_iret (pc := 7) cx hQ h dX8_waiting_7
theorem cal_X8_queueLength : g_Cal yX8_queueLength cX8_queueLength 2 (some .int) 1 := ⟨tw_1, tw_998, by decide, by decide, by decide +kernel⟩
theorem calv_X8_queueLength : g_CalV yX8_queueLength := ⟨tw_996, tw_997⟩
set_option maxRecDepth 100000 in
set_option maxHeartbeats 4000000 in
theorem ct_X8_queueLength {l : Launch} (hl : l.stackTraces = false) {t : gT} (hC : g_hC t) {o0 : Nat} {x1 : Int32} (v0 : o0 < 1) {M : gM} {K : Int32 → gM → Prop} {KX : Nat → gM → Prop} (h : wp_X8_queueLength o0 x1 M K KX) : vx_Met l yX8_queueLength (g_y yX8_queueLength cX8_queueLength 2 (some .int)) rm_X8_queueLength (va_Pc [.ref (gAd t 8 o0), .int x1] (g_Pre t M)) (va_Qi K (g_B t) (g_A t)) (g_XC t KX) rm_X8_queueLength.cells rm_X8_queueLength.slots (g_A t) := by
  refine g_xmet hl rfl (Nat.le_of_ble_eq_true rfl) (fun X hlX cx hx hQ => ?_)
  subst hlX
  refine gg_aload_n (pc := 0) cx 0 rfl dX8_queueLength_0 rfl ?_
  refine gg_iload_n (pc := 1) cx 1 rfl dX8_queueLength_1 rfl ?_
  refine gg_xcallVv (pc := 2) cx cal_X8_needNode calv_X8_needNode (ct_X8_needNode cx.tr hC v0 h) tw_888 (hC 8 _ rfl v0) rfl rfl rfl (st := []) rfl (Nat.le_of_ble_eq_true rfl) ⟨Nat.le_of_ble_eq_true rfl, Nat.le_of_ble_eq_true rfl⟩ ⟨Nat.le_of_ble_eq_true rfl, Nat.le_of_ble_eq_true rfl⟩ dX8_queueLength_2 hQ hx ⟨Nat.le_of_ble_eq_true rfl, Nat.le_of_ble_eq_true rfl⟩ (fun M2 h => ?_)
  refine gg_aload_n (pc := 5) cx 0 rfl dX8_queueLength_5 rfl ?_
  refine gf_Tree_now (pc := 6) cx (hC 8 _ rfl v0) tw_560 dX8_queueLength_6 ?_
  refine gf_World_nodes (pc := 9) cx (hC 7 _ rfl (Nat.le_of_ble_eq_true rfl)) tw_300 dX8_queueLength_9 ?_
  refine gg_iload_n (pc := 12) cx 1 rfl dX8_queueLength_12 rfl ?_
  have q13 := h.1
  have h := h.2
  refine gg_aald (pc := 13) cx (ca := 3) (hC 43 _ rfl (Nat.le_of_ble_eq_true rfl)) rfl rfl q13 rfl dX8_queueLength_13 ?_
  refine gf_Node_size (pc := 14) cx (hC 3 _ rfl (g_vN (Nat.le_of_ble_eq_true rfl) q13)) tw_270 dX8_queueLength_14 ?_
  exact gg_xiret (pc := 17) cx hQ h dX8_queueLength_17
set_option maxRecDepth 100000 in
set_option maxHeartbeats 4000000 in
theorem wk_X8_needElement_b31 {t : gT} {X : gX} (cx : g_Cx t X cX8_needElement 3 RX8 (none)) (hC : g_hC t) {K : gM → Prop} {KX : Nat → gM → Prop} (hQ : gXQ X = vx_MQ (gXb X) (va_Qv K (g_B t) (g_A t)) (g_XC t KX) (gXa X) (gXs X) rm_X8_needElement.cells rm_X8_needElement.slots (g_A t)) (hx : ∀ x ∈ (gXc X).exceptionTable.toList, False)  {M : gM}  (h : wp_X8_needElement_b31 K KX  M) : G t rm_X8_needElement X 3 1 6 M [] [] 31 := by
  exact gg_throwW (pc := 31) cx hQ hx g_thr2 tw_865 (g_st23 cx.T) (Nat.le_of_ble_eq_true rfl) (Nat.le_of_ble_eq_true rfl) ⟨Nat.le_of_ble_eq_true rfl, Nat.le_of_ble_eq_true rfl⟩ ⟨Nat.le_of_ble_eq_true rfl, Nat.le_of_ble_eq_true rfl⟩ dX8_needElement_31 dX8_needElement_34 dX8_needElement_35 dX8_needElement_38 dX8_needElement_41 h
theorem cal_X8_needElement : g_Cal yX8_needElement cX8_needElement 3 (none) 2 := ⟨tw_1, tw_1009, by decide, by decide, by decide +kernel⟩
theorem calv_X8_needElement : g_CalV yX8_needElement := ⟨tw_1008, ts_22⟩
set_option maxRecDepth 100000 in
set_option maxHeartbeats 4000000 in
theorem ct_X8_needElement {l : Launch} (hl : l.stackTraces = false) {t : gT} (hC : g_hC t) {o0 : Nat} {x1 : Int32} {x2 : Int32} (v0 : o0 < 1) {M : gM} {K : gM → Prop} {KX : Nat → gM → Prop} (h : wp_X8_needElement o0 x1 x2 M K KX) : vx_Met l yX8_needElement (g_y yX8_needElement cX8_needElement 3 (none)) rm_X8_needElement (va_Pc [.ref (gAd t 8 o0), .int x1, .int x2] (g_Pre t M)) (va_Qv K (g_B t) (g_A t)) (g_XC t KX) rm_X8_needElement.cells rm_X8_needElement.slots (g_A t) := by
  refine g_xmet hl rfl (Nat.le_of_ble_eq_true rfl) (fun X hlX cx hx hQ => ?_)
  subst hlX
  refine gg_aload_n (pc := 0) cx 0 rfl dX8_needElement_0 rfl ?_
  refine gg_iload_n (pc := 1) cx 1 rfl dX8_needElement_1 rfl ?_
  refine gg_xcallVv (pc := 2) cx cal_X8_needNode calv_X8_needNode (ct_X8_needNode cx.tr hC v0 h) tw_888 (hC 8 _ rfl v0) rfl rfl rfl (st := []) rfl (Nat.le_of_ble_eq_true rfl) ⟨Nat.le_of_ble_eq_true rfl, Nat.le_of_ble_eq_true rfl⟩ ⟨Nat.le_of_ble_eq_true rfl, Nat.le_of_ble_eq_true rfl⟩ dX8_needElement_2 hQ hx ⟨Nat.le_of_ble_eq_true rfl, Nat.le_of_ble_eq_true rfl⟩ (fun M2 h => ?_)
  refine gg_iload_n (pc := 5) cx 2 rfl dX8_needElement_5 rfl ?_
  refine gg_if_lt (pc := 6) cx (tgt := 31) dX8_needElement_6 (by decide) (fun c6 => ?_) (fun c6 => ?_)
  · have h := g_it c6 h
    refine gg_lv (lv' := []) [] rfl ?_
    exact wk_X8_needElement_b31 cx hC hQ hx  h
  · have h := g_if c6 h
    refine gg_iload_n (pc := 9) cx 2 rfl dX8_needElement_9 rfl ?_
    refine gg_aload_n (pc := 10) cx 0 rfl dX8_needElement_10 rfl ?_
    refine gf_Tree_now (pc := 11) cx (hC 8 _ rfl v0) tw_560 dX8_needElement_11 ?_
    refine gf_World_nodes (pc := 14) cx (hC 7 _ rfl (Nat.le_of_ble_eq_true rfl)) tw_300 dX8_needElement_14 ?_
    refine gg_iload_n (pc := 17) cx 1 rfl dX8_needElement_17 rfl ?_
    have q18 := h.1
    have h := h.2
    refine gg_aald (pc := 18) cx (ca := 3) (hC 43 _ rfl (Nat.le_of_ble_eq_true rfl)) rfl rfl q18 rfl dX8_needElement_18 ?_
    refine gf_Node_size (pc := 19) cx (hC 3 _ rfl (g_vN (Nat.le_of_ble_eq_true rfl) q18)) tw_270 dX8_needElement_19 ?_
    refine gg_icmp_ge (pc := 22) cx (tgt := 31) dX8_needElement_22 (by decide) (fun c22 => ?_) (fun c22 => ?_)
    · have h := g_it c22 h
      refine gg_lv (lv' := []) [] rfl ?_
      exact wk_X8_needElement_b31 cx hC hQ hx  h
    · have h := g_if c22 h
      refine gg_iload_n (pc := 25) cx 2 rfl dX8_needElement_25 rfl ?_
      refine gg_bipush (pc := 26) cx (v := 64) dX8_needElement_26 (by decide) ?_
      refine gg_icmp_lt (pc := 28) cx (tgt := 42) dX8_needElement_28 (by decide) (fun c28 => ?_) (fun c28 => ?_)
      · have h := g_it c28 h
        refine gg_wide (k' := rm_X8_needElement.cells) (n' := rm_X8_needElement.slots) (Nat.le_of_ble_eq_true rfl) (Nat.le_of_ble_eq_true rfl) ?_
        exact gg_xvret (pc := 42) cx hQ h dX8_needElement_42
      · have h := g_if c28 h
        refine gg_lv (lv' := []) [] rfl ?_
        exact wk_X8_needElement_b31 cx hC hQ hx  h
theorem cal_X8_queueItem : g_Cal yX8_queueItem cX8_queueItem 3 (some .int) 2 := ⟨tw_1, tw_1005, by decide, by decide, by decide +kernel⟩
theorem calv_X8_queueItem : g_CalV yX8_queueItem := ⟨tw_1003, tw_1004⟩
set_option maxRecDepth 100000 in
set_option maxHeartbeats 4000000 in
theorem ct_X8_queueItem {l : Launch} (hl : l.stackTraces = false) {t : gT} (hC : g_hC t) {o0 : Nat} {x1 : Int32} {x2 : Int32} (v0 : o0 < 1) {M : gM} {K : Int32 → gM → Prop} {KX : Nat → gM → Prop} (h : wp_X8_queueItem o0 x1 x2 M K KX) : vx_Met l yX8_queueItem (g_y yX8_queueItem cX8_queueItem 3 (some .int)) rm_X8_queueItem (va_Pc [.ref (gAd t 8 o0), .int x1, .int x2] (g_Pre t M)) (va_Qi K (g_B t) (g_A t)) (g_XC t KX) rm_X8_queueItem.cells rm_X8_queueItem.slots (g_A t) := by
  refine g_xmet hl rfl (Nat.le_of_ble_eq_true rfl) (fun X hlX cx hx hQ => ?_)
  subst hlX
  refine gg_aload_n (pc := 0) cx 0 rfl dX8_queueItem_0 rfl ?_
  refine gg_iload_n (pc := 1) cx 1 rfl dX8_queueItem_1 rfl ?_
  refine gg_iload_n (pc := 2) cx 2 rfl dX8_queueItem_2 rfl ?_
  refine gg_xcallVv (pc := 3) cx cal_X8_needElement calv_X8_needElement (ct_X8_needElement cx.tr hC v0 h) tw_1006 (hC 8 _ rfl v0) rfl rfl rfl (st := []) rfl (Nat.le_of_ble_eq_true rfl) ⟨Nat.le_of_ble_eq_true rfl, Nat.le_of_ble_eq_true rfl⟩ ⟨Nat.le_of_ble_eq_true rfl, Nat.le_of_ble_eq_true rfl⟩ dX8_queueItem_3 hQ hx ⟨Nat.le_of_ble_eq_true rfl, Nat.le_of_ble_eq_true rfl⟩ (fun M3 h => ?_)
  refine gg_aload_n (pc := 6) cx 0 rfl dX8_queueItem_6 rfl ?_
  refine gf_Tree_now (pc := 7) cx (hC 8 _ rfl v0) tw_560 dX8_queueItem_7 ?_
  refine gf_World_nodes (pc := 10) cx (hC 7 _ rfl (Nat.le_of_ble_eq_true rfl)) tw_300 dX8_queueItem_10 ?_
  refine gg_iload_n (pc := 13) cx 1 rfl dX8_queueItem_13 rfl ?_
  have q14 := h.1
  have h := h.2
  refine gg_aald (pc := 14) cx (ca := 3) (hC 43 _ rfl (Nat.le_of_ble_eq_true rfl)) rfl rfl q14 rfl dX8_queueItem_14 ?_
  refine gf_Node_items (pc := 15) cx (hC 3 _ rfl (g_vN (Nat.le_of_ble_eq_true rfl) q14)) tw_272 dX8_queueItem_15 ?_
  refine gg_iload_n (pc := 18) cx 2 rfl dX8_queueItem_18 rfl ?_
  have q19 := h.1
  have h := h.2
  refine gg_iald (pc := 19) cx (hC 23 _ rfl (g_vN (Nat.le_of_ble_eq_true rfl) q14)) rfl q19 dX8_queueItem_19 ?_
  exact gg_xiret (pc := 20) cx hQ h dX8_queueItem_20
theorem cal_X8_queueRank : g_Cal yX8_queueRank cX8_queueRank 3 (some .long) 2 := ⟨tw_1, tw_1017, by decide, by decide, by decide +kernel⟩
theorem calv_X8_queueRank : g_CalV yX8_queueRank := ⟨tw_1015, tw_1016⟩
set_option maxRecDepth 100000 in
set_option maxHeartbeats 4000000 in
theorem ct_X8_queueRank {l : Launch} (hl : l.stackTraces = false) {t : gT} (hC : g_hC t) {o0 : Nat} {x1 : Int32} {x2 : Int32} (v0 : o0 < 1) {M : gM} {K : Int64 → gM → Prop} {KX : Nat → gM → Prop} (h : wp_X8_queueRank o0 x1 x2 M K KX) : vx_Met l yX8_queueRank (g_y yX8_queueRank cX8_queueRank 3 (some .long)) rm_X8_queueRank (va_Pc [.ref (gAd t 8 o0), .int x1, .int x2] (g_Pre t M)) (va_Ql K (g_B t) (g_A t)) (g_XC t KX) rm_X8_queueRank.cells rm_X8_queueRank.slots (g_A t) := by
  refine g_xmet hl rfl (Nat.le_of_ble_eq_true rfl) (fun X hlX cx hx hQ => ?_)
  subst hlX
  refine gg_aload_n (pc := 0) cx 0 rfl dX8_queueRank_0 rfl ?_
  refine gg_iload_n (pc := 1) cx 1 rfl dX8_queueRank_1 rfl ?_
  refine gg_iload_n (pc := 2) cx 2 rfl dX8_queueRank_2 rfl ?_
  refine gg_xcallVv (pc := 3) cx cal_X8_needElement calv_X8_needElement (ct_X8_needElement cx.tr hC v0 h) tw_1006 (hC 8 _ rfl v0) rfl rfl rfl (st := []) rfl (Nat.le_of_ble_eq_true rfl) ⟨Nat.le_of_ble_eq_true rfl, Nat.le_of_ble_eq_true rfl⟩ ⟨Nat.le_of_ble_eq_true rfl, Nat.le_of_ble_eq_true rfl⟩ dX8_queueRank_3 hQ hx ⟨Nat.le_of_ble_eq_true rfl, Nat.le_of_ble_eq_true rfl⟩ (fun M3 h => ?_)
  refine gg_aload_n (pc := 6) cx 0 rfl dX8_queueRank_6 rfl ?_
  refine gf_Tree_now (pc := 7) cx (hC 8 _ rfl v0) tw_560 dX8_queueRank_7 ?_
  refine gf_World_nodes (pc := 10) cx (hC 7 _ rfl (Nat.le_of_ble_eq_true rfl)) tw_300 dX8_queueRank_10 ?_
  refine gg_iload_n (pc := 13) cx 1 rfl dX8_queueRank_13 rfl ?_
  have q14 := h.1
  have h := h.2
  refine gg_aald (pc := 14) cx (ca := 3) (hC 43 _ rfl (Nat.le_of_ble_eq_true rfl)) rfl rfl q14 rfl dX8_queueRank_14 ?_
  refine gf_Node_ranks (pc := 15) cx (hC 3 _ rfl (g_vN (Nat.le_of_ble_eq_true rfl) q14)) tw_274 dX8_queueRank_15 ?_
  refine gg_iload_n (pc := 18) cx 2 rfl dX8_queueRank_18 rfl ?_
  have q19 := h.1
  have h := h.2
  refine gg_lald (pc := 19) cx (hC 24 _ rfl (g_vN (Nat.le_of_ble_eq_true rfl) q14)) rfl q19 dX8_queueRank_19 ?_
  exact gg_xlret (pc := 20) cx hQ h dX8_queueRank_20
theorem cal_X8_virtualTime : g_Cal yX8_virtualTime cX8_virtualTime 2 (some .long) 1 := ⟨tw_1, tw_1024, by decide, by decide, by decide +kernel⟩
theorem calv_X8_virtualTime : g_CalV yX8_virtualTime := ⟨tw_1022, tw_1023⟩
set_option maxRecDepth 100000 in
set_option maxHeartbeats 4000000 in
theorem ct_X8_virtualTime {l : Launch} (hl : l.stackTraces = false) {t : gT} (hC : g_hC t) {o0 : Nat} {x1 : Int32} (v0 : o0 < 1) {M : gM} {K : Int64 → gM → Prop} {KX : Nat → gM → Prop} (h : wp_X8_virtualTime o0 x1 M K KX) : vx_Met l yX8_virtualTime (g_y yX8_virtualTime cX8_virtualTime 2 (some .long)) rm_X8_virtualTime (va_Pc [.ref (gAd t 8 o0), .int x1] (g_Pre t M)) (va_Ql K (g_B t) (g_A t)) (g_XC t KX) rm_X8_virtualTime.cells rm_X8_virtualTime.slots (g_A t) := by
  refine g_xmet hl rfl (Nat.le_of_ble_eq_true rfl) (fun X hlX cx hx hQ => ?_)
  subst hlX
  refine gg_aload_n (pc := 0) cx 0 rfl dX8_virtualTime_0 rfl ?_
  refine gg_iload_n (pc := 1) cx 1 rfl dX8_virtualTime_1 rfl ?_
  refine gg_xcallVv (pc := 2) cx cal_X8_needNode calv_X8_needNode (ct_X8_needNode cx.tr hC v0 h) tw_888 (hC 8 _ rfl v0) rfl rfl rfl (st := []) rfl (Nat.le_of_ble_eq_true rfl) ⟨Nat.le_of_ble_eq_true rfl, Nat.le_of_ble_eq_true rfl⟩ ⟨Nat.le_of_ble_eq_true rfl, Nat.le_of_ble_eq_true rfl⟩ dX8_virtualTime_2 hQ hx ⟨Nat.le_of_ble_eq_true rfl, Nat.le_of_ble_eq_true rfl⟩ (fun M2 h => ?_)
  refine gg_aload_n (pc := 5) cx 0 rfl dX8_virtualTime_5 rfl ?_
  refine gf_Tree_now (pc := 6) cx (hC 8 _ rfl v0) tw_560 dX8_virtualTime_6 ?_
  refine gf_World_nodes (pc := 9) cx (hC 7 _ rfl (Nat.le_of_ble_eq_true rfl)) tw_300 dX8_virtualTime_9 ?_
  refine gg_iload_n (pc := 12) cx 1 rfl dX8_virtualTime_12 rfl ?_
  have q13 := h.1
  have h := h.2
  refine gg_aald (pc := 13) cx (ca := 3) (hC 43 _ rfl (Nat.le_of_ble_eq_true rfl)) rfl rfl q13 rfl dX8_virtualTime_13 ?_
  refine gf_Node_virtual (pc := 14) cx (hC 3 _ rfl (g_vN (Nat.le_of_ble_eq_true rfl) q13)) tw_262 dX8_virtualTime_14 ?_
  exact gg_xlret (pc := 17) cx hQ h dX8_virtualTime_17
theorem cal_X8_state : g_Cal yX8_state cX8_state 3 (some .long) 2 := ⟨tw_1, tw_1031, by decide, by decide, by decide +kernel⟩
theorem calv_X8_state : g_CalV yX8_state := ⟨tw_1029, tw_1030⟩
set_option maxRecDepth 100000 in
set_option maxHeartbeats 4000000 in
theorem ct_X8_state {l : Launch} (hl : l.stackTraces = false) {t : gT} (hC : g_hC t) {o0 : Nat} {x1 : Int32} {x2 : Int32} (v0 : o0 < 1) {M : gM} {K : Int64 → gM → Prop} {KX : Nat → gM → Prop} (h : wp_X8_state o0 x1 x2 M K KX) : vx_Met l yX8_state (g_y yX8_state cX8_state 3 (some .long)) rm_X8_state (va_Pc [.ref (gAd t 8 o0), .int x1, .int x2] (g_Pre t M)) (va_Ql K (g_B t) (g_A t)) (g_XC t KX) rm_X8_state.cells rm_X8_state.slots (g_A t) := by
  refine g_xmet hl rfl (Nat.le_of_ble_eq_true rfl) (fun X hlX cx hx hQ => ?_)
  subst hlX
  refine gg_aload_n (pc := 0) cx 0 rfl dX8_state_0 rfl ?_
  refine gg_iload_n (pc := 1) cx 1 rfl dX8_state_1 rfl ?_
  refine gg_xcallVv (pc := 2) cx cal_X8_needNode calv_X8_needNode (ct_X8_needNode cx.tr hC v0 h) tw_888 (hC 8 _ rfl v0) rfl rfl rfl (st := []) rfl (Nat.le_of_ble_eq_true rfl) ⟨Nat.le_of_ble_eq_true rfl, Nat.le_of_ble_eq_true rfl⟩ ⟨Nat.le_of_ble_eq_true rfl, Nat.le_of_ble_eq_true rfl⟩ dX8_state_2 hQ hx ⟨Nat.le_of_ble_eq_true rfl, Nat.le_of_ble_eq_true rfl⟩ (fun M2 h => ?_)
  refine gg_aload_n (pc := 5) cx 0 rfl dX8_state_5 rfl ?_
  refine gf_Tree_now (pc := 6) cx (hC 8 _ rfl v0) tw_560 dX8_state_6 ?_
  refine gf_World_plan (pc := 9) cx (hC 7 _ rfl (Nat.le_of_ble_eq_true rfl)) tw_298 dX8_state_9 ?_
  refine gg_iload_n (pc := 12) cx 1 rfl dX8_state_12 rfl ?_
  refine gg_iload_n (pc := 13) cx 2 rfl dX8_state_13 rfl ?_
  refine gg_callVi (pc := 14) cx cal_X5_hasClass calv_X5_hasClass (ct_X5_hasClass cx.tr hC (g_v56 (Nat.le_of_ble_eq_true rfl)) h) tw_1032 (hC 5 _ rfl (g_v56 (Nat.le_of_ble_eq_true rfl))) rfl rfl rfl (st := []) rfl (Nat.le_of_ble_eq_true rfl) ⟨Nat.le_of_ble_eq_true rfl, Nat.le_of_ble_eq_true rfl⟩ ⟨Nat.le_of_ble_eq_true rfl, Nat.le_of_ble_eq_true rfl⟩ dX8_state_14 (fun r14 M14 h => ?_)
  refine gg_if_ne (pc := 17) cx (tgt := 30) dX8_state_17 (by decide) (fun c17 => ?_) (fun c17 => ?_)
  · have h := g_if c17 h
    refine gg_aload_n (pc := 30) cx 0 rfl dX8_state_30 rfl ?_
    refine gf_Tree_now (pc := 31) cx (hC 8 _ rfl v0) tw_560 dX8_state_31 ?_
    refine gf_World_nodes (pc := 34) cx (hC 7 _ rfl (Nat.le_of_ble_eq_true rfl)) tw_300 dX8_state_34 ?_
    refine gg_iload_n (pc := 37) cx 1 rfl dX8_state_37 rfl ?_
    have q38 := h.1
    have h := h.2
    refine gg_aald (pc := 38) cx (ca := 3) (hC 43 _ rfl (Nat.le_of_ble_eq_true rfl)) rfl rfl q38 rfl dX8_state_38 ?_
    refine gf_Node_states (pc := 39) cx (hC 3 _ rfl (g_vN (Nat.le_of_ble_eq_true rfl) q38)) tw_267 dX8_state_39 ?_
    refine gg_iload_n (pc := 42) cx 2 rfl dX8_state_42 rfl ?_
    have q43 := h.1
    have h := h.2
    refine gg_lald (pc := 43) cx (hC 22 _ rfl (g_vN (Nat.le_of_ble_eq_true rfl) q38)) rfl q43 dX8_state_43 ?_
    refine gg_wide (k' := rm_X8_state.cells) (n' := rm_X8_state.slots) (Nat.le_of_ble_eq_true rfl) (Nat.le_of_ble_eq_true rfl) ?_
    exact gg_xlret (pc := 44) cx hQ h dX8_state_44
  · have h := g_it c17 h
    exact gg_throw (pc := 20) cx hQ hx g_thr0 tw_766 (g_st24 cx.T) (Nat.le_of_ble_eq_true rfl) (Nat.le_of_ble_eq_true rfl) ⟨Nat.le_of_ble_eq_true rfl, Nat.le_of_ble_eq_true rfl⟩ ⟨Nat.le_of_ble_eq_true rfl, Nat.le_of_ble_eq_true rfl⟩ dX8_state_20 dX8_state_23 dX8_state_24 dX8_state_26 dX8_state_29 h
theorem cal_X8_rankIf : g_Cal yX8_rankIf cX8_rankIf 5 (some .long) 4 := ⟨tw_1, tw_1040, by decide, by decide, by decide +kernel⟩
theorem calv_X8_rankIf : g_CalV yX8_rankIf := ⟨tw_1038, tw_1039⟩
set_option maxRecDepth 100000 in
set_option maxHeartbeats 4000000 in
theorem ct_X8_rankIf {l : Launch} (hl : l.stackTraces = false) {t : gT} (hC : g_hC t) {o0 : Nat} {x1 : Int32} {x2 : Int32} {x3 : Int32} {x4 : Int32} (v0 : o0 < 1) {M : gM} {K : Int64 → gM → Prop} {KX : Nat → gM → Prop} (h : wp_X8_rankIf o0 x1 x2 x3 x4 M K KX) : vx_Met l yX8_rankIf (g_y yX8_rankIf cX8_rankIf 5 (some .long)) rm_X8_rankIf (va_Pc [.ref (gAd t 8 o0), .int x1, .int x2, .int x3, .int x4] (g_Pre t M)) (va_Ql K (g_B t) (g_A t)) (g_XC t KX) rm_X8_rankIf.cells rm_X8_rankIf.slots (g_A t) := by
  refine g_xmet hl rfl (Nat.le_of_ble_eq_true rfl) (fun X hlX cx hx hQ => ?_)
  subst hlX
  refine gg_iload_n (pc := 0) cx 1 rfl dX8_rankIf_0 rfl ?_
  refine gg_xcallSv (pc := 1) cx cal_X8_needFlow tw_916 (ct_X8_needFlow cx.tr hC  h) tw_915 rfl (st := []) rfl (Nat.le_of_ble_eq_true rfl) ⟨Nat.le_of_ble_eq_true rfl, Nat.le_of_ble_eq_true rfl⟩ ⟨Nat.le_of_ble_eq_true rfl, Nat.le_of_ble_eq_true rfl⟩ dX8_rankIf_1 hQ hx ⟨Nat.le_of_ble_eq_true rfl, Nat.le_of_ble_eq_true rfl⟩ (fun M1 h => ?_)
  refine gg_iload_n (pc := 4) cx 2 rfl dX8_rankIf_4 rfl ?_
  refine gg_iload_n (pc := 5) cx 3 rfl dX8_rankIf_5 rfl ?_
  refine gg_iload (pc := 6) cx 4 rfl dX8_rankIf_6 ?_
  refine gg_xcallSv (pc := 8) cx cal_X8_needPacketValues tw_962 (ct_X8_needPacketValues cx.tr hC  h) tw_961 rfl (st := []) rfl (Nat.le_of_ble_eq_true rfl) ⟨Nat.le_of_ble_eq_true rfl, Nat.le_of_ble_eq_true rfl⟩ ⟨Nat.le_of_ble_eq_true rfl, Nat.le_of_ble_eq_true rfl⟩ dX8_rankIf_8 hQ hx ⟨Nat.le_of_ble_eq_true rfl, Nat.le_of_ble_eq_true rfl⟩ (fun M8 h => ?_)
  refine gg_aload_n (pc := 11) cx 0 rfl dX8_rankIf_11 rfl ?_
  refine gf_Tree_now (pc := 12) cx (hC 8 _ rfl v0) tw_560 dX8_rankIf_12 ?_
  refine gg_iload_n (pc := 15) cx 1 rfl dX8_rankIf_15 rfl ?_
  refine gg_iload_n (pc := 16) cx 2 rfl dX8_rankIf_16 rfl ?_
  refine gg_iload_n (pc := 17) cx 3 rfl dX8_rankIf_17 rfl ?_
  refine gg_iload (pc := 18) cx 4 rfl dX8_rankIf_18 ?_
  refine gg_callVl (pc := 20) cx cal_X7_rankOfArrival calv_X7_rankOfArrival (ct_X7_rankOfArrival cx.tr hC (Nat.le_of_ble_eq_true rfl) h) tw_1041 (hC 7 _ rfl (Nat.le_of_ble_eq_true rfl)) rfl rfl rfl (st := []) rfl (Nat.le_of_ble_eq_true rfl) ⟨Nat.le_of_ble_eq_true rfl, Nat.le_of_ble_eq_true rfl⟩ ⟨Nat.le_of_ble_eq_true rfl, Nat.le_of_ble_eq_true rfl⟩ dX8_rankIf_20 (fun r20 M20 h => ?_)
  exact gg_xlret (pc := 23) cx hQ h dX8_rankIf_23
set_option maxRecDepth 100000 in
set_option maxHeartbeats 4000000 in
theorem wk_X8_peek_L29 {t : gT} {X : gX} (cx : g_Cx t X cX8_peek 4 RX8 (some .int)) (hC : g_hC t) {K : Int32 → gM → Prop} {KX : Nat → gM → Prop} (hQ : gXQ X = vx_MQ (gXb X) (va_Qi K (g_B t) (g_A t)) (g_XC t KX) (gXa X) (gXs X) rm_X8_peek.cells rm_X8_peek.slots (g_A t)) (hx : ∀ x ∈ (gXc X).exceptionTable.toList, False) (f : Nat) : ∀ (o0 : Nat) (x1 : Int32) (x2 : Int32) (x3 : Int32) (M : gM), o0 < 1 → wp_X8_peek_L29 K KX f o0 x1 x2 x3 M → G t rm_X8_peek X 4 0 0 M [(0, .ref (gAd t 8 o0)), (1, .int x1), (2, .int x2), (3, .int x3)] [] 29 := by
  induction f with
  | zero => intro _ _ _ _ _ _ _; exact False.elim (by assumption)
  | succ f ih =>
    intro o0 x1 x2 x3 M v0 h
    refine gg_iload_n (pc := 29) cx 3 rfl dX8_peek_29 rfl ?_
    refine gg_iload_n (pc := 30) cx 1 rfl dX8_peek_30 rfl ?_
    refine gg_icmp_gt (pc := 31) cx (tgt := 54) dX8_peek_31 (by decide) (fun c31 => ?_) (fun c31 => ?_)
    · have h := g_it c31 h
      refine gg_iload_n (pc := 54) cx 2 rfl dX8_peek_54 rfl ?_
      refine gg_wide (k' := rm_X8_peek.cells) (n' := rm_X8_peek.slots) (Nat.le_of_ble_eq_true rfl) (Nat.le_of_ble_eq_true rfl) ?_
      exact gg_xiret (pc := 55) cx hQ h dX8_peek_55
    · have h := g_if c31 h
      refine gg_iload_n (pc := 34) cx 3 rfl dX8_peek_34 rfl ?_
      refine gg_bipush (pc := 35) cx (v := 64) dX8_peek_35 (by decide) ?_
      refine gg_icmp_gt (pc := 37) cx (tgt := 54) dX8_peek_37 (by decide) (fun c37 => ?_) (fun c37 => ?_)
      · have h := g_it c37 h
        refine gg_iload_n (pc := 54) cx 2 rfl dX8_peek_54 rfl ?_
        refine gg_wide (k' := rm_X8_peek.cells) (n' := rm_X8_peek.slots) (Nat.le_of_ble_eq_true rfl) (Nat.le_of_ble_eq_true rfl) ?_
        exact gg_xiret (pc := 55) cx hQ h dX8_peek_55
      · have h := g_if c37 h
        refine gg_aload_n (pc := 40) cx 0 rfl dX8_peek_40 rfl ?_
        refine gf_Tree_ahead (pc := 41) cx (hC 8 _ rfl v0) tw_561 dX8_peek_41 ?_
        refine gg_callVi (pc := 44) cx cal_X7_leave calv_X7_leave (ct_X7_leave cx.tr hC (Nat.le_of_ble_eq_true rfl) h) tw_610 (hC 7 _ rfl (Nat.le_of_ble_eq_true rfl)) rfl rfl rfl (st := []) rfl (Nat.le_of_ble_eq_true rfl) ⟨Nat.le_of_ble_eq_true rfl, Nat.le_of_ble_eq_true rfl⟩ ⟨Nat.le_of_ble_eq_true rfl, Nat.le_of_ble_eq_true rfl⟩ dX8_peek_44 (fun r44 M44 h => ?_)
        refine gg_istore_n (pc := 47) cx [(2, .int r44), (0, .ref (gAd t 8 o0)), (1, .int x1), (3, .int x3)] dX8_peek_47 rfl (by decide) rfl ?_
        obtain ⟨n48, en48⟩ : ∃ z : Int32, z = x3 + Int32.ofInt (1) := ⟨_, rfl⟩
        have h := h n48 en48
        refine gg_iinc (pc := 48) cx 3 [(3, .int n48), (2, .int r44), (0, .ref (gAd t 8 o0)), (1, .int x1)] dX8_peek_48 rfl en48.symm (by decide) rfl ?_
        refine gg_goto (pc := 51) cx (tgt := 29) dX8_peek_51 (by decide) ?_
        refine gg_lv (lv' := [(0, .ref (gAd t 8 o0)), (1, .int x1), (2, .int r44), (3, .int n48)]) [2, 3, 1, 0] rfl ?_
        exact ih o0 x1 r44 n48 M44 v0 h
theorem cal_X8_peek : g_Cal yX8_peek cX8_peek 4 (some .int) 1 := ⟨tw_1, tw_1051, by decide, by decide, by decide +kernel⟩
theorem calv_X8_peek : g_CalV yX8_peek := ⟨tw_1049, tw_1050⟩
set_option maxRecDepth 100000 in
set_option maxHeartbeats 4000000 in
theorem ct_X8_peek {l : Launch} (hl : l.stackTraces = false) {t : gT} (hC : g_hC t) {o0 : Nat} {x1 : Int32} (v0 : o0 < 1) {M : gM} {K : Int32 → gM → Prop} {KX : Nat → gM → Prop} (h : wp_X8_peek o0 x1 M K KX) : vx_Met l yX8_peek (g_y yX8_peek cX8_peek 4 (some .int)) rm_X8_peek (va_Pc [.ref (gAd t 8 o0), .int x1] (g_Pre t M)) (va_Qi K (g_B t) (g_A t)) (g_XC t KX) rm_X8_peek.cells rm_X8_peek.slots (g_A t) := by
  refine g_xmet hl rfl (Nat.le_of_ble_eq_true rfl) (fun X hlX cx hx hQ => ?_)
  subst hlX
  refine gg_iload_n (pc := 0) cx 1 rfl dX8_peek_0 rfl ?_
  refine gg_if_ge (pc := 1) cx (tgt := 14) dX8_peek_1 (by decide) (fun c1 => ?_) (fun c1 => ?_)
  · have h := g_it c1 h
    refine gg_aload_n (pc := 14) cx 0 rfl dX8_peek_14 rfl ?_
    refine gf_Tree_ahead (pc := 15) cx (hC 8 _ rfl v0) tw_561 dX8_peek_15 ?_
    refine gg_aload_n (pc := 18) cx 0 rfl dX8_peek_18 rfl ?_
    refine gf_Tree_now (pc := 19) cx (hC 8 _ rfl v0) tw_560 dX8_peek_19 ?_
    refine gg_callVv (pc := 22) cx cal_X7_copyFrom calv_X7_copyFrom (ct_X7_copyFrom cx.tr hC (Nat.le_of_ble_eq_true rfl) (Nat.le_of_ble_eq_true rfl) h) tw_1053 (hC 7 _ rfl (Nat.le_of_ble_eq_true rfl)) rfl rfl rfl (st := []) rfl (Nat.le_of_ble_eq_true rfl) ⟨Nat.le_of_ble_eq_true rfl, Nat.le_of_ble_eq_true rfl⟩ ⟨Nat.le_of_ble_eq_true rfl, Nat.le_of_ble_eq_true rfl⟩ dX8_peek_22 (fun M22 h => ?_)
    refine gg_iconst (pc := 25) cx (v := (-1)) dX8_peek_25 (by decide) ?_
    refine gg_istore_n (pc := 26) cx [(2, .int (-1)), (0, .ref (gAd t 8 o0)), (1, .int x1)] dX8_peek_26 rfl (by decide) rfl ?_
    refine gg_iconst (pc := 27) cx (v := 0) dX8_peek_27 (by decide) ?_
    refine gg_istore_n (pc := 28) cx [(3, .int 0), (2, .int (-1)), (0, .ref (gAd t 8 o0)), (1, .int x1)] dX8_peek_28 rfl (by decide) rfl ?_
    refine gg_lv (lv' := [(0, .ref (gAd t 8 o0)), (1, .int x1), (2, .int (-1)), (3, .int 0)]) [2, 3, 1, 0] rfl ?_
    obtain ⟨f29, h⟩ := h
    exact wk_X8_peek_L29 cx hC hQ hx f29 o0 x1 (-1) 0 M22 v0 h
  · have h := g_if c1 h
    exact gg_throw (pc := 4) cx hQ hx g_thr2 tw_865 (g_st25 cx.T) (Nat.le_of_ble_eq_true rfl) (Nat.le_of_ble_eq_true rfl) ⟨Nat.le_of_ble_eq_true rfl, Nat.le_of_ble_eq_true rfl⟩ ⟨Nat.le_of_ble_eq_true rfl, Nat.le_of_ble_eq_true rfl⟩ dX8_peek_4 dX8_peek_7 dX8_peek_8 dX8_peek_10 dX8_peek_13 h
set_option maxRecDepth 100000 in
set_option maxHeartbeats 4000000 in
theorem wk_X8_departureIf_L54 {t : gT} {X : gX} (cx : g_Cx t X cX8_departureIf 4 RX8 (some .long)) (hC : g_hC t) {K : Int64 → gM → Prop} {KX : Nat → gM → Prop} (hQ : gXQ X = vx_MQ (gXb X) (va_Ql K (g_B t) (g_A t)) (g_XC t KX) (gXa X) (gXs X) rm_X8_departureIf.cells rm_X8_departureIf.slots (g_A t)) (hx : ∀ x ∈ (gXc X).exceptionTable.toList, False) (f : Nat) : ∀ (o0 : Nat) (x1 : Int32) (x2 : Int32) (M : gM), o0 < 1 → wp_X8_departureIf_L54 K KX f o0 x1 x2 M → G t rm_X8_departureIf X 4 0 0 M [(0, .ref (gAd t 8 o0)), (1, .int x1), (2, .int x2)] [] 54 := by
  induction f with
  | zero => intro _ _ _ _ _ _; exact False.elim (by assumption)
  | succ f ih =>
    intro o0 x1 x2 M v0 h
    refine gg_iload_n (pc := 54) cx 2 rfl dX8_departureIf_54 rfl ?_
    refine gg_sipush (pc := 55) cx (v := 832) dX8_departureIf_55 (by decide) ?_
    refine gg_icmp_gt (pc := 58) cx (tgt := 115) dX8_departureIf_58 (by decide) (fun c58 => ?_) (fun c58 => ?_)
    · have h := g_it c58 h
      refine gg_ldc2 (pc := 115) cx (v := (-1)) tw_1086 dX8_departureIf_115 ?_
      refine gg_wide (k' := rm_X8_departureIf.cells) (n' := rm_X8_departureIf.slots) (Nat.le_of_ble_eq_true rfl) (Nat.le_of_ble_eq_true rfl) ?_
      exact gg_xlret (pc := 118) cx hQ h dX8_departureIf_118
    · have h := g_if c58 h
      refine gg_aload_n (pc := 61) cx 0 rfl dX8_departureIf_61 rfl ?_
      refine gf_Tree_ahead (pc := 62) cx (hC 8 _ rfl v0) tw_561 dX8_departureIf_62 ?_
      refine gg_callVi (pc := 65) cx cal_X7_send calv_X7_send (ct_X7_send cx.tr hC (Nat.le_of_ble_eq_true rfl) h) tw_640 (hC 7 _ rfl (Nat.le_of_ble_eq_true rfl)) rfl rfl rfl (st := []) rfl (Nat.le_of_ble_eq_true rfl) ⟨Nat.le_of_ble_eq_true rfl, Nat.le_of_ble_eq_true rfl⟩ ⟨Nat.le_of_ble_eq_true rfl, Nat.le_of_ble_eq_true rfl⟩ dX8_departureIf_65 (fun r65 M65 h => ?_)
      refine gg_istore_n (pc := 68) cx [(3, .int r65), (0, .ref (gAd t 8 o0)), (1, .int x1), (2, .int x2)] dX8_departureIf_68 rfl (by decide) rfl ?_
      refine gg_iload_n (pc := 69) cx 0 rfl dX8_departureIf_69 rfl ?_
      refine gg_iload_n (pc := 70) cx 2 rfl dX8_departureIf_70 rfl ?_
      refine gg_icmp_ne (pc := 71) cx (tgt := 87) dX8_departureIf_71 (by decide) (fun c71 => ?_) (fun c71 => ?_)
      · have h := g_if c71 h
        refine gg_iload_n (pc := 87) cx 0 rfl dX8_departureIf_87 rfl ?_
        refine gg_if_ge (pc := 88) cx (tgt := 109) dX8_departureIf_88 (by decide) (fun c88 => ?_) (fun c88 => ?_)
        · have h := g_it c88 h
          obtain ⟨n109, en109⟩ : ∃ z : Int32, z = x2 + Int32.ofInt (1) := ⟨_, rfl⟩
          have h := h n109 en109
          refine gg_iinc (pc := 109) cx 3 [(2, .int n109), (3, .int r65), (0, .ref (gAd t 8 o0)), (1, .int x1)] dX8_departureIf_109 rfl en109.symm (by decide) rfl ?_
          refine gg_goto (pc := 112) cx (tgt := 54) dX8_departureIf_112 (by decide) ?_
          refine gg_lv (lv' := [(0, .ref (gAd t 8 o0)), (1, .int x1), (2, .int n109)]) [2, 3, 0] rfl ?_
          exact ih o0 x1 n109 M65 v0 h
        · have h := g_if c88 h
          refine gg_aload_n (pc := 91) cx 1 rfl dX8_departureIf_91 rfl ?_
          refine gf_Tree_ahead (pc := 92) cx (hC 8 _ rfl v0) tw_561 dX8_departureIf_92 ?_
          refine gg_aload_n (pc := 95) cx 1 rfl dX8_departureIf_95 rfl ?_
          refine gf_Tree_ahead (pc := 96) cx (hC 8 _ rfl v0) tw_561 dX8_departureIf_96 ?_
          refine gf_World_line (pc := 99) cx (hC 7 _ rfl (Nat.le_of_ble_eq_true rfl)) tw_306 dX8_departureIf_99 ?_
          refine gg_callVl (pc := 102) cx cal_X2_earliestRelease calv_X2_earliestRelease (ct_X2_earliestRelease cx.tr hC (Nat.le_of_ble_eq_true rfl) h) tw_727 (hC 2 _ rfl (Nat.le_of_ble_eq_true rfl)) rfl rfl rfl (st := [.ref (gAd t 7 1)]) rfl (Nat.le_of_ble_eq_true rfl) ⟨Nat.le_of_ble_eq_true rfl, Nat.le_of_ble_eq_true rfl⟩ ⟨Nat.le_of_ble_eq_true rfl, Nat.le_of_ble_eq_true rfl⟩ dX8_departureIf_102 (fun r102 M102 h => ?_)
          refine gg_callVi (pc := 105) cx cal_X7_passUntil calv_X7_passUntil (ct_X7_passUntil cx.tr hC (Nat.le_of_ble_eq_true rfl) h) tw_991 (hC 7 _ rfl (Nat.le_of_ble_eq_true rfl)) rfl rfl rfl (st := []) rfl (Nat.le_of_ble_eq_true rfl) ⟨Nat.le_of_ble_eq_true rfl, Nat.le_of_ble_eq_true rfl⟩ ⟨Nat.le_of_ble_eq_true rfl, Nat.le_of_ble_eq_true rfl⟩ dX8_departureIf_105 (fun r105 M105 h => ?_)
          refine gg_pop (pc := 108) cx dX8_departureIf_108 rfl ?_
          obtain ⟨n109, en109⟩ : ∃ z : Int32, z = x2 + Int32.ofInt (1) := ⟨_, rfl⟩
          have h := h n109 en109
          refine gg_iinc (pc := 109) cx 3 [(2, .int n109), (3, .int r65), (0, .ref (gAd t 8 o0)), (1, .int x1)] dX8_departureIf_109 rfl en109.symm (by decide) rfl ?_
          refine gg_goto (pc := 112) cx (tgt := 54) dX8_departureIf_112 (by decide) ?_
          refine gg_lv (lv' := [(0, .ref (gAd t 8 o0)), (1, .int x1), (2, .int n109)]) [2, 3, 0] rfl ?_
          exact ih o0 x1 n109 M105 v0 h
      · have h := g_it c71 h
        refine gg_aload_n (pc := 74) cx 1 rfl dX8_departureIf_74 rfl ?_
        refine gf_Tree_ahead (pc := 75) cx (hC 8 _ rfl v0) tw_561 dX8_departureIf_75 ?_
        refine gf_World_packets (pc := 78) cx (hC 7 _ rfl (Nat.le_of_ble_eq_true rfl)) tw_302 dX8_departureIf_78 ?_
        refine gf_Packets_departure (pc := 81) cx (hC 4 _ rfl (Nat.le_of_ble_eq_true rfl)) tw_175 dX8_departureIf_81 ?_
        refine gg_iload_n (pc := 84) cx 2 rfl dX8_departureIf_84 rfl ?_
        have q85 := h.1
        have h := h.2
        refine gg_lald (pc := 85) cx (hC 31 _ rfl (Nat.le_of_ble_eq_true rfl)) rfl q85 dX8_departureIf_85 ?_
        refine gg_wide (k' := rm_X8_departureIf.cells) (n' := rm_X8_departureIf.slots) (Nat.le_of_ble_eq_true rfl) (Nat.le_of_ble_eq_true rfl) ?_
        exact gg_xlret (pc := 86) cx hQ h dX8_departureIf_86
set_option maxRecDepth 100000 in
set_option maxHeartbeats 4000000 in
theorem wk_X8_departureIf_b31 {t : gT} {X : gX} (cx : g_Cx t X cX8_departureIf 4 RX8 (some .long)) (hC : g_hC t) {K : Int64 → gM → Prop} {KX : Nat → gM → Prop} (hQ : gXQ X = vx_MQ (gXb X) (va_Ql K (g_B t) (g_A t)) (g_XC t KX) (gXa X) (gXs X) rm_X8_departureIf.cells rm_X8_departureIf.slots (g_A t)) (hx : ∀ x ∈ (gXc X).exceptionTable.toList, False)  {M : gM}  (h : wp_X8_departureIf_b31 K KX  M) : G t rm_X8_departureIf X 4 0 0 M [] [] 31 := by
  exact gg_throw (pc := 31) cx hQ hx g_thr0 tw_766 (g_st26 cx.T) (Nat.le_of_ble_eq_true rfl) (Nat.le_of_ble_eq_true rfl) ⟨Nat.le_of_ble_eq_true rfl, Nat.le_of_ble_eq_true rfl⟩ ⟨Nat.le_of_ble_eq_true rfl, Nat.le_of_ble_eq_true rfl⟩ dX8_departureIf_31 dX8_departureIf_34 dX8_departureIf_35 dX8_departureIf_37 dX8_departureIf_40 h
theorem cal_X8_departureIf : g_Cal yX8_departureIf cX8_departureIf 4 (some .long) 1 := ⟨tw_1, tw_1083, by decide, by decide, by decide +kernel⟩
theorem calv_X8_departureIf : g_CalV yX8_departureIf := ⟨tw_1081, tw_1082⟩
set_option maxRecDepth 100000 in
set_option maxHeartbeats 4000000 in
theorem ct_X8_departureIf {l : Launch} (hl : l.stackTraces = false) {t : gT} (hC : g_hC t) {o0 : Nat} {x1 : Int32} (v0 : o0 < 1) {M : gM} {K : Int64 → gM → Prop} {KX : Nat → gM → Prop} (h : wp_X8_departureIf o0 x1 M K KX) : vx_Met l yX8_departureIf (g_y yX8_departureIf cX8_departureIf 4 (some .long)) rm_X8_departureIf (va_Pc [.ref (gAd t 8 o0), .int x1] (g_Pre t M)) (va_Ql K (g_B t) (g_A t)) (g_XC t KX) rm_X8_departureIf.cells rm_X8_departureIf.slots (g_A t) := by
  refine g_xmet hl rfl (Nat.le_of_ble_eq_true rfl) (fun X hlX cx hx hQ => ?_)
  subst hlX
  refine gg_aload_n (pc := 0) cx 0 rfl dX8_departureIf_0 rfl ?_
  refine gf_Tree_now (pc := 1) cx (hC 8 _ rfl v0) tw_560 dX8_departureIf_1 ?_
  refine gf_World_packets (pc := 4) cx (hC 7 _ rfl (Nat.le_of_ble_eq_true rfl)) tw_302 dX8_departureIf_4 ?_
  refine gg_iload_n (pc := 7) cx 1 rfl dX8_departureIf_7 rfl ?_
  refine gg_callVi (pc := 8) cx cal_X4_has calv_X4_has (ct_X4_has cx.tr hC (Nat.le_of_ble_eq_true rfl) h) tw_1084 (hC 4 _ rfl (Nat.le_of_ble_eq_true rfl)) rfl rfl rfl (st := []) rfl (Nat.le_of_ble_eq_true rfl) ⟨Nat.le_of_ble_eq_true rfl, Nat.le_of_ble_eq_true rfl⟩ ⟨Nat.le_of_ble_eq_true rfl, Nat.le_of_ble_eq_true rfl⟩ dX8_departureIf_8 (fun r8 M8 h => ?_)
  refine gg_if_eq (pc := 11) cx (tgt := 31) dX8_departureIf_11 (by decide) (fun c11 => ?_) (fun c11 => ?_)
  · have h := g_it c11 h
    refine gg_lv (lv' := []) [] rfl ?_
    exact wk_X8_departureIf_b31 cx hC hQ hx  h
  · have h := g_if c11 h
    refine gg_aload_n (pc := 14) cx 0 rfl dX8_departureIf_14 rfl ?_
    refine gf_Tree_now (pc := 15) cx (hC 8 _ rfl v0) tw_560 dX8_departureIf_15 ?_
    refine gf_World_packets (pc := 18) cx (hC 7 _ rfl (Nat.le_of_ble_eq_true rfl)) tw_302 dX8_departureIf_18 ?_
    refine gf_Packets_departure (pc := 21) cx (hC 4 _ rfl (Nat.le_of_ble_eq_true rfl)) tw_175 dX8_departureIf_21 ?_
    refine gg_iload_n (pc := 24) cx 1 rfl dX8_departureIf_24 rfl ?_
    have q25 := h.1
    have h := h.2
    refine gg_lald (pc := 25) cx (hC 31 _ rfl (Nat.le_of_ble_eq_true rfl)) rfl q25 dX8_departureIf_25 ?_
    refine gg_lconst (pc := 26) cx (v := 0) dX8_departureIf_26 (by decide) ?_
    refine gg_lcmp_lt (pc := 27) cx (tgt := 41) dX8_departureIf_27 dX8_departureIf_28 (by decide) (fun c27 => ?_) (fun c27 => ?_)
    · have h := g_it c27 h
      refine gg_aload_n (pc := 41) cx 0 rfl dX8_departureIf_41 rfl ?_
      refine gf_Tree_ahead (pc := 42) cx (hC 8 _ rfl v0) tw_561 dX8_departureIf_42 ?_
      refine gg_aload_n (pc := 45) cx 0 rfl dX8_departureIf_45 rfl ?_
      refine gf_Tree_now (pc := 46) cx (hC 8 _ rfl v0) tw_560 dX8_departureIf_46 ?_
      refine gg_callVv (pc := 49) cx cal_X7_copyFrom calv_X7_copyFrom (ct_X7_copyFrom cx.tr hC (Nat.le_of_ble_eq_true rfl) (Nat.le_of_ble_eq_true rfl) h) tw_1053 (hC 7 _ rfl (Nat.le_of_ble_eq_true rfl)) rfl rfl rfl (st := []) rfl (Nat.le_of_ble_eq_true rfl) ⟨Nat.le_of_ble_eq_true rfl, Nat.le_of_ble_eq_true rfl⟩ ⟨Nat.le_of_ble_eq_true rfl, Nat.le_of_ble_eq_true rfl⟩ dX8_departureIf_49 (fun M49 h => ?_)
      refine gg_iconst (pc := 52) cx (v := 0) dX8_departureIf_52 (by decide) ?_
      refine gg_istore_n (pc := 53) cx [(2, .int 0), (0, .ref (gAd t 8 o0)), (1, .int x1)] dX8_departureIf_53 rfl (by decide) rfl ?_
      refine gg_lv (lv' := [(0, .ref (gAd t 8 o0)), (1, .int x1), (2, .int 0)]) [1, 2, 0] rfl ?_
      obtain ⟨f54, h⟩ := h
      exact wk_X8_departureIf_L54 cx hC hQ hx f54 o0 x1 0 M49 v0 h
    · have h := g_if c27 h
      refine gg_lv (lv' := []) [] rfl ?_
      exact wk_X8_departureIf_b31 cx hC hQ hx  h
theorem cal_X8_needPacket : g_Cal yX8_needPacket cX8_needPacket 2 (none) 1 := ⟨tw_1, tw_1097, by decide, by decide, by decide +kernel⟩
theorem calv_X8_needPacket : g_CalV yX8_needPacket := ⟨tw_1096, ts_23⟩
set_option maxRecDepth 100000 in
set_option maxHeartbeats 4000000 in
theorem ct_X8_needPacket {l : Launch} (hl : l.stackTraces = false) {t : gT} (hC : g_hC t) {o0 : Nat} {x1 : Int32} (v0 : o0 < 1) {M : gM} {K : gM → Prop} {KX : Nat → gM → Prop} (h : wp_X8_needPacket o0 x1 M K KX) : vx_Met l yX8_needPacket (g_y yX8_needPacket cX8_needPacket 2 (none)) rm_X8_needPacket (va_Pc [.ref (gAd t 8 o0), .int x1] (g_Pre t M)) (va_Qv K (g_B t) (g_A t)) (g_XC t KX) rm_X8_needPacket.cells rm_X8_needPacket.slots (g_A t) := by
  refine g_xmet hl rfl (Nat.le_of_ble_eq_true rfl) (fun X hlX cx hx hQ => ?_)
  subst hlX
  refine gg_aload_n (pc := 0) cx 0 rfl dX8_needPacket_0 rfl ?_
  refine gf_Tree_now (pc := 1) cx (hC 8 _ rfl v0) tw_560 dX8_needPacket_1 ?_
  refine gf_World_packets (pc := 4) cx (hC 7 _ rfl (Nat.le_of_ble_eq_true rfl)) tw_302 dX8_needPacket_4 ?_
  refine gg_iload_n (pc := 7) cx 1 rfl dX8_needPacket_7 rfl ?_
  refine gg_callVi (pc := 8) cx cal_X4_has calv_X4_has (ct_X4_has cx.tr hC (Nat.le_of_ble_eq_true rfl) h) tw_1084 (hC 4 _ rfl (Nat.le_of_ble_eq_true rfl)) rfl rfl rfl (st := []) rfl (Nat.le_of_ble_eq_true rfl) ⟨Nat.le_of_ble_eq_true rfl, Nat.le_of_ble_eq_true rfl⟩ ⟨Nat.le_of_ble_eq_true rfl, Nat.le_of_ble_eq_true rfl⟩ dX8_needPacket_8 (fun r8 M8 h => ?_)
  refine gg_if_ne (pc := 11) cx (tgt := 25) dX8_needPacket_11 (by decide) (fun c11 => ?_) (fun c11 => ?_)
  · have h := g_if c11 h
    refine gg_wide (k' := rm_X8_needPacket.cells) (n' := rm_X8_needPacket.slots) (Nat.le_of_ble_eq_true rfl) (Nat.le_of_ble_eq_true rfl) ?_
    exact gg_xvret (pc := 25) cx hQ h dX8_needPacket_25
  · have h := g_it c11 h
    exact gg_throwW (pc := 14) cx hQ hx g_thr2 tw_865 (g_st27 cx.T) (Nat.le_of_ble_eq_true rfl) (Nat.le_of_ble_eq_true rfl) ⟨Nat.le_of_ble_eq_true rfl, Nat.le_of_ble_eq_true rfl⟩ ⟨Nat.le_of_ble_eq_true rfl, Nat.le_of_ble_eq_true rfl⟩ dX8_needPacket_14 dX8_needPacket_17 dX8_needPacket_18 dX8_needPacket_21 dX8_needPacket_24 h
theorem cal_X8_flowOf : g_Cal yX8_flowOf cX8_flowOf 2 (some .int) 1 := ⟨tw_1, tw_1093, by decide, by decide, by decide +kernel⟩
theorem calv_X8_flowOf : g_CalV yX8_flowOf := ⟨tw_1091, tw_1092⟩
set_option maxRecDepth 100000 in
set_option maxHeartbeats 4000000 in
theorem ct_X8_flowOf {l : Launch} (hl : l.stackTraces = false) {t : gT} (hC : g_hC t) {o0 : Nat} {x1 : Int32} (v0 : o0 < 1) {M : gM} {K : Int32 → gM → Prop} {KX : Nat → gM → Prop} (h : wp_X8_flowOf o0 x1 M K KX) : vx_Met l yX8_flowOf (g_y yX8_flowOf cX8_flowOf 2 (some .int)) rm_X8_flowOf (va_Pc [.ref (gAd t 8 o0), .int x1] (g_Pre t M)) (va_Qi K (g_B t) (g_A t)) (g_XC t KX) rm_X8_flowOf.cells rm_X8_flowOf.slots (g_A t) := by
  refine g_xmet hl rfl (Nat.le_of_ble_eq_true rfl) (fun X hlX cx hx hQ => ?_)
  subst hlX
  refine gg_aload_n (pc := 0) cx 0 rfl dX8_flowOf_0 rfl ?_
  refine gg_iload_n (pc := 1) cx 1 rfl dX8_flowOf_1 rfl ?_
  refine gg_xcallVv (pc := 2) cx cal_X8_needPacket calv_X8_needPacket (ct_X8_needPacket cx.tr hC v0 h) tw_1094 (hC 8 _ rfl v0) rfl rfl rfl (st := []) rfl (Nat.le_of_ble_eq_true rfl) ⟨Nat.le_of_ble_eq_true rfl, Nat.le_of_ble_eq_true rfl⟩ ⟨Nat.le_of_ble_eq_true rfl, Nat.le_of_ble_eq_true rfl⟩ dX8_flowOf_2 hQ hx ⟨Nat.le_of_ble_eq_true rfl, Nat.le_of_ble_eq_true rfl⟩ (fun M2 h => ?_)
  refine gg_aload_n (pc := 5) cx 0 rfl dX8_flowOf_5 rfl ?_
  refine gf_Tree_now (pc := 6) cx (hC 8 _ rfl v0) tw_560 dX8_flowOf_6 ?_
  refine gf_World_packets (pc := 9) cx (hC 7 _ rfl (Nat.le_of_ble_eq_true rfl)) tw_302 dX8_flowOf_9 ?_
  refine gf_Packets_flow (pc := 12) cx (hC 4 _ rfl (Nat.le_of_ble_eq_true rfl)) tw_163 dX8_flowOf_12 ?_
  refine gg_iload_n (pc := 15) cx 1 rfl dX8_flowOf_15 rfl ?_
  have q16 := h.1
  have h := h.2
  refine gg_iald (pc := 16) cx (hC 26 _ rfl (Nat.le_of_ble_eq_true rfl)) rfl q16 dX8_flowOf_16 ?_
  exact gg_xiret (pc := 17) cx hQ h dX8_flowOf_17
theorem cal_X8_deadlineOf : g_Cal yX8_deadlineOf cX8_deadlineOf 2 (some .long) 1 := ⟨tw_1, tw_1105, by decide, by decide, by decide +kernel⟩
theorem calv_X8_deadlineOf : g_CalV yX8_deadlineOf := ⟨tw_1103, tw_1104⟩
set_option maxRecDepth 100000 in
set_option maxHeartbeats 4000000 in
theorem ct_X8_deadlineOf {l : Launch} (hl : l.stackTraces = false) {t : gT} (hC : g_hC t) {o0 : Nat} {x1 : Int32} (v0 : o0 < 1) {M : gM} {K : Int64 → gM → Prop} {KX : Nat → gM → Prop} (h : wp_X8_deadlineOf o0 x1 M K KX) : vx_Met l yX8_deadlineOf (g_y yX8_deadlineOf cX8_deadlineOf 2 (some .long)) rm_X8_deadlineOf (va_Pc [.ref (gAd t 8 o0), .int x1] (g_Pre t M)) (va_Ql K (g_B t) (g_A t)) (g_XC t KX) rm_X8_deadlineOf.cells rm_X8_deadlineOf.slots (g_A t) := by
  refine g_xmet hl rfl (Nat.le_of_ble_eq_true rfl) (fun X hlX cx hx hQ => ?_)
  subst hlX
  refine gg_aload_n (pc := 0) cx 0 rfl dX8_deadlineOf_0 rfl ?_
  refine gg_iload_n (pc := 1) cx 1 rfl dX8_deadlineOf_1 rfl ?_
  refine gg_xcallVv (pc := 2) cx cal_X8_needPacket calv_X8_needPacket (ct_X8_needPacket cx.tr hC v0 h) tw_1094 (hC 8 _ rfl v0) rfl rfl rfl (st := []) rfl (Nat.le_of_ble_eq_true rfl) ⟨Nat.le_of_ble_eq_true rfl, Nat.le_of_ble_eq_true rfl⟩ ⟨Nat.le_of_ble_eq_true rfl, Nat.le_of_ble_eq_true rfl⟩ dX8_deadlineOf_2 hQ hx ⟨Nat.le_of_ble_eq_true rfl, Nat.le_of_ble_eq_true rfl⟩ (fun M2 h => ?_)
  refine gg_aload_n (pc := 5) cx 0 rfl dX8_deadlineOf_5 rfl ?_
  refine gf_Tree_now (pc := 6) cx (hC 8 _ rfl v0) tw_560 dX8_deadlineOf_6 ?_
  refine gf_World_packets (pc := 9) cx (hC 7 _ rfl (Nat.le_of_ble_eq_true rfl)) tw_302 dX8_deadlineOf_9 ?_
  refine gf_Packets_deadline (pc := 12) cx (hC 4 _ rfl (Nat.le_of_ble_eq_true rfl)) tw_172 dX8_deadlineOf_12 ?_
  refine gg_iload_n (pc := 15) cx 1 rfl dX8_deadlineOf_15 rfl ?_
  have q16 := h.1
  have h := h.2
  refine gg_lald (pc := 16) cx (hC 30 _ rfl (Nat.le_of_ble_eq_true rfl)) rfl q16 dX8_deadlineOf_16 ?_
  exact gg_xlret (pc := 17) cx hQ h dX8_deadlineOf_17
theorem cal_X8_departureOf : g_Cal yX8_departureOf cX8_departureOf 2 (some .long) 1 := ⟨tw_1, tw_1112, by decide, by decide, by decide +kernel⟩
theorem calv_X8_departureOf : g_CalV yX8_departureOf := ⟨tw_1110, tw_1111⟩
set_option maxRecDepth 100000 in
set_option maxHeartbeats 4000000 in
theorem ct_X8_departureOf {l : Launch} (hl : l.stackTraces = false) {t : gT} (hC : g_hC t) {o0 : Nat} {x1 : Int32} (v0 : o0 < 1) {M : gM} {K : Int64 → gM → Prop} {KX : Nat → gM → Prop} (h : wp_X8_departureOf o0 x1 M K KX) : vx_Met l yX8_departureOf (g_y yX8_departureOf cX8_departureOf 2 (some .long)) rm_X8_departureOf (va_Pc [.ref (gAd t 8 o0), .int x1] (g_Pre t M)) (va_Ql K (g_B t) (g_A t)) (g_XC t KX) rm_X8_departureOf.cells rm_X8_departureOf.slots (g_A t) := by
  refine g_xmet hl rfl (Nat.le_of_ble_eq_true rfl) (fun X hlX cx hx hQ => ?_)
  subst hlX
  refine gg_aload_n (pc := 0) cx 0 rfl dX8_departureOf_0 rfl ?_
  refine gg_iload_n (pc := 1) cx 1 rfl dX8_departureOf_1 rfl ?_
  refine gg_xcallVv (pc := 2) cx cal_X8_needPacket calv_X8_needPacket (ct_X8_needPacket cx.tr hC v0 h) tw_1094 (hC 8 _ rfl v0) rfl rfl rfl (st := []) rfl (Nat.le_of_ble_eq_true rfl) ⟨Nat.le_of_ble_eq_true rfl, Nat.le_of_ble_eq_true rfl⟩ ⟨Nat.le_of_ble_eq_true rfl, Nat.le_of_ble_eq_true rfl⟩ dX8_departureOf_2 hQ hx ⟨Nat.le_of_ble_eq_true rfl, Nat.le_of_ble_eq_true rfl⟩ (fun M2 h => ?_)
  refine gg_aload_n (pc := 5) cx 0 rfl dX8_departureOf_5 rfl ?_
  refine gf_Tree_now (pc := 6) cx (hC 8 _ rfl v0) tw_560 dX8_departureOf_6 ?_
  refine gf_World_packets (pc := 9) cx (hC 7 _ rfl (Nat.le_of_ble_eq_true rfl)) tw_302 dX8_departureOf_9 ?_
  refine gf_Packets_departure (pc := 12) cx (hC 4 _ rfl (Nat.le_of_ble_eq_true rfl)) tw_175 dX8_departureOf_12 ?_
  refine gg_iload_n (pc := 15) cx 1 rfl dX8_departureOf_15 rfl ?_
  have q16 := h.1
  have h := h.2
  refine gg_lald (pc := 16) cx (hC 31 _ rfl (Nat.le_of_ble_eq_true rfl)) rfl q16 dX8_departureOf_16 ?_
  exact gg_xlret (pc := 17) cx hQ h dX8_departureOf_17
theorem cal_X8_sent : g_Cal yX8_sent cX8_sent 2 (some .int) 1 := ⟨tw_1, tw_1119, by decide, by decide, by decide +kernel⟩
theorem calv_X8_sent : g_CalV yX8_sent := ⟨tw_1117, tw_1118⟩
set_option maxRecDepth 100000 in
set_option maxHeartbeats 4000000 in
theorem ct_X8_sent {l : Launch} (hl : l.stackTraces = false) {t : gT} (hC : g_hC t) {o0 : Nat} {x1 : Int32} (v0 : o0 < 1) {M : gM} {K : Int32 → gM → Prop} {KX : Nat → gM → Prop} (h : wp_X8_sent o0 x1 M K KX) : vx_Met l yX8_sent (g_y yX8_sent cX8_sent 2 (some .int)) rm_X8_sent (va_Pc [.ref (gAd t 8 o0), .int x1] (g_Pre t M)) (va_Qi K (g_B t) (g_A t)) (g_XC t KX) rm_X8_sent.cells rm_X8_sent.slots (g_A t) := by
  refine g_xmet hl rfl (Nat.le_of_ble_eq_true rfl) (fun X hlX cx hx hQ => ?_)
  subst hlX
  refine gg_iload_n (pc := 0) cx 1 rfl dX8_sent_0 rfl ?_
  refine gg_xcallSv (pc := 1) cx cal_X8_needFlow tw_916 (ct_X8_needFlow cx.tr hC  h) tw_915 rfl (st := []) rfl (Nat.le_of_ble_eq_true rfl) ⟨Nat.le_of_ble_eq_true rfl, Nat.le_of_ble_eq_true rfl⟩ ⟨Nat.le_of_ble_eq_true rfl, Nat.le_of_ble_eq_true rfl⟩ dX8_sent_1 hQ hx ⟨Nat.le_of_ble_eq_true rfl, Nat.le_of_ble_eq_true rfl⟩ (fun M1 h => ?_)
  refine gg_aload_n (pc := 4) cx 0 rfl dX8_sent_4 rfl ?_
  refine gf_Tree_now (pc := 5) cx (hC 8 _ rfl v0) tw_560 dX8_sent_5 ?_
  refine gf_World_flows (pc := 8) cx (hC 7 _ rfl (Nat.le_of_ble_eq_true rfl)) tw_304 dX8_sent_8 ?_
  refine gf_Flows_packetsSent (pc := 11) cx (hC 1 _ rfl (Nat.le_of_ble_eq_true rfl)) tw_204 dX8_sent_11 ?_
  refine gg_iload_n (pc := 14) cx 1 rfl dX8_sent_14 rfl ?_
  have q15 := h.1
  have h := h.2
  refine gg_iald (pc := 15) cx (hC 14 _ rfl (Nat.le_of_ble_eq_true rfl)) rfl q15 dX8_sent_15 ?_
  exact gg_xiret (pc := 16) cx hQ h dX8_sent_16
theorem cal_X8_sentBytes : g_Cal yX8_sentBytes cX8_sentBytes 2 (some .int) 1 := ⟨tw_1, tw_1126, by decide, by decide, by decide +kernel⟩
theorem calv_X8_sentBytes : g_CalV yX8_sentBytes := ⟨tw_1124, tw_1125⟩
set_option maxRecDepth 100000 in
set_option maxHeartbeats 4000000 in
theorem ct_X8_sentBytes {l : Launch} (hl : l.stackTraces = false) {t : gT} (hC : g_hC t) {o0 : Nat} {x1 : Int32} (v0 : o0 < 1) {M : gM} {K : Int32 → gM → Prop} {KX : Nat → gM → Prop} (h : wp_X8_sentBytes o0 x1 M K KX) : vx_Met l yX8_sentBytes (g_y yX8_sentBytes cX8_sentBytes 2 (some .int)) rm_X8_sentBytes (va_Pc [.ref (gAd t 8 o0), .int x1] (g_Pre t M)) (va_Qi K (g_B t) (g_A t)) (g_XC t KX) rm_X8_sentBytes.cells rm_X8_sentBytes.slots (g_A t) := by
  refine g_xmet hl rfl (Nat.le_of_ble_eq_true rfl) (fun X hlX cx hx hQ => ?_)
  subst hlX
  refine gg_iload_n (pc := 0) cx 1 rfl dX8_sentBytes_0 rfl ?_
  refine gg_xcallSv (pc := 1) cx cal_X8_needFlow tw_916 (ct_X8_needFlow cx.tr hC  h) tw_915 rfl (st := []) rfl (Nat.le_of_ble_eq_true rfl) ⟨Nat.le_of_ble_eq_true rfl, Nat.le_of_ble_eq_true rfl⟩ ⟨Nat.le_of_ble_eq_true rfl, Nat.le_of_ble_eq_true rfl⟩ dX8_sentBytes_1 hQ hx ⟨Nat.le_of_ble_eq_true rfl, Nat.le_of_ble_eq_true rfl⟩ (fun M1 h => ?_)
  refine gg_aload_n (pc := 4) cx 0 rfl dX8_sentBytes_4 rfl ?_
  refine gf_Tree_now (pc := 5) cx (hC 8 _ rfl v0) tw_560 dX8_sentBytes_5 ?_
  refine gf_World_flows (pc := 8) cx (hC 7 _ rfl (Nat.le_of_ble_eq_true rfl)) tw_304 dX8_sentBytes_8 ?_
  refine gf_Flows_bytesSent (pc := 11) cx (hC 1 _ rfl (Nat.le_of_ble_eq_true rfl)) tw_206 dX8_sentBytes_11 ?_
  refine gg_iload_n (pc := 14) cx 1 rfl dX8_sentBytes_14 rfl ?_
  have q15 := h.1
  have h := h.2
  refine gg_iald (pc := 15) cx (hC 15 _ rfl (Nat.le_of_ble_eq_true rfl)) rfl q15 dX8_sentBytes_15 ?_
  exact gg_xiret (pc := 16) cx hQ h dX8_sentBytes_16
theorem cal_X8_totalDelay : g_Cal yX8_totalDelay cX8_totalDelay 2 (some .long) 1 := ⟨tw_1, tw_1133, by decide, by decide, by decide +kernel⟩
theorem calv_X8_totalDelay : g_CalV yX8_totalDelay := ⟨tw_1131, tw_1132⟩
set_option maxRecDepth 100000 in
set_option maxHeartbeats 4000000 in
theorem ct_X8_totalDelay {l : Launch} (hl : l.stackTraces = false) {t : gT} (hC : g_hC t) {o0 : Nat} {x1 : Int32} (v0 : o0 < 1) {M : gM} {K : Int64 → gM → Prop} {KX : Nat → gM → Prop} (h : wp_X8_totalDelay o0 x1 M K KX) : vx_Met l yX8_totalDelay (g_y yX8_totalDelay cX8_totalDelay 2 (some .long)) rm_X8_totalDelay (va_Pc [.ref (gAd t 8 o0), .int x1] (g_Pre t M)) (va_Ql K (g_B t) (g_A t)) (g_XC t KX) rm_X8_totalDelay.cells rm_X8_totalDelay.slots (g_A t) := by
  refine g_xmet hl rfl (Nat.le_of_ble_eq_true rfl) (fun X hlX cx hx hQ => ?_)
  subst hlX
  refine gg_iload_n (pc := 0) cx 1 rfl dX8_totalDelay_0 rfl ?_
  refine gg_xcallSv (pc := 1) cx cal_X8_needFlow tw_916 (ct_X8_needFlow cx.tr hC  h) tw_915 rfl (st := []) rfl (Nat.le_of_ble_eq_true rfl) ⟨Nat.le_of_ble_eq_true rfl, Nat.le_of_ble_eq_true rfl⟩ ⟨Nat.le_of_ble_eq_true rfl, Nat.le_of_ble_eq_true rfl⟩ dX8_totalDelay_1 hQ hx ⟨Nat.le_of_ble_eq_true rfl, Nat.le_of_ble_eq_true rfl⟩ (fun M1 h => ?_)
  refine gg_aload_n (pc := 4) cx 0 rfl dX8_totalDelay_4 rfl ?_
  refine gf_Tree_now (pc := 5) cx (hC 8 _ rfl v0) tw_560 dX8_totalDelay_5 ?_
  refine gf_World_flows (pc := 8) cx (hC 7 _ rfl (Nat.le_of_ble_eq_true rfl)) tw_304 dX8_totalDelay_8 ?_
  refine gf_Flows_delaySum (pc := 11) cx (hC 1 _ rfl (Nat.le_of_ble_eq_true rfl)) tw_208 dX8_totalDelay_11 ?_
  refine gg_iload_n (pc := 14) cx 1 rfl dX8_totalDelay_14 rfl ?_
  have q15 := h.1
  have h := h.2
  refine gg_lald (pc := 15) cx (hC 16 _ rfl (Nat.le_of_ble_eq_true rfl)) rfl q15 dX8_totalDelay_15 ?_
  exact gg_xlret (pc := 16) cx hQ h dX8_totalDelay_16
theorem cal_X8_greatestDelay : g_Cal yX8_greatestDelay cX8_greatestDelay 2 (some .long) 1 := ⟨tw_1, tw_1140, by decide, by decide, by decide +kernel⟩
theorem calv_X8_greatestDelay : g_CalV yX8_greatestDelay := ⟨tw_1138, tw_1139⟩
set_option maxRecDepth 100000 in
set_option maxHeartbeats 4000000 in
theorem ct_X8_greatestDelay {l : Launch} (hl : l.stackTraces = false) {t : gT} (hC : g_hC t) {o0 : Nat} {x1 : Int32} (v0 : o0 < 1) {M : gM} {K : Int64 → gM → Prop} {KX : Nat → gM → Prop} (h : wp_X8_greatestDelay o0 x1 M K KX) : vx_Met l yX8_greatestDelay (g_y yX8_greatestDelay cX8_greatestDelay 2 (some .long)) rm_X8_greatestDelay (va_Pc [.ref (gAd t 8 o0), .int x1] (g_Pre t M)) (va_Ql K (g_B t) (g_A t)) (g_XC t KX) rm_X8_greatestDelay.cells rm_X8_greatestDelay.slots (g_A t) := by
  refine g_xmet hl rfl (Nat.le_of_ble_eq_true rfl) (fun X hlX cx hx hQ => ?_)
  subst hlX
  refine gg_iload_n (pc := 0) cx 1 rfl dX8_greatestDelay_0 rfl ?_
  refine gg_xcallSv (pc := 1) cx cal_X8_needFlow tw_916 (ct_X8_needFlow cx.tr hC  h) tw_915 rfl (st := []) rfl (Nat.le_of_ble_eq_true rfl) ⟨Nat.le_of_ble_eq_true rfl, Nat.le_of_ble_eq_true rfl⟩ ⟨Nat.le_of_ble_eq_true rfl, Nat.le_of_ble_eq_true rfl⟩ dX8_greatestDelay_1 hQ hx ⟨Nat.le_of_ble_eq_true rfl, Nat.le_of_ble_eq_true rfl⟩ (fun M1 h => ?_)
  refine gg_aload_n (pc := 4) cx 0 rfl dX8_greatestDelay_4 rfl ?_
  refine gf_Tree_now (pc := 5) cx (hC 8 _ rfl v0) tw_560 dX8_greatestDelay_5 ?_
  refine gf_World_flows (pc := 8) cx (hC 7 _ rfl (Nat.le_of_ble_eq_true rfl)) tw_304 dX8_greatestDelay_8 ?_
  refine gf_Flows_delayMaximum (pc := 11) cx (hC 1 _ rfl (Nat.le_of_ble_eq_true rfl)) tw_210 dX8_greatestDelay_11 ?_
  refine gg_iload_n (pc := 14) cx 1 rfl dX8_greatestDelay_14 rfl ?_
  have q15 := h.1
  have h := h.2
  refine gg_lald (pc := 15) cx (hC 17 _ rfl (Nat.le_of_ble_eq_true rfl)) rfl q15 dX8_greatestDelay_15 ?_
  exact gg_xlret (pc := 16) cx hQ h dX8_greatestDelay_16
theorem cal_X8_missed : g_Cal yX8_missed cX8_missed 2 (some .int) 1 := ⟨tw_1, tw_1147, by decide, by decide, by decide +kernel⟩
theorem calv_X8_missed : g_CalV yX8_missed := ⟨tw_1145, tw_1146⟩
set_option maxRecDepth 100000 in
set_option maxHeartbeats 4000000 in
theorem ct_X8_missed {l : Launch} (hl : l.stackTraces = false) {t : gT} (hC : g_hC t) {o0 : Nat} {x1 : Int32} (v0 : o0 < 1) {M : gM} {K : Int32 → gM → Prop} {KX : Nat → gM → Prop} (h : wp_X8_missed o0 x1 M K KX) : vx_Met l yX8_missed (g_y yX8_missed cX8_missed 2 (some .int)) rm_X8_missed (va_Pc [.ref (gAd t 8 o0), .int x1] (g_Pre t M)) (va_Qi K (g_B t) (g_A t)) (g_XC t KX) rm_X8_missed.cells rm_X8_missed.slots (g_A t) := by
  refine g_xmet hl rfl (Nat.le_of_ble_eq_true rfl) (fun X hlX cx hx hQ => ?_)
  subst hlX
  refine gg_iload_n (pc := 0) cx 1 rfl dX8_missed_0 rfl ?_
  refine gg_xcallSv (pc := 1) cx cal_X8_needFlow tw_916 (ct_X8_needFlow cx.tr hC  h) tw_915 rfl (st := []) rfl (Nat.le_of_ble_eq_true rfl) ⟨Nat.le_of_ble_eq_true rfl, Nat.le_of_ble_eq_true rfl⟩ ⟨Nat.le_of_ble_eq_true rfl, Nat.le_of_ble_eq_true rfl⟩ dX8_missed_1 hQ hx ⟨Nat.le_of_ble_eq_true rfl, Nat.le_of_ble_eq_true rfl⟩ (fun M1 h => ?_)
  refine gg_aload_n (pc := 4) cx 0 rfl dX8_missed_4 rfl ?_
  refine gf_Tree_now (pc := 5) cx (hC 8 _ rfl v0) tw_560 dX8_missed_5 ?_
  refine gf_World_flows (pc := 8) cx (hC 7 _ rfl (Nat.le_of_ble_eq_true rfl)) tw_304 dX8_missed_8 ?_
  refine gf_Flows_late (pc := 11) cx (hC 1 _ rfl (Nat.le_of_ble_eq_true rfl)) tw_212 dX8_missed_11 ?_
  refine gg_iload_n (pc := 14) cx 1 rfl dX8_missed_14 rfl ?_
  have q15 := h.1
  have h := h.2
  refine gg_iald (pc := 15) cx (hC 18 _ rfl (Nat.le_of_ble_eq_true rfl)) rfl q15 dX8_missed_15 ?_
  exact gg_xiret (pc := 16) cx hQ h dX8_missed_16
theorem cal_X8_share : g_Cal yX8_share cX8_share 4 (some .int) 1 := ⟨tw_1, tw_1154, by decide, by decide, by decide +kernel⟩
theorem calv_X8_share : g_CalV yX8_share := ⟨tw_1152, tw_1153⟩
set_option maxRecDepth 100000 in
set_option maxHeartbeats 4000000 in
theorem ct_X8_share {l : Launch} (hl : l.stackTraces = false) {t : gT} (hC : g_hC t) {o0 : Nat} {x1 : Int32} (v0 : o0 < 1) {M : gM} {K : Int32 → gM → Prop} {KX : Nat → gM → Prop} (h : wp_X8_share o0 x1 M K KX) : vx_Met l yX8_share (g_y yX8_share cX8_share 4 (some .int)) rm_X8_share (va_Pc [.ref (gAd t 8 o0), .int x1] (g_Pre t M)) (va_Qi K (g_B t) (g_A t)) (g_XC t KX) rm_X8_share.cells rm_X8_share.slots (g_A t) := by
  refine g_xmet hl rfl (Nat.le_of_ble_eq_true rfl) (fun X hlX cx hx hQ => ?_)
  subst hlX
  refine gg_iload_n (pc := 0) cx 1 rfl dX8_share_0 rfl ?_
  refine gg_xcallSv (pc := 1) cx cal_X8_needFlow tw_916 (ct_X8_needFlow cx.tr hC  h) tw_915 rfl (st := []) rfl (Nat.le_of_ble_eq_true rfl) ⟨Nat.le_of_ble_eq_true rfl, Nat.le_of_ble_eq_true rfl⟩ ⟨Nat.le_of_ble_eq_true rfl, Nat.le_of_ble_eq_true rfl⟩ dX8_share_1 hQ hx ⟨Nat.le_of_ble_eq_true rfl, Nat.le_of_ble_eq_true rfl⟩ (fun M1 h => ?_)
  refine gg_aload_n (pc := 4) cx 0 rfl dX8_share_4 rfl ?_
  refine gf_Tree_now (pc := 5) cx (hC 8 _ rfl v0) tw_560 dX8_share_5 ?_
  refine gf_World_flows (pc := 8) cx (hC 7 _ rfl (Nat.le_of_ble_eq_true rfl)) tw_304 dX8_share_8 ?_
  refine gg_callVl (pc := 11) cx cal_X1_allBytes calv_X1_allBytes (ct_X1_allBytes cx.tr hC (Nat.le_of_ble_eq_true rfl) h) tw_1155 (hC 1 _ rfl (Nat.le_of_ble_eq_true rfl)) rfl rfl rfl (st := []) rfl (Nat.le_of_ble_eq_true rfl) ⟨Nat.le_of_ble_eq_true rfl, Nat.le_of_ble_eq_true rfl⟩ ⟨Nat.le_of_ble_eq_true rfl, Nat.le_of_ble_eq_true rfl⟩ dX8_share_11 (fun r11 M11 h => ?_)
  refine gg_lstore_n (pc := 14) cx [(2, .long r11), (0, .ref (gAd t 8 o0)), (1, .int x1)] dX8_share_14 rfl (by decide) rfl ?_
  refine gg_lload_n (pc := 15) cx 0 rfl dX8_share_15 rfl ?_
  refine gg_lconst (pc := 16) cx (v := 0) dX8_share_16 (by decide) ?_
  refine gg_lcmp_ne (pc := 17) cx (tgt := 23) dX8_share_17 dX8_share_18 (by decide) (fun c17 => ?_) (fun c17 => ?_)
  · have h := g_if c17 h
    refine gg_ldc2 (pc := 23) cx (v := 1000) tw_1159 dX8_share_23 ?_
    refine gg_aload_n (pc := 26) cx 1 rfl dX8_share_26 rfl ?_
    refine gf_Tree_now (pc := 27) cx (hC 8 _ rfl v0) tw_560 dX8_share_27 ?_
    refine gf_World_flows (pc := 30) cx (hC 7 _ rfl (Nat.le_of_ble_eq_true rfl)) tw_304 dX8_share_30 ?_
    refine gf_Flows_bytesSent (pc := 33) cx (hC 1 _ rfl (Nat.le_of_ble_eq_true rfl)) tw_206 dX8_share_33 ?_
    refine gg_iload_n (pc := 36) cx 2 rfl dX8_share_36 rfl ?_
    have q37 := h.1
    have h := h.2
    refine gg_iald (pc := 37) cx (hC 15 _ rfl (Nat.le_of_ble_eq_true rfl)) rfl q37 dX8_share_37 ?_
    refine gg_i2l (pc := 38) cx dX8_share_38 ?_
    refine gg_lmul (pc := 39) cx dX8_share_39 ?_
    refine gg_lload_n (pc := 40) cx 0 rfl dX8_share_40 rfl ?_
    refine gg_ldiv (pc := 41) cx dX8_share_41 h.1 ?_
    have h := h.2
    refine gg_l2i (pc := 42) cx dX8_share_42 ?_
    exact gg_xiret (pc := 43) cx hQ h dX8_share_43
  · have h := g_it c17 h
    refine gg_iconst (pc := 21) cx (v := 0) dX8_share_21 (by decide) ?_
    exact gg_xiret (pc := 22) cx hQ h dX8_share_22
set_option maxRecDepth 100000 in
set_option maxHeartbeats 4000000 in
theorem wk_X8_checkpoint_b19 {t : gT} {X : gX} (cx : g_Cx t X cX8_checkpoint 1 RX8 (some .int)) (hC : g_hC t) {K : Int32 → gM → Prop} {KX : Nat → gM → Prop} (hQ : gXQ X = vx_MQ (gXb X) (va_Qi K (g_B t) (g_A t)) (g_XC t KX) (gXa X) (gXs X) rm_X8_checkpoint.cells rm_X8_checkpoint.slots (g_A t)) (hx : ∀ x ∈ (gXc X).exceptionTable.toList, False)  {M : gM}  (h : wp_X8_checkpoint_b19 K KX  M) : G t rm_X8_checkpoint X 1 0 0 M [] [] 19 := by
  exact gg_throwW (pc := 19) cx hQ hx g_thr1 tw_833 (g_st28 cx.T) (Nat.le_of_ble_eq_true rfl) (Nat.le_of_ble_eq_true rfl) ⟨Nat.le_of_ble_eq_true rfl, Nat.le_of_ble_eq_true rfl⟩ ⟨Nat.le_of_ble_eq_true rfl, Nat.le_of_ble_eq_true rfl⟩ dX8_checkpoint_19 dX8_checkpoint_22 dX8_checkpoint_23 dX8_checkpoint_26 dX8_checkpoint_29 h
theorem cal_X8_checkpoint : g_Cal yX8_checkpoint cX8_checkpoint 1 (some .int) 0 := ⟨tw_1, tw_1166, by decide, by decide, by decide +kernel⟩
theorem calv_X8_checkpoint : g_CalV yX8_checkpoint := ⟨tw_1164, tw_1165⟩
set_option maxRecDepth 100000 in
set_option maxHeartbeats 4000000 in
theorem ct_X8_checkpoint {l : Launch} (hl : l.stackTraces = false) {t : gT} (hC : g_hC t) {o0 : Nat} (v0 : o0 < 1) {M : gM} {K : Int32 → gM → Prop} {KX : Nat → gM → Prop} (h : wp_X8_checkpoint o0 M K KX) : vx_Met l yX8_checkpoint (g_y yX8_checkpoint cX8_checkpoint 1 (some .int)) rm_X8_checkpoint (va_Pc [.ref (gAd t 8 o0)] (g_Pre t M)) (va_Qi K (g_B t) (g_A t)) (g_XC t KX) rm_X8_checkpoint.cells rm_X8_checkpoint.slots (g_A t) := by
  refine g_xmet hl rfl (Nat.le_of_ble_eq_true rfl) (fun X hlX cx hx hQ => ?_)
  subst hlX
  refine gg_aload_n (pc := 0) cx 0 rfl dX8_checkpoint_0 rfl ?_
  refine gf_Tree_keptCount (pc := 1) cx (hC 8 _ rfl v0) tw_563 dX8_checkpoint_1 ?_
  refine gg_if_lt (pc := 4) cx (tgt := 19) dX8_checkpoint_4 (by decide) (fun c4 => ?_) (fun c4 => ?_)
  · have h := g_it c4 h
    refine gg_lv (lv' := []) [] rfl ?_
    exact wk_X8_checkpoint_b19 cx hC hQ hx  h
  · have h := g_if c4 h
    refine gg_aload_n (pc := 7) cx 0 rfl dX8_checkpoint_7 rfl ?_
    refine gf_Tree_keptCount (pc := 8) cx (hC 8 _ rfl v0) tw_563 dX8_checkpoint_8 ?_
    refine gg_aload_n (pc := 11) cx 0 rfl dX8_checkpoint_11 rfl ?_
    refine gf_Tree_kept (pc := 12) cx (hC 8 _ rfl v0) tw_562 dX8_checkpoint_12 ?_
    refine gg_alen (pc := 15) cx (ca := 4) (v := 3) (hC 46 _ rfl v0) rfl rfl rfl dX8_checkpoint_15 ?_
    refine gg_icmp_lt (pc := 16) cx (tgt := 30) dX8_checkpoint_16 (by decide) (fun c16 => ?_) (fun c16 => ?_)
    · have h := g_it c16 h
      refine gg_aload_n (pc := 30) cx 0 rfl dX8_checkpoint_30 rfl ?_
      refine gf_Tree_kept (pc := 31) cx (hC 8 _ rfl v0) tw_562 dX8_checkpoint_31 ?_
      refine gg_aload_n (pc := 34) cx 0 rfl dX8_checkpoint_34 rfl ?_
      refine gf_Tree_keptCount (pc := 35) cx (hC 8 _ rfl v0) tw_563 dX8_checkpoint_35 ?_
      have q38 := h.1
      have h := h.2
      refine gg_aald (pc := 38) cx (ca := 4) (hC 46 _ rfl v0) rfl rfl q38 rfl dX8_checkpoint_38 ?_
      refine gg_aload_n (pc := 39) cx 0 rfl dX8_checkpoint_39 rfl ?_
      refine gf_Tree_now (pc := 40) cx (hC 8 _ rfl v0) tw_560 dX8_checkpoint_40 ?_
      refine gg_callVv (pc := 43) cx cal_X7_copyFrom calv_X7_copyFrom (ct_X7_copyFrom cx.tr hC (g_vW q38) (Nat.le_of_ble_eq_true rfl) h) tw_1053 (hC 7 _ rfl (g_vW q38)) rfl rfl rfl (st := []) rfl (Nat.le_of_ble_eq_true rfl) ⟨Nat.le_of_ble_eq_true rfl, Nat.le_of_ble_eq_true rfl⟩ ⟨Nat.le_of_ble_eq_true rfl, Nat.le_of_ble_eq_true rfl⟩ dX8_checkpoint_43 (fun M43 h => ?_)
      refine gg_aload_n (pc := 46) cx 0 rfl dX8_checkpoint_46 rfl ?_
      refine gg_dup (pc := 47) cx dX8_checkpoint_47 rfl ?_
      refine gf_Tree_keptCount (pc := 48) cx (hC 8 _ rfl v0) tw_563 dX8_checkpoint_48 ?_
      refine gg_iconst (pc := 51) cx (v := 1) dX8_checkpoint_51 (by decide) ?_
      refine gg_iadd (pc := 52) cx dX8_checkpoint_52 ?_
      refine gp_Tree_keptCount (pc := 53) cx (hC 8 _ rfl v0) tw_563 dX8_checkpoint_53 ?_
      refine gg_mem (fun M53 eM53 => ?_)
      have h := h M53 eM53
      refine gg_aload_n (pc := 56) cx 0 rfl dX8_checkpoint_56 rfl ?_
      refine gf_Tree_keptCount (pc := 57) cx (hC 8 _ rfl v0) tw_563 dX8_checkpoint_57 ?_
      refine gg_wide (k' := rm_X8_checkpoint.cells) (n' := rm_X8_checkpoint.slots) (Nat.le_of_ble_eq_true rfl) (Nat.le_of_ble_eq_true rfl) ?_
      exact gg_xiret (pc := 60) cx hQ h dX8_checkpoint_60
    · have h := g_if c16 h
      refine gg_lv (lv' := []) [] rfl ?_
      exact wk_X8_checkpoint_b19 cx hC hQ hx  h
set_option maxRecDepth 100000 in
set_option maxHeartbeats 4000000 in
theorem wk_X8_needCheckpoint_b20 {t : gT} {X : gX} (cx : g_Cx t X cX8_needCheckpoint 1 RX8 (none)) (hC : g_hC t) {K : gM → Prop} {KX : Nat → gM → Prop} (hQ : gXQ X = vx_MQ (gXb X) (va_Qv K (g_B t) (g_A t)) (g_XC t KX) (gXa X) (gXs X) rm_X8_needCheckpoint.cells rm_X8_needCheckpoint.slots (g_A t)) (hx : ∀ x ∈ (gXc X).exceptionTable.toList, False)  {M : gM}  (h : wp_X8_needCheckpoint_b20 K KX  M) : G t rm_X8_needCheckpoint X 1 0 0 M [] [] 20 := by
  exact gg_throwW (pc := 20) cx hQ hx g_thr1 tw_833 (g_st29 cx.T) (Nat.le_of_ble_eq_true rfl) (Nat.le_of_ble_eq_true rfl) ⟨Nat.le_of_ble_eq_true rfl, Nat.le_of_ble_eq_true rfl⟩ ⟨Nat.le_of_ble_eq_true rfl, Nat.le_of_ble_eq_true rfl⟩ dX8_needCheckpoint_20 dX8_needCheckpoint_23 dX8_needCheckpoint_24 dX8_needCheckpoint_27 dX8_needCheckpoint_30 h
theorem cal_X8_needCheckpoint : g_Cal yX8_needCheckpoint cX8_needCheckpoint 1 (none) 0 := ⟨tw_1, tw_1178, by decide, by decide, by decide +kernel⟩
theorem calv_X8_needCheckpoint : g_CalV yX8_needCheckpoint := ⟨tw_1177, ts_24⟩
set_option maxRecDepth 100000 in
set_option maxHeartbeats 4000000 in
theorem ct_X8_needCheckpoint {l : Launch} (hl : l.stackTraces = false) {t : gT} (hC : g_hC t) {o0 : Nat} (v0 : o0 < 1) {M : gM} {K : gM → Prop} {KX : Nat → gM → Prop} (h : wp_X8_needCheckpoint o0 M K KX) : vx_Met l yX8_needCheckpoint (g_y yX8_needCheckpoint cX8_needCheckpoint 1 (none)) rm_X8_needCheckpoint (va_Pc [.ref (gAd t 8 o0)] (g_Pre t M)) (va_Qv K (g_B t) (g_A t)) (g_XC t KX) rm_X8_needCheckpoint.cells rm_X8_needCheckpoint.slots (g_A t) := by
  refine g_xmet hl rfl (Nat.le_of_ble_eq_true rfl) (fun X hlX cx hx hQ => ?_)
  subst hlX
  refine gg_aload_n (pc := 0) cx 0 rfl dX8_needCheckpoint_0 rfl ?_
  refine gf_Tree_keptCount (pc := 1) cx (hC 8 _ rfl v0) tw_563 dX8_needCheckpoint_1 ?_
  refine gg_iconst (pc := 4) cx (v := 1) dX8_needCheckpoint_4 (by decide) ?_
  refine gg_icmp_lt (pc := 5) cx (tgt := 20) dX8_needCheckpoint_5 (by decide) (fun c5 => ?_) (fun c5 => ?_)
  · have h := g_it c5 h
    refine gg_lv (lv' := []) [] rfl ?_
    exact wk_X8_needCheckpoint_b20 cx hC hQ hx  h
  · have h := g_if c5 h
    refine gg_aload_n (pc := 8) cx 0 rfl dX8_needCheckpoint_8 rfl ?_
    refine gf_Tree_keptCount (pc := 9) cx (hC 8 _ rfl v0) tw_563 dX8_needCheckpoint_9 ?_
    refine gg_aload_n (pc := 12) cx 0 rfl dX8_needCheckpoint_12 rfl ?_
    refine gf_Tree_kept (pc := 13) cx (hC 8 _ rfl v0) tw_562 dX8_needCheckpoint_13 ?_
    refine gg_alen (pc := 16) cx (ca := 4) (v := 3) (hC 46 _ rfl v0) rfl rfl rfl dX8_needCheckpoint_16 ?_
    refine gg_icmp_le (pc := 17) cx (tgt := 31) dX8_needCheckpoint_17 (by decide) (fun c17 => ?_) (fun c17 => ?_)
    · have h := g_it c17 h
      refine gg_wide (k' := rm_X8_needCheckpoint.cells) (n' := rm_X8_needCheckpoint.slots) (Nat.le_of_ble_eq_true rfl) (Nat.le_of_ble_eq_true rfl) ?_
      exact gg_xvret (pc := 31) cx hQ h dX8_needCheckpoint_31
    · have h := g_if c17 h
      refine gg_lv (lv' := []) [] rfl ?_
      exact wk_X8_needCheckpoint_b20 cx hC hQ hx  h
theorem cal_X8_rollback : g_Cal yX8_rollback cX8_rollback 1 (some .int) 0 := ⟨tw_1, tw_1174, by decide, by decide, by decide +kernel⟩
theorem calv_X8_rollback : g_CalV yX8_rollback := ⟨tw_1172, tw_1173⟩
set_option maxRecDepth 100000 in
set_option maxHeartbeats 4000000 in
theorem ct_X8_rollback {l : Launch} (hl : l.stackTraces = false) {t : gT} (hC : g_hC t) {o0 : Nat} (v0 : o0 < 1) {M : gM} {K : Int32 → gM → Prop} {KX : Nat → gM → Prop} (h : wp_X8_rollback o0 M K KX) : vx_Met l yX8_rollback (g_y yX8_rollback cX8_rollback 1 (some .int)) rm_X8_rollback (va_Pc [.ref (gAd t 8 o0)] (g_Pre t M)) (va_Qi K (g_B t) (g_A t)) (g_XC t KX) rm_X8_rollback.cells rm_X8_rollback.slots (g_A t) := by
  refine g_xmet hl rfl (Nat.le_of_ble_eq_true rfl) (fun X hlX cx hx hQ => ?_)
  subst hlX
  refine gg_aload_n (pc := 0) cx 0 rfl dX8_rollback_0 rfl ?_
  refine gg_xcallVv (pc := 1) cx cal_X8_needCheckpoint calv_X8_needCheckpoint (ct_X8_needCheckpoint cx.tr hC v0 h) tw_1175 (hC 8 _ rfl v0) rfl rfl rfl (st := []) rfl (Nat.le_of_ble_eq_true rfl) ⟨Nat.le_of_ble_eq_true rfl, Nat.le_of_ble_eq_true rfl⟩ ⟨Nat.le_of_ble_eq_true rfl, Nat.le_of_ble_eq_true rfl⟩ dX8_rollback_1 hQ hx ⟨Nat.le_of_ble_eq_true rfl, Nat.le_of_ble_eq_true rfl⟩ (fun M1 h => ?_)
  refine gg_aload_n (pc := 4) cx 0 rfl dX8_rollback_4 rfl ?_
  refine gg_dup (pc := 5) cx dX8_rollback_5 rfl ?_
  refine gf_Tree_keptCount (pc := 6) cx (hC 8 _ rfl v0) tw_563 dX8_rollback_6 ?_
  refine gg_iconst (pc := 9) cx (v := 1) dX8_rollback_9 (by decide) ?_
  refine gg_isub (pc := 10) cx dX8_rollback_10 ?_
  refine gp_Tree_keptCount (pc := 11) cx (hC 8 _ rfl v0) tw_563 dX8_rollback_11 ?_
  refine gg_mem (fun M11 eM11 => ?_)
  have h := h M11 eM11
  refine gg_aload_n (pc := 14) cx 0 rfl dX8_rollback_14 rfl ?_
  refine gf_Tree_now (pc := 15) cx (hC 8 _ rfl v0) tw_560 dX8_rollback_15 ?_
  refine gg_aload_n (pc := 18) cx 0 rfl dX8_rollback_18 rfl ?_
  refine gf_Tree_kept (pc := 19) cx (hC 8 _ rfl v0) tw_562 dX8_rollback_19 ?_
  refine gg_aload_n (pc := 22) cx 0 rfl dX8_rollback_22 rfl ?_
  refine gf_Tree_keptCount (pc := 23) cx (hC 8 _ rfl v0) tw_563 dX8_rollback_23 ?_
  have q26 := h.1
  have h := h.2
  refine gg_aald (pc := 26) cx (ca := 4) (hC 46 _ rfl v0) rfl rfl q26 rfl dX8_rollback_26 ?_
  refine gg_callVv (pc := 27) cx cal_X7_copyFrom calv_X7_copyFrom (ct_X7_copyFrom cx.tr hC (Nat.le_of_ble_eq_true rfl) (g_vW q26) h) tw_1053 (hC 7 _ rfl (Nat.le_of_ble_eq_true rfl)) rfl rfl rfl (st := []) rfl (Nat.le_of_ble_eq_true rfl) ⟨Nat.le_of_ble_eq_true rfl, Nat.le_of_ble_eq_true rfl⟩ ⟨Nat.le_of_ble_eq_true rfl, Nat.le_of_ble_eq_true rfl⟩ dX8_rollback_27 (fun M27 h => ?_)
  refine gg_aload_n (pc := 30) cx 0 rfl dX8_rollback_30 rfl ?_
  refine gf_Tree_keptCount (pc := 31) cx (hC 8 _ rfl v0) tw_563 dX8_rollback_31 ?_
  exact gg_xiret (pc := 34) cx hQ h dX8_rollback_34
theorem cal_X8_commit : g_Cal yX8_commit cX8_commit 1 (some .int) 0 := ⟨tw_1, tw_1186, by decide, by decide, by decide +kernel⟩
theorem calv_X8_commit : g_CalV yX8_commit := ⟨tw_1184, tw_1185⟩
set_option maxRecDepth 100000 in
set_option maxHeartbeats 4000000 in
theorem ct_X8_commit {l : Launch} (hl : l.stackTraces = false) {t : gT} (hC : g_hC t) {o0 : Nat} (v0 : o0 < 1) {M : gM} {K : Int32 → gM → Prop} {KX : Nat → gM → Prop} (h : wp_X8_commit o0 M K KX) : vx_Met l yX8_commit (g_y yX8_commit cX8_commit 1 (some .int)) rm_X8_commit (va_Pc [.ref (gAd t 8 o0)] (g_Pre t M)) (va_Qi K (g_B t) (g_A t)) (g_XC t KX) rm_X8_commit.cells rm_X8_commit.slots (g_A t) := by
  refine g_xmet hl rfl (Nat.le_of_ble_eq_true rfl) (fun X hlX cx hx hQ => ?_)
  subst hlX
  refine gg_aload_n (pc := 0) cx 0 rfl dX8_commit_0 rfl ?_
  refine gg_xcallVv (pc := 1) cx cal_X8_needCheckpoint calv_X8_needCheckpoint (ct_X8_needCheckpoint cx.tr hC v0 h) tw_1175 (hC 8 _ rfl v0) rfl rfl rfl (st := []) rfl (Nat.le_of_ble_eq_true rfl) ⟨Nat.le_of_ble_eq_true rfl, Nat.le_of_ble_eq_true rfl⟩ ⟨Nat.le_of_ble_eq_true rfl, Nat.le_of_ble_eq_true rfl⟩ dX8_commit_1 hQ hx ⟨Nat.le_of_ble_eq_true rfl, Nat.le_of_ble_eq_true rfl⟩ (fun M1 h => ?_)
  refine gg_aload_n (pc := 4) cx 0 rfl dX8_commit_4 rfl ?_
  refine gg_dup (pc := 5) cx dX8_commit_5 rfl ?_
  refine gf_Tree_keptCount (pc := 6) cx (hC 8 _ rfl v0) tw_563 dX8_commit_6 ?_
  refine gg_iconst (pc := 9) cx (v := 1) dX8_commit_9 (by decide) ?_
  refine gg_isub (pc := 10) cx dX8_commit_10 ?_
  refine gp_Tree_keptCount (pc := 11) cx (hC 8 _ rfl v0) tw_563 dX8_commit_11 ?_
  refine gg_mem (fun M11 eM11 => ?_)
  have h := h M11 eM11
  refine gg_aload_n (pc := 14) cx 0 rfl dX8_commit_14 rfl ?_
  refine gf_Tree_keptCount (pc := 15) cx (hC 8 _ rfl v0) tw_563 dX8_commit_15 ?_
  exact gg_xiret (pc := 18) cx hQ h dX8_commit_18
theorem cal_X8_mix : g_Cal yX8_mix cX8_mix 4 (some .long) 2 := ⟨tw_1, tw_752, by decide, by decide, by decide +kernel⟩
set_option maxRecDepth 100000 in
set_option maxHeartbeats 4000000 in
theorem ct_X8_mix {l : Launch} (hl : l.stackTraces = false) {t : gT} (hC : g_hC t) {y0 : Int64} {y2 : Int64}  {M : gM} {K : Int64 → gM → Prop} (h : wp_X8_mix y0 y2 M K) : Met l yX8_mix (g_y yX8_mix cX8_mix 4 (some .long)) rm_X8_mix (va_Pc [.long y0, .long y2] (g_Pre t M)) (va_Ql K (g_B t) (g_A t)) rm_X8_mix.cells rm_X8_mix.slots (g_A t) := by
  refine g_met hl rfl (Nat.le_of_ble_eq_true rfl) (fun X hlX cx hQ => ?_)
  subst hlX
  refine gg_ldc2 (pc := 0) cx (v := 31) tw_753 dX8_mix_0 ?_
  refine gg_lload_n (pc := 3) cx 0 rfl dX8_mix_3 rfl ?_
  refine gg_lmul (pc := 4) cx dX8_mix_4 ?_
  refine gg_lload_n (pc := 5) cx 1 rfl dX8_mix_5 rfl ?_
  refine gg_ladd (pc := 6) cx dX8_mix_6 ?_
  exact gg_lret (pc := 7) cx hQ h dX8_mix_7
set_option maxRecDepth 100000 in
set_option maxHeartbeats 4000000 in
theorem wk_X8_fingerprint_L145 {t : gT} {X : gX} (cx : g_Cx t X cX8_fingerprint 6 RX8 (some .long)) (hC : g_hC t) {K : Int64 → gM → Prop} (hQ : gXQ X = MQ (gXb X) (va_Ql K (g_B t) (g_A t)) (gXa X) (gXs X) rm_X8_fingerprint.cells rm_X8_fingerprint.slots (g_A t)) (f : Nat) : ∀ (o0 : Nat) (y1 : Int64) (x3 : Int32) (M : gM), o0 < 1 → wp_X8_fingerprint_L145 K f o0 y1 x3 M → G t rm_X8_fingerprint X 6 0 0 M [(0, .ref (gAd t 8 o0)), (1, .long y1), (3, .int x3)] [] 145 := by
  induction f with
  | zero => intro _ _ _ _ _ _; exact False.elim (by assumption)
  | succ f ih =>
    intro o0 y1 x3 M v0 h
    refine gg_iload_n (pc := 145) cx 2 rfl dX8_fingerprint_145 rfl ?_
    refine gg_bipush (pc := 146) cx (v := 16) dX8_fingerprint_146 (by decide) ?_
    refine gg_icmp_ge (pc := 148) cx (tgt := 224) dX8_fingerprint_148 (by decide) (fun c148 => ?_) (fun c148 => ?_)
    · have h := g_it c148 h
      refine gg_lload_n (pc := 224) cx 1 rfl dX8_fingerprint_224 rfl ?_
      exact gg_lret (pc := 225) cx hQ h dX8_fingerprint_225
    · have h := g_if c148 h
      refine gg_lload_n (pc := 151) cx 1 rfl dX8_fingerprint_151 rfl ?_
      refine gg_aload_n (pc := 152) cx 0 rfl dX8_fingerprint_152 rfl ?_
      refine gf_Tree_now (pc := 153) cx (hC 8 _ rfl v0) tw_560 dX8_fingerprint_153 ?_
      refine gf_World_flows (pc := 156) cx (hC 7 _ rfl (Nat.le_of_ble_eq_true rfl)) tw_304 dX8_fingerprint_156 ?_
      refine gf_Flows_packetsSent (pc := 159) cx (hC 1 _ rfl (Nat.le_of_ble_eq_true rfl)) tw_204 dX8_fingerprint_159 ?_
      refine gg_iload_n (pc := 162) cx 2 rfl dX8_fingerprint_162 rfl ?_
      have q163 := h.1
      have h := h.2
      refine gg_iald (pc := 163) cx (hC 14 _ rfl (Nat.le_of_ble_eq_true rfl)) rfl q163 dX8_fingerprint_163 ?_
      refine gg_i2l (pc := 164) cx dX8_fingerprint_164 ?_
      refine gg_callSl (pc := 165) cx cal_X8_mix tw_751 (ct_X8_mix cx.tr hC  h) tw_750 rfl (st := []) rfl (Nat.le_of_ble_eq_true rfl) ⟨Nat.le_of_ble_eq_true rfl, Nat.le_of_ble_eq_true rfl⟩ ⟨Nat.le_of_ble_eq_true rfl, Nat.le_of_ble_eq_true rfl⟩ dX8_fingerprint_165 (fun r165 M165 h => ?_)
      refine gg_aload_n (pc := 168) cx 0 rfl dX8_fingerprint_168 rfl ?_
      refine gf_Tree_now (pc := 169) cx (hC 8 _ rfl v0) tw_560 dX8_fingerprint_169 ?_
      refine gf_World_flows (pc := 172) cx (hC 7 _ rfl (Nat.le_of_ble_eq_true rfl)) tw_304 dX8_fingerprint_172 ?_
      refine gf_Flows_bytesSent (pc := 175) cx (hC 1 _ rfl (Nat.le_of_ble_eq_true rfl)) tw_206 dX8_fingerprint_175 ?_
      refine gg_iload_n (pc := 178) cx 2 rfl dX8_fingerprint_178 rfl ?_
      have q179 := h.1
      have h := h.2
      refine gg_iald (pc := 179) cx (hC 15 _ rfl (Nat.le_of_ble_eq_true rfl)) rfl q179 dX8_fingerprint_179 ?_
      refine gg_i2l (pc := 180) cx dX8_fingerprint_180 ?_
      refine gg_callSl (pc := 181) cx cal_X8_mix tw_751 (ct_X8_mix cx.tr hC  h) tw_750 rfl (st := []) rfl (Nat.le_of_ble_eq_true rfl) ⟨Nat.le_of_ble_eq_true rfl, Nat.le_of_ble_eq_true rfl⟩ ⟨Nat.le_of_ble_eq_true rfl, Nat.le_of_ble_eq_true rfl⟩ dX8_fingerprint_181 (fun r181 M181 h => ?_)
      refine gg_lstore_n (pc := 184) cx [(1, .long r181), (0, .ref (gAd t 8 o0)), (3, .int x3)] dX8_fingerprint_184 rfl (by decide) rfl ?_
      refine gg_lload_n (pc := 185) cx 0 rfl dX8_fingerprint_185 rfl ?_
      refine gg_aload_n (pc := 186) cx 1 rfl dX8_fingerprint_186 rfl ?_
      refine gf_Tree_now (pc := 187) cx (hC 8 _ rfl v0) tw_560 dX8_fingerprint_187 ?_
      refine gf_World_flows (pc := 190) cx (hC 7 _ rfl (Nat.le_of_ble_eq_true rfl)) tw_304 dX8_fingerprint_190 ?_
      refine gf_Flows_delaySum (pc := 193) cx (hC 1 _ rfl (Nat.le_of_ble_eq_true rfl)) tw_208 dX8_fingerprint_193 ?_
      refine gg_iload_n (pc := 196) cx 2 rfl dX8_fingerprint_196 rfl ?_
      have q197 := h.1
      have h := h.2
      refine gg_lald (pc := 197) cx (hC 16 _ rfl (Nat.le_of_ble_eq_true rfl)) rfl q197 dX8_fingerprint_197 ?_
      refine gg_callSl (pc := 198) cx cal_X8_mix tw_751 (ct_X8_mix cx.tr hC  h) tw_750 rfl (st := []) rfl (Nat.le_of_ble_eq_true rfl) ⟨Nat.le_of_ble_eq_true rfl, Nat.le_of_ble_eq_true rfl⟩ ⟨Nat.le_of_ble_eq_true rfl, Nat.le_of_ble_eq_true rfl⟩ dX8_fingerprint_198 (fun r198 M198 h => ?_)
      refine gg_aload_n (pc := 201) cx 1 rfl dX8_fingerprint_201 rfl ?_
      refine gf_Tree_now (pc := 202) cx (hC 8 _ rfl v0) tw_560 dX8_fingerprint_202 ?_
      refine gf_World_flows (pc := 205) cx (hC 7 _ rfl (Nat.le_of_ble_eq_true rfl)) tw_304 dX8_fingerprint_205 ?_
      refine gf_Flows_late (pc := 208) cx (hC 1 _ rfl (Nat.le_of_ble_eq_true rfl)) tw_212 dX8_fingerprint_208 ?_
      refine gg_iload_n (pc := 211) cx 2 rfl dX8_fingerprint_211 rfl ?_
      have q212 := h.1
      have h := h.2
      refine gg_iald (pc := 212) cx (hC 18 _ rfl (Nat.le_of_ble_eq_true rfl)) rfl q212 dX8_fingerprint_212 ?_
      refine gg_i2l (pc := 213) cx dX8_fingerprint_213 ?_
      refine gg_callSl (pc := 214) cx cal_X8_mix tw_751 (ct_X8_mix cx.tr hC  h) tw_750 rfl (st := []) rfl (Nat.le_of_ble_eq_true rfl) ⟨Nat.le_of_ble_eq_true rfl, Nat.le_of_ble_eq_true rfl⟩ ⟨Nat.le_of_ble_eq_true rfl, Nat.le_of_ble_eq_true rfl⟩ dX8_fingerprint_214 (fun r214 M214 h => ?_)
      refine gg_lstore_n (pc := 217) cx [(1, .long r214), (0, .ref (gAd t 8 o0)), (3, .int x3)] dX8_fingerprint_217 rfl (by decide) rfl ?_
      obtain ⟨n218, en218⟩ : ∃ z : Int32, z = x3 + Int32.ofInt (1) := ⟨_, rfl⟩
      have h := h n218 en218
      refine gg_iinc (pc := 218) cx 2 [(3, .int n218), (1, .long r214), (0, .ref (gAd t 8 o0))] dX8_fingerprint_218 rfl en218.symm (by decide) rfl ?_
      refine gg_goto (pc := 221) cx (tgt := 145) dX8_fingerprint_221 (by decide) ?_
      refine gg_lv (lv' := [(0, .ref (gAd t 8 o0)), (1, .long r214), (3, .int n218)]) [2, 1, 0] rfl ?_
      exact ih o0 r214 n218 M214 v0 h
set_option maxRecDepth 100000 in
set_option maxHeartbeats 4000000 in
theorem wk_X8_fingerprint_L89 {t : gT} {X : gX} (cx : g_Cx t X cX8_fingerprint 6 RX8 (some .long)) (hC : g_hC t) {K : Int64 → gM → Prop} (hQ : gXQ X = MQ (gXb X) (va_Ql K (g_B t) (g_A t)) (gXa X) (gXs X) rm_X8_fingerprint.cells rm_X8_fingerprint.slots (g_A t)) {R30 : Nat → Int64 → Int32 → gM → Prop} (hR30 : ∀ (o0 : Nat) (y1 : Int64) (x3 : Int32) (M : gM), o0 < 1 → R30 o0 y1 x3 M → G t rm_X8_fingerprint X 6 0 0 M [(0, .ref (gAd t 8 o0)), (1, .long y1), (3, .int x3)] [] 30) (f : Nat) : ∀ (o0 : Nat) (y1 : Int64) (x3 : Int32) (o4 : Nat) (x5 : Int32) (M : gM), o0 < 1 → o4 < 60 → wp_X8_fingerprint_L89 R30 K f o0 y1 x3 o4 x5 M → G t rm_X8_fingerprint X 6 0 0 M [(0, .ref (gAd t 8 o0)), (1, .long y1), (3, .int x3), (4, .ref (gAd t 3 o4)), (5, .int x5)] [] 89 := by
  induction f with
  | zero => intro _ _ _ _ _ _ _ _ _; exact False.elim (by assumption)
  | succ f ih =>
    intro o0 y1 x3 o4 x5 M v0 v4 h
    refine gg_iload (pc := 89) cx 4 rfl dX8_fingerprint_89 ?_
    refine gg_aload (pc := 91) cx 3 rfl dX8_fingerprint_91 ?_
    refine gf_Node_size (pc := 93) cx (hC 3 _ rfl v4) tw_270 dX8_fingerprint_93 ?_
    refine gg_icmp_ge (pc := 96) cx (tgt := 137) dX8_fingerprint_96 (by decide) (fun c96 => ?_) (fun c96 => ?_)
    · have h := g_it c96 h
      obtain ⟨n137, en137⟩ : ∃ z : Int32, z = x3 + Int32.ofInt (1) := ⟨_, rfl⟩
      have h := h n137 en137
      refine gg_iinc (pc := 137) cx 2 [(3, .int n137), (0, .ref (gAd t 8 o0)), (1, .long y1), (4, .ref (gAd t 3 o4)), (5, .int x5)] dX8_fingerprint_137 rfl en137.symm (by decide) rfl ?_
      refine gg_goto (pc := 140) cx (tgt := 30) dX8_fingerprint_140 (by decide) ?_
      refine gg_lv (lv' := [(0, .ref (gAd t 8 o0)), (1, .long y1), (3, .int n137)]) [1, 2, 0] rfl ?_
      exact hR30 o0 y1 n137 M v0 h
    · have h := g_if c96 h
      refine gg_iload (pc := 99) cx 4 rfl dX8_fingerprint_99 ?_
      refine gg_bipush (pc := 101) cx (v := 64) dX8_fingerprint_101 (by decide) ?_
      refine gg_icmp_ge (pc := 103) cx (tgt := 137) dX8_fingerprint_103 (by decide) (fun c103 => ?_) (fun c103 => ?_)
      · have h := g_it c103 h
        obtain ⟨n137, en137⟩ : ∃ z : Int32, z = x3 + Int32.ofInt (1) := ⟨_, rfl⟩
        have h := h n137 en137
        refine gg_iinc (pc := 137) cx 2 [(3, .int n137), (0, .ref (gAd t 8 o0)), (1, .long y1), (4, .ref (gAd t 3 o4)), (5, .int x5)] dX8_fingerprint_137 rfl en137.symm (by decide) rfl ?_
        refine gg_goto (pc := 140) cx (tgt := 30) dX8_fingerprint_140 (by decide) ?_
        refine gg_lv (lv' := [(0, .ref (gAd t 8 o0)), (1, .long y1), (3, .int n137)]) [1, 2, 0] rfl ?_
        exact hR30 o0 y1 n137 M v0 h
      · have h := g_if c103 h
        refine gg_lload_n (pc := 106) cx 1 rfl dX8_fingerprint_106 rfl ?_
        refine gg_aload (pc := 107) cx 3 rfl dX8_fingerprint_107 ?_
        refine gf_Node_items (pc := 109) cx (hC 3 _ rfl v4) tw_272 dX8_fingerprint_109 ?_
        refine gg_iload (pc := 112) cx 4 rfl dX8_fingerprint_112 ?_
        have q114 := h.1
        have h := h.2
        refine gg_iald (pc := 114) cx (hC 23 _ rfl v4) rfl q114 dX8_fingerprint_114 ?_
        refine gg_i2l (pc := 115) cx dX8_fingerprint_115 ?_
        refine gg_callSl (pc := 116) cx cal_X8_mix tw_751 (ct_X8_mix cx.tr hC  h) tw_750 rfl (st := []) rfl (Nat.le_of_ble_eq_true rfl) ⟨Nat.le_of_ble_eq_true rfl, Nat.le_of_ble_eq_true rfl⟩ ⟨Nat.le_of_ble_eq_true rfl, Nat.le_of_ble_eq_true rfl⟩ dX8_fingerprint_116 (fun r116 M116 h => ?_)
        refine gg_aload (pc := 119) cx 3 rfl dX8_fingerprint_119 ?_
        refine gf_Node_ranks (pc := 121) cx (hC 3 _ rfl v4) tw_274 dX8_fingerprint_121 ?_
        refine gg_iload (pc := 124) cx 4 rfl dX8_fingerprint_124 ?_
        have q126 := h.1
        have h := h.2
        refine gg_lald (pc := 126) cx (hC 24 _ rfl v4) rfl q126 dX8_fingerprint_126 ?_
        refine gg_callSl (pc := 127) cx cal_X8_mix tw_751 (ct_X8_mix cx.tr hC  h) tw_750 rfl (st := []) rfl (Nat.le_of_ble_eq_true rfl) ⟨Nat.le_of_ble_eq_true rfl, Nat.le_of_ble_eq_true rfl⟩ ⟨Nat.le_of_ble_eq_true rfl, Nat.le_of_ble_eq_true rfl⟩ dX8_fingerprint_127 (fun r127 M127 h => ?_)
        refine gg_lstore_n (pc := 130) cx [(1, .long r127), (0, .ref (gAd t 8 o0)), (3, .int x3), (4, .ref (gAd t 3 o4)), (5, .int x5)] dX8_fingerprint_130 rfl (by decide) rfl ?_
        obtain ⟨n131, en131⟩ : ∃ z : Int32, z = x5 + Int32.ofInt (1) := ⟨_, rfl⟩
        have h := h n131 en131
        refine gg_iinc (pc := 131) cx 4 [(5, .int n131), (1, .long r127), (0, .ref (gAd t 8 o0)), (3, .int x3), (4, .ref (gAd t 3 o4))] dX8_fingerprint_131 rfl en131.symm (by decide) rfl ?_
        refine gg_goto (pc := 134) cx (tgt := 89) dX8_fingerprint_134 (by decide) ?_
        refine gg_lv (lv' := [(0, .ref (gAd t 8 o0)), (1, .long r127), (3, .int x3), (4, .ref (gAd t 3 o4)), (5, .int n131)]) [2, 1, 3, 4, 0] rfl ?_
        exact ih o0 r127 x3 o4 n131 M127 v0 v4 h
set_option maxRecDepth 100000 in
set_option maxHeartbeats 4000000 in
theorem wk_X8_fingerprint_L30 {t : gT} {X : gX} (cx : g_Cx t X cX8_fingerprint 6 RX8 (some .long)) (hC : g_hC t) {K : Int64 → gM → Prop} (hQ : gXQ X = MQ (gXb X) (va_Ql K (g_B t) (g_A t)) (gXa X) (gXs X) rm_X8_fingerprint.cells rm_X8_fingerprint.slots (g_A t)) (f : Nat) : ∀ (o0 : Nat) (y1 : Int64) (x3 : Int32) (M : gM), o0 < 1 → wp_X8_fingerprint_L30 K f o0 y1 x3 M → G t rm_X8_fingerprint X 6 0 0 M [(0, .ref (gAd t 8 o0)), (1, .long y1), (3, .int x3)] [] 30 := by
  induction f with
  | zero => intro _ _ _ _ _ _; exact False.elim (by assumption)
  | succ f ih =>
    intro o0 y1 x3 M v0 h
    refine gg_iload_n (pc := 30) cx 2 rfl dX8_fingerprint_30 rfl ?_
    refine gg_aload_n (pc := 31) cx 0 rfl dX8_fingerprint_31 rfl ?_
    refine gf_Tree_now (pc := 32) cx (hC 8 _ rfl v0) tw_560 dX8_fingerprint_32 ?_
    refine gf_World_plan (pc := 35) cx (hC 7 _ rfl (Nat.le_of_ble_eq_true rfl)) tw_298 dX8_fingerprint_35 ?_
    refine gf_Plan_nodeCount (pc := 38) cx (hC 5 _ rfl (g_v56 (Nat.le_of_ble_eq_true rfl))) tw_45 dX8_fingerprint_38 ?_
    refine gg_icmp_ge (pc := 41) cx (tgt := 143) dX8_fingerprint_41 (by decide) (fun c41 => ?_) (fun c41 => ?_)
    · have h := g_it c41 h
      refine gg_iconst (pc := 143) cx (v := 0) dX8_fingerprint_143 (by decide) ?_
      refine gg_istore_n (pc := 144) cx [(3, .int 0), (0, .ref (gAd t 8 o0)), (1, .long y1)] dX8_fingerprint_144 rfl (by decide) rfl ?_
      refine gg_lv (lv' := [(0, .ref (gAd t 8 o0)), (1, .long y1), (3, .int 0)]) [1, 2, 0] rfl ?_
      obtain ⟨f145, h⟩ := h
      exact wk_X8_fingerprint_L145 cx hC hQ f145 o0 y1 0 M v0 h
    · have h := g_if c41 h
      refine gg_iload_n (pc := 44) cx 2 rfl dX8_fingerprint_44 rfl ?_
      refine gg_aload_n (pc := 45) cx 0 rfl dX8_fingerprint_45 rfl ?_
      refine gf_Tree_now (pc := 46) cx (hC 8 _ rfl v0) tw_560 dX8_fingerprint_46 ?_
      refine gf_World_nodes (pc := 49) cx (hC 7 _ rfl (Nat.le_of_ble_eq_true rfl)) tw_300 dX8_fingerprint_49 ?_
      refine gg_alen (pc := 52) cx (ca := 3) (v := 12) (hC 43 _ rfl (Nat.le_of_ble_eq_true rfl)) rfl rfl rfl dX8_fingerprint_52 ?_
      refine gg_icmp_ge (pc := 53) cx (tgt := 143) dX8_fingerprint_53 (by decide) (fun c53 => ?_) (fun c53 => ?_)
      · have h := g_it c53 h
        refine gg_iconst (pc := 143) cx (v := 0) dX8_fingerprint_143 (by decide) ?_
        refine gg_istore_n (pc := 144) cx [(3, .int 0), (0, .ref (gAd t 8 o0)), (1, .long y1)] dX8_fingerprint_144 rfl (by decide) rfl ?_
        refine gg_lv (lv' := [(0, .ref (gAd t 8 o0)), (1, .long y1), (3, .int 0)]) [1, 2, 0] rfl ?_
        obtain ⟨f145, h⟩ := h
        exact wk_X8_fingerprint_L145 cx hC hQ f145 o0 y1 0 M v0 h
      · have h := g_if c53 h
        refine gg_aload_n (pc := 56) cx 0 rfl dX8_fingerprint_56 rfl ?_
        refine gf_Tree_now (pc := 57) cx (hC 8 _ rfl v0) tw_560 dX8_fingerprint_57 ?_
        refine gf_World_nodes (pc := 60) cx (hC 7 _ rfl (Nat.le_of_ble_eq_true rfl)) tw_300 dX8_fingerprint_60 ?_
        refine gg_iload_n (pc := 63) cx 2 rfl dX8_fingerprint_63 rfl ?_
        have q64 := h.1
        have h := h.2
        refine gg_aald (pc := 64) cx (ca := 3) (hC 43 _ rfl (Nat.le_of_ble_eq_true rfl)) rfl rfl q64 rfl dX8_fingerprint_64 ?_
        refine gg_astore (pc := 65) cx [(4, .ref (gAd t 3 (12 * 0 + x3.toNatClampNeg))), (0, .ref (gAd t 8 o0)), (1, .long y1), (3, .int x3)] dX8_fingerprint_65 (by decide) rfl ?_
        refine gg_lload_n (pc := 67) cx 2 rfl dX8_fingerprint_67 rfl ?_
        refine gg_aload (pc := 68) cx 0 rfl dX8_fingerprint_68 ?_
        refine gf_Node_virtual (pc := 70) cx (hC 3 _ rfl (g_vN (Nat.le_of_ble_eq_true rfl) q64)) tw_262 dX8_fingerprint_70 ?_
        refine gg_callSl (pc := 73) cx cal_X8_mix tw_751 (ct_X8_mix cx.tr hC  h) tw_750 rfl (st := []) rfl (Nat.le_of_ble_eq_true rfl) ⟨Nat.le_of_ble_eq_true rfl, Nat.le_of_ble_eq_true rfl⟩ ⟨Nat.le_of_ble_eq_true rfl, Nat.le_of_ble_eq_true rfl⟩ dX8_fingerprint_73 (fun r73 M73 h => ?_)
        refine gg_aload (pc := 76) cx 0 rfl dX8_fingerprint_76 ?_
        refine gf_Node_size (pc := 78) cx (hC 3 _ rfl (g_vN (Nat.le_of_ble_eq_true rfl) q64)) tw_270 dX8_fingerprint_78 ?_
        refine gg_i2l (pc := 81) cx dX8_fingerprint_81 ?_
        refine gg_callSl (pc := 82) cx cal_X8_mix tw_751 (ct_X8_mix cx.tr hC  h) tw_750 rfl (st := []) rfl (Nat.le_of_ble_eq_true rfl) ⟨Nat.le_of_ble_eq_true rfl, Nat.le_of_ble_eq_true rfl⟩ ⟨Nat.le_of_ble_eq_true rfl, Nat.le_of_ble_eq_true rfl⟩ dX8_fingerprint_82 (fun r82 M82 h => ?_)
        refine gg_lstore_n (pc := 85) cx [(1, .long r82), (4, .ref (gAd t 3 (12 * 0 + x3.toNatClampNeg))), (0, .ref (gAd t 8 o0)), (3, .int x3)] dX8_fingerprint_85 rfl (by decide) rfl ?_
        refine gg_iconst (pc := 86) cx (v := 0) dX8_fingerprint_86 (by decide) ?_
        refine gg_istore (pc := 87) cx [(5, .int 0), (1, .long r82), (4, .ref (gAd t 3 (12 * 0 + x3.toNatClampNeg))), (0, .ref (gAd t 8 o0)), (3, .int x3)] dX8_fingerprint_87 (by decide) rfl ?_
        refine gg_lv (lv' := [(0, .ref (gAd t 8 o0)), (1, .long r82), (3, .int x3), (4, .ref (gAd t 3 (12 * 0 + x3.toNatClampNeg))), (5, .int 0)]) [3, 1, 4, 2, 0] rfl ?_
        obtain ⟨f89, h⟩ := h
        exact wk_X8_fingerprint_L89 cx hC hQ ih f89 o0 r82 x3 (12 * 0 + x3.toNatClampNeg) 0 M82 v0 (g_vN (Nat.le_of_ble_eq_true rfl) q64) h
theorem cal_X8_fingerprint : g_Cal yX8_fingerprint cX8_fingerprint 6 (some .long) 0 := ⟨tw_1, tw_748, by decide, by decide, by decide +kernel⟩
theorem calv_X8_fingerprint : g_CalV yX8_fingerprint := ⟨tw_746, tw_747⟩
set_option maxRecDepth 100000 in
set_option maxHeartbeats 4000000 in
theorem ct_X8_fingerprint {l : Launch} (hl : l.stackTraces = false) {t : gT} (hC : g_hC t) {o0 : Nat} (v0 : o0 < 1) {M : gM} {K : Int64 → gM → Prop} (h : wp_X8_fingerprint o0 M K) : Met l yX8_fingerprint (g_y yX8_fingerprint cX8_fingerprint 6 (some .long)) rm_X8_fingerprint (va_Pc [.ref (gAd t 8 o0)] (g_Pre t M)) (va_Ql K (g_B t) (g_A t)) rm_X8_fingerprint.cells rm_X8_fingerprint.slots (g_A t) := by
  refine g_met hl rfl (Nat.le_of_ble_eq_true rfl) (fun X hlX cx hQ => ?_)
  subst hlX
  refine gg_ldc2 (pc := 0) cx (v := 11) tw_749 dX8_fingerprint_0 ?_
  refine gg_aload_n (pc := 3) cx 0 rfl dX8_fingerprint_3 rfl ?_
  refine gf_Tree_now (pc := 4) cx (hC 8 _ rfl v0) tw_560 dX8_fingerprint_4 ?_
  refine gf_World_time (pc := 7) cx (hC 7 _ rfl (Nat.le_of_ble_eq_true rfl)) tw_294 dX8_fingerprint_7 ?_
  refine gg_callSl (pc := 10) cx cal_X8_mix tw_751 (ct_X8_mix cx.tr hC  h) tw_750 rfl (st := []) rfl (Nat.le_of_ble_eq_true rfl) ⟨Nat.le_of_ble_eq_true rfl, Nat.le_of_ble_eq_true rfl⟩ ⟨Nat.le_of_ble_eq_true rfl, Nat.le_of_ble_eq_true rfl⟩ dX8_fingerprint_10 (fun r10 M10 h => ?_)
  refine gg_aload_n (pc := 13) cx 0 rfl dX8_fingerprint_13 rfl ?_
  refine gf_Tree_now (pc := 14) cx (hC 8 _ rfl v0) tw_560 dX8_fingerprint_14 ?_
  refine gf_World_line (pc := 17) cx (hC 7 _ rfl (Nat.le_of_ble_eq_true rfl)) tw_306 dX8_fingerprint_17 ?_
  refine gf_Line_size (pc := 20) cx (hC 2 _ rfl (Nat.le_of_ble_eq_true rfl)) tw_236 dX8_fingerprint_20 ?_
  refine gg_i2l (pc := 23) cx dX8_fingerprint_23 ?_
  refine gg_callSl (pc := 24) cx cal_X8_mix tw_751 (ct_X8_mix cx.tr hC  h) tw_750 rfl (st := []) rfl (Nat.le_of_ble_eq_true rfl) ⟨Nat.le_of_ble_eq_true rfl, Nat.le_of_ble_eq_true rfl⟩ ⟨Nat.le_of_ble_eq_true rfl, Nat.le_of_ble_eq_true rfl⟩ dX8_fingerprint_24 (fun r24 M24 h => ?_)
  refine gg_lstore_n (pc := 27) cx [(1, .long r24), (0, .ref (gAd t 8 o0))] dX8_fingerprint_27 rfl (by decide) rfl ?_
  refine gg_iconst (pc := 28) cx (v := 0) dX8_fingerprint_28 (by decide) ?_
  refine gg_istore_n (pc := 29) cx [(3, .int 0), (1, .long r24), (0, .ref (gAd t 8 o0))] dX8_fingerprint_29 rfl (by decide) rfl ?_
  refine gg_lv (lv' := [(0, .ref (gAd t 8 o0)), (1, .long r24), (3, .int 0)]) [2, 1, 0] rfl ?_
  obtain ⟨f30, h⟩ := h
  exact wk_X8_fingerprint_L30 cx hC hQ f30 o0 r24 0 M24 v0 h
