set_option maxRecDepth 100000 in
set_option maxHeartbeats 4000000 in
theorem wk_X6_takeText_L7 {t : gT} {X : gX} (cx : g_Cx t X cX6_takeText 4 RX6 (none)) (hC : g_hC t) {K : gM → Prop} (hQ : gXQ X = MQ (gXb X) (va_Qv K (g_B t) (g_A t)) (gXa X) (gXs X) rm_X6_takeText.cells rm_X6_takeText.slots (g_A t)) (f : Nat) : ∀ (o0 : Nat) (o1 : Nat) (x2 : Int32) (x3 : Int32) (M : gM), o0 < 1 → o1 < 1 → wp_X6_takeText_L7 K f o0 o1 x2 x3 M → G t rm_X6_takeText X 4 0 0 M [(0, .ref (gAd t 6 o0)), (1, .ref (gAd t 44 o1)), (2, .int x2), (3, .int x3)] [] 7 := by
  induction f with
  | zero => intro _ _ _ _ _ _ _ _; exact False.elim (by assumption)
  | succ f ih =>
    intro o0 o1 x2 x3 M v0 v1 h
    refine gg_iload_n (pc := 7) cx 3 rfl dX6_takeText_7 rfl ?_
    refine gg_iload_n (pc := 8) cx 2 rfl dX6_takeText_8 rfl ?_
    refine gg_icmp_ge (pc := 9) cx (tgt := 52) dX6_takeText_9 (by decide) (fun c9 => ?_) (fun c9 => ?_)
    · have h := g_it c9 h
      exact gg_vret (pc := 52) cx hQ h dX6_takeText_52
    · have h := g_if c9 h
      refine gg_iload_n (pc := 12) cx 3 rfl dX6_takeText_12 rfl ?_
      refine gg_aload_n (pc := 13) cx 1 rfl dX6_takeText_13 rfl ?_
      refine gg_alen (pc := 14) cx (ca := 2) (v := 120) (hC 44 _ rfl v1) rfl rfl rfl dX6_takeText_14 ?_
      refine gg_icmp_ge (pc := 15) cx (tgt := 52) dX6_takeText_15 (by decide) (fun c15 => ?_) (fun c15 => ?_)
      · have h := g_it c15 h
        exact gg_vret (pc := 52) cx hQ h dX6_takeText_52
      · have h := g_if c15 h
        refine gg_iload_n (pc := 18) cx 3 rfl dX6_takeText_18 rfl ?_
        refine gg_aload_n (pc := 19) cx 0 rfl dX6_takeText_19 rfl ?_
        refine gf_Reader_signs (pc := 20) cx (hC 6 _ rfl v0) tw_100 dX6_takeText_20 ?_
        refine gg_alen (pc := 23) cx (ca := 2) (v := 120) (hC 41 _ rfl v0) rfl rfl rfl dX6_takeText_23 ?_
        refine gg_icmp_ge (pc := 24) cx (tgt := 52) dX6_takeText_24 (by decide) (fun c24 => ?_) (fun c24 => ?_)
        · have h := g_it c24 h
          exact gg_vret (pc := 52) cx hQ h dX6_takeText_52
        · have h := g_if c24 h
          refine gg_aload_n (pc := 27) cx 0 rfl dX6_takeText_27 rfl ?_
          refine gf_Reader_signs (pc := 28) cx (hC 6 _ rfl v0) tw_100 dX6_takeText_28 ?_
          refine gg_iload_n (pc := 31) cx 3 rfl dX6_takeText_31 rfl ?_
          refine gg_aload_n (pc := 32) cx 1 rfl dX6_takeText_32 rfl ?_
          refine gg_iload_n (pc := 33) cx 3 rfl dX6_takeText_33 rfl ?_
          have q34 := h.1
          have h := h.2
          refine gg_cald (pc := 34) cx (hC 44 _ rfl v1) rfl q34 dX6_takeText_34 ?_
          have q35 := h.1
          have h := h.2
          refine gg_cast (pc := 35) cx (hC 41 _ rfl v0) (fun _ _ => rfl) q35 dX6_takeText_35 ?_
          refine gg_mem (fun M35 eM35 => ?_)
          have h := h M35 eM35
          refine gg_aload_n (pc := 36) cx 0 rfl dX6_takeText_36 rfl ?_
          refine gg_dup (pc := 37) cx dX6_takeText_37 rfl ?_
          refine gf_Reader_length (pc := 38) cx (hC 6 _ rfl v0) tw_101 dX6_takeText_38 ?_
          refine gg_iconst (pc := 41) cx (v := 1) dX6_takeText_41 (by decide) ?_
          refine gg_iadd (pc := 42) cx dX6_takeText_42 ?_
          refine gp_Reader_length (pc := 43) cx (hC 6 _ rfl v0) tw_101 dX6_takeText_43 ?_
          refine gg_mem (fun M43 eM43 => ?_)
          have h := h M43 eM43
          obtain ⟨n46, en46⟩ : ∃ z : Int32, z = x3 + Int32.ofInt (1) := ⟨_, rfl⟩
          have h := h n46 en46
          refine gg_iinc (pc := 46) cx 3 [(3, .int n46), (0, .ref (gAd t 6 o0)), (1, .ref (gAd t 44 o1)), (2, .int x2)] dX6_takeText_46 rfl en46.symm (by decide) rfl ?_
          refine gg_goto (pc := 49) cx (tgt := 7) dX6_takeText_49 (by decide) ?_
          refine gg_lv (lv' := [(0, .ref (gAd t 6 o0)), (1, .ref (gAd t 44 o1)), (2, .int x2), (3, .int n46)]) [1, 2, 3, 0] rfl ?_
          exact ih o0 o1 x2 n46 M43 v0 v1 h
theorem cal_X6_takeText : g_Cal yX6_takeText cX6_takeText 4 (none) 2 := ⟨tw_2, tw_593, by decide, by decide, by decide +kernel⟩
theorem calv_X6_takeText : g_CalV yX6_takeText := ⟨tw_591, tw_592⟩
set_option maxRecDepth 100000 in
set_option maxHeartbeats 4000000 in
theorem ct_X6_takeText {l : Launch} (hl : l.stackTraces = false) {t : gT} (hC : g_hC t) {o0 : Nat} {o1 : Nat} {x2 : Int32} (v0 : o0 < 1) (v1 : o1 < 1) {M : gM} {K : gM → Prop} (h : wp_X6_takeText o0 o1 x2 M K) : Met l yX6_takeText (g_y yX6_takeText cX6_takeText 4 (none)) rm_X6_takeText (va_Pc [.ref (gAd t 6 o0), .ref (gAd t 44 o1), .int x2] (g_Pre t M)) (va_Qv K (g_B t) (g_A t)) rm_X6_takeText.cells rm_X6_takeText.slots (g_A t) := by
  refine g_met hl rfl (Nat.le_of_ble_eq_true rfl) (fun X hlX cx hQ => ?_)
  subst hlX
  refine gg_aload_n (pc := 0) cx 0 rfl dX6_takeText_0 rfl ?_
  refine gg_iconst (pc := 1) cx (v := 0) dX6_takeText_1 (by decide) ?_
  refine gp_Reader_length (pc := 2) cx (hC 6 _ rfl v0) tw_101 dX6_takeText_2 ?_
  refine gg_mem (fun M2 eM2 => ?_)
  have h := h M2 eM2
  refine gg_iconst (pc := 5) cx (v := 0) dX6_takeText_5 (by decide) ?_
  refine gg_istore_n (pc := 6) cx [(3, .int 0), (0, .ref (gAd t 6 o0)), (1, .ref (gAd t 44 o1)), (2, .int x2)] dX6_takeText_6 rfl (by decide) rfl ?_
  refine gg_lv (lv' := [(0, .ref (gAd t 6 o0)), (1, .ref (gAd t 44 o1)), (2, .int x2), (3, .int 0)]) [1, 2, 3, 0] rfl ?_
  obtain ⟨f7, h⟩ := h
  exact wk_X6_takeText_L7 cx hC hQ f7 o0 o1 x2 0 M2 v0 v1 h
theorem cal_X6_sign : g_Cal yX6_sign cX6_sign 1 (some .char) 0 := ⟨tw_2, tw_417, by decide, by decide, by decide +kernel⟩
theorem calv_X6_sign : g_CalV yX6_sign := ⟨tw_416, ts_3⟩
set_option maxRecDepth 100000 in
set_option maxHeartbeats 4000000 in
theorem ct_X6_sign {l : Launch} (hl : l.stackTraces = false) {t : gT} (hC : g_hC t) {o0 : Nat} (v0 : o0 < 1) {M : gM} {K : Int32 → gM → Prop} (h : wp_X6_sign o0 M K) : Met l yX6_sign (g_y yX6_sign cX6_sign 1 (some .char)) rm_X6_sign (va_Pc [.ref (gAd t 6 o0)] (g_Pre t M)) (va_Qi K (g_B t) (g_A t)) rm_X6_sign.cells rm_X6_sign.slots (g_A t) := by
  refine g_met hl rfl (Nat.le_of_ble_eq_true rfl) (fun X hlX cx hQ => ?_)
  subst hlX
  refine gg_aload_n (pc := 0) cx 0 rfl dX6_sign_0 rfl ?_
  refine gf_Reader_pos (pc := 1) cx (hC 6 _ rfl v0) tw_102 dX6_sign_1 ?_
  refine gg_if_lt (pc := 4) cx (tgt := 42) dX6_sign_4 (by decide) (fun c4 => ?_) (fun c4 => ?_)
  · have h := g_it c4 h
    refine gg_iconst (pc := 42) cx (v := 0) dX6_sign_42 (by decide) ?_
    exact gg_zret (pc := 43) cx hQ rfl h dX6_sign_43
  · have h := g_if c4 h
    refine gg_aload_n (pc := 7) cx 0 rfl dX6_sign_7 rfl ?_
    refine gf_Reader_pos (pc := 8) cx (hC 6 _ rfl v0) tw_102 dX6_sign_8 ?_
    refine gg_aload_n (pc := 11) cx 0 rfl dX6_sign_11 rfl ?_
    refine gf_Reader_length (pc := 12) cx (hC 6 _ rfl v0) tw_101 dX6_sign_12 ?_
    refine gg_icmp_ge (pc := 15) cx (tgt := 42) dX6_sign_15 (by decide) (fun c15 => ?_) (fun c15 => ?_)
    · have h := g_it c15 h
      refine gg_iconst (pc := 42) cx (v := 0) dX6_sign_42 (by decide) ?_
      exact gg_zret (pc := 43) cx hQ rfl h dX6_sign_43
    · have h := g_if c15 h
      refine gg_aload_n (pc := 18) cx 0 rfl dX6_sign_18 rfl ?_
      refine gf_Reader_pos (pc := 19) cx (hC 6 _ rfl v0) tw_102 dX6_sign_19 ?_
      refine gg_aload_n (pc := 22) cx 0 rfl dX6_sign_22 rfl ?_
      refine gf_Reader_signs (pc := 23) cx (hC 6 _ rfl v0) tw_100 dX6_sign_23 ?_
      refine gg_alen (pc := 26) cx (ca := 2) (v := 120) (hC 41 _ rfl v0) rfl rfl rfl dX6_sign_26 ?_
      refine gg_icmp_ge (pc := 27) cx (tgt := 42) dX6_sign_27 (by decide) (fun c27 => ?_) (fun c27 => ?_)
      · have h := g_it c27 h
        refine gg_iconst (pc := 42) cx (v := 0) dX6_sign_42 (by decide) ?_
        exact gg_zret (pc := 43) cx hQ rfl h dX6_sign_43
      · have h := g_if c27 h
        refine gg_aload_n (pc := 30) cx 0 rfl dX6_sign_30 rfl ?_
        refine gf_Reader_signs (pc := 31) cx (hC 6 _ rfl v0) tw_100 dX6_sign_31 ?_
        refine gg_aload_n (pc := 34) cx 0 rfl dX6_sign_34 rfl ?_
        refine gf_Reader_pos (pc := 35) cx (hC 6 _ rfl v0) tw_102 dX6_sign_35 ?_
        have q38 := h.1
        have h := h.2
        refine gg_cald (pc := 38) cx (hC 41 _ rfl v0) rfl q38 dX6_sign_38 ?_
        refine gg_goto (pc := 39) cx (tgt := 43) dX6_sign_39 (by decide) ?_
        exact gg_zret (pc := 43) cx hQ h.1 h.2 dX6_sign_43
theorem cal_X6_isDigit : g_Cal yX6_isDigit cX6_isDigit 1 (some .boolean) 1 := ⟨tw_2, tw_420, by decide, by decide, by decide +kernel⟩
set_option maxRecDepth 100000 in
set_option maxHeartbeats 4000000 in
theorem ct_X6_isDigit {l : Launch} (hl : l.stackTraces = false) {t : gT} (hC : g_hC t) {x0 : Int32}  {M : gM} {K : Int32 → gM → Prop} (h : wp_X6_isDigit x0 M K) : Met l yX6_isDigit (g_y yX6_isDigit cX6_isDigit 1 (some .boolean)) rm_X6_isDigit (va_Pc [.int x0] (g_Pre t M)) (va_Qi K (g_B t) (g_A t)) rm_X6_isDigit.cells rm_X6_isDigit.slots (g_A t) := by
  refine g_met hl rfl (Nat.le_of_ble_eq_true rfl) (fun X hlX cx hQ => ?_)
  subst hlX
  refine gg_iload_n (pc := 0) cx 0 rfl dX6_isDigit_0 rfl ?_
  refine gg_bipush (pc := 1) cx (v := 48) dX6_isDigit_1 (by decide) ?_
  refine gg_icmp_lt (pc := 3) cx (tgt := 16) dX6_isDigit_3 (by decide) (fun c3 => ?_) (fun c3 => ?_)
  · have h := g_it c3 h
    refine gg_iconst (pc := 16) cx (v := 0) dX6_isDigit_16 (by decide) ?_
    exact gg_zret (pc := 17) cx hQ rfl h dX6_isDigit_17
  · have h := g_if c3 h
    refine gg_iload_n (pc := 6) cx 0 rfl dX6_isDigit_6 rfl ?_
    refine gg_bipush (pc := 7) cx (v := 57) dX6_isDigit_7 (by decide) ?_
    refine gg_icmp_gt (pc := 9) cx (tgt := 16) dX6_isDigit_9 (by decide) (fun c9 => ?_) (fun c9 => ?_)
    · have h := g_it c9 h
      refine gg_iconst (pc := 16) cx (v := 0) dX6_isDigit_16 (by decide) ?_
      exact gg_zret (pc := 17) cx hQ rfl h dX6_isDigit_17
    · have h := g_if c9 h
      refine gg_iconst (pc := 12) cx (v := 1) dX6_isDigit_12 (by decide) ?_
      refine gg_goto (pc := 13) cx (tgt := 17) dX6_isDigit_13 (by decide) ?_
      exact gg_zret (pc := 17) cx hQ rfl h dX6_isDigit_17
set_option maxRecDepth 100000 in
set_option maxHeartbeats 4000000 in
theorem wk_X6_readNumber_L4 {t : gT} {X : gX} (cx : g_Cx t X cX6_readNumber 5 RX6 (some .int)) (hC : g_hC t) {K : Int32 → gM → Prop} (hQ : gXQ X = MQ (gXb X) (va_Qi K (g_B t) (g_A t)) (gXa X) (gXs X) rm_X6_readNumber.cells rm_X6_readNumber.slots (g_A t)) (f : Nat) : ∀ (o0 : Nat) (x1 : Int32) (x2 : Int32) (x3 : Int32) (M : gM), o0 < 1 → wp_X6_readNumber_L4 K f o0 x1 x2 x3 M → G t rm_X6_readNumber X 5 0 0 M [(0, .ref (gAd t 6 o0)), (1, .int x1), (2, .int x2), (3, .int x3)] [] 4 := by
  induction f with
  | zero => intro _ _ _ _ _ _ _; exact False.elim (by assumption)
  | succ f ih =>
    intro o0 x1 x2 x3 M v0 h
    refine gg_iload_n (pc := 4) cx 3 rfl dX6_readNumber_4 rfl ?_
    refine gg_iload_n (pc := 5) cx 1 rfl dX6_readNumber_5 rfl ?_
    refine gg_icmp_gt (pc := 6) cx (tgt := 65) dX6_readNumber_6 (by decide) (fun c6 => ?_) (fun c6 => ?_)
    · have h := g_it c6 h
      refine gg_iconst (pc := 65) cx (v := (-1)) dX6_readNumber_65 (by decide) ?_
      exact gg_iret (pc := 66) cx hQ h dX6_readNumber_66
    · have h := g_if c6 h
      refine gg_aload_n (pc := 9) cx 0 rfl dX6_readNumber_9 rfl ?_
      refine gg_callVi (pc := 10) cx cal_X6_sign calv_X6_sign (ct_X6_sign cx.tr hC v0 h) tw_414 (hC 6 _ rfl v0) rfl rfl rfl (st := []) rfl (Nat.le_of_ble_eq_true rfl) ⟨Nat.le_of_ble_eq_true rfl, Nat.le_of_ble_eq_true rfl⟩ ⟨Nat.le_of_ble_eq_true rfl, Nat.le_of_ble_eq_true rfl⟩ dX6_readNumber_10 (fun r10 M10 h => ?_)
      refine gg_istore (pc := 13) cx [(4, .int r10), (0, .ref (gAd t 6 o0)), (1, .int x1), (2, .int x2), (3, .int x3)] dX6_readNumber_13 (by decide) rfl ?_
      refine gg_iload (pc := 15) cx 0 rfl dX6_readNumber_15 ?_
      refine gg_callSi (pc := 17) cx cal_X6_isDigit tw_419 (ct_X6_isDigit cx.tr hC  h) tw_418 rfl (st := []) rfl (Nat.le_of_ble_eq_true rfl) ⟨Nat.le_of_ble_eq_true rfl, Nat.le_of_ble_eq_true rfl⟩ ⟨Nat.le_of_ble_eq_true rfl, Nat.le_of_ble_eq_true rfl⟩ dX6_readNumber_17 (fun r17 M17 h => ?_)
      refine gg_if_ne (pc := 20) cx (tgt := 33) dX6_readNumber_20 (by decide) (fun c20 => ?_) (fun c20 => ?_)
      · have h := g_if c20 h
        refine gg_iload_n (pc := 33) cx 4 rfl dX6_readNumber_33 rfl ?_
        refine gg_iload_n (pc := 34) cx 2 rfl dX6_readNumber_34 rfl ?_
        refine gg_icmp_ge (pc := 35) cx (tgt := 59) dX6_readNumber_35 (by decide) (fun c35 => ?_) (fun c35 => ?_)
        · have h := g_it c35 h
          obtain ⟨n59, en59⟩ : ∃ z : Int32, z = x3 + Int32.ofInt (1) := ⟨_, rfl⟩
          have h := h n59 en59
          refine gg_iinc (pc := 59) cx 4 [(3, .int n59), (4, .int r10), (0, .ref (gAd t 6 o0)), (1, .int x1), (2, .int x2)] dX6_readNumber_59 rfl en59.symm (by decide) rfl ?_
          refine gg_goto (pc := 62) cx (tgt := 4) dX6_readNumber_62 (by decide) ?_
          refine gg_lv (lv' := [(0, .ref (gAd t 6 o0)), (1, .int x1), (2, .int x2), (3, .int n59)]) [2, 3, 4, 0] rfl ?_
          exact ih o0 x1 x2 n59 M17 v0 h
        · have h := g_if c35 h
          refine gg_iload_n (pc := 38) cx 3 rfl dX6_readNumber_38 rfl ?_
          refine gg_bipush (pc := 39) cx (v := 10) dX6_readNumber_39 (by decide) ?_
          refine gg_imul (pc := 41) cx dX6_readNumber_41 ?_
          refine gg_iload (pc := 42) cx 0 rfl dX6_readNumber_42 ?_
          refine gg_bipush (pc := 44) cx (v := 48) dX6_readNumber_44 (by decide) ?_
          refine gg_isub (pc := 46) cx dX6_readNumber_46 ?_
          refine gg_iadd (pc := 47) cx dX6_readNumber_47 ?_
          refine gg_topi (fun n48 en48 => ?_)
          have h := h n48 en48
          refine gg_istore_n (pc := 48) cx [(2, .int n48), (4, .int r10), (0, .ref (gAd t 6 o0)), (1, .int x1), (3, .int x3)] dX6_readNumber_48 rfl (by decide) rfl ?_
          refine gg_aload_n (pc := 49) cx 2 rfl dX6_readNumber_49 rfl ?_
          refine gg_dup (pc := 50) cx dX6_readNumber_50 rfl ?_
          refine gf_Reader_pos (pc := 51) cx (hC 6 _ rfl v0) tw_102 dX6_readNumber_51 ?_
          refine gg_iconst (pc := 54) cx (v := 1) dX6_readNumber_54 (by decide) ?_
          refine gg_iadd (pc := 55) cx dX6_readNumber_55 ?_
          refine gp_Reader_pos (pc := 56) cx (hC 6 _ rfl v0) tw_102 dX6_readNumber_56 ?_
          refine gg_mem (fun M56 eM56 => ?_)
          have h := h M56 eM56
          obtain ⟨n59, en59⟩ : ∃ z : Int32, z = x3 + Int32.ofInt (1) := ⟨_, rfl⟩
          have h := h n59 en59
          refine gg_iinc (pc := 59) cx 4 [(3, .int n59), (2, .int n48), (4, .int r10), (0, .ref (gAd t 6 o0)), (1, .int x1)] dX6_readNumber_59 rfl en59.symm (by decide) rfl ?_
          refine gg_goto (pc := 62) cx (tgt := 4) dX6_readNumber_62 (by decide) ?_
          refine gg_lv (lv' := [(0, .ref (gAd t 6 o0)), (1, .int x1), (2, .int n48), (3, .int n59)]) [3, 4, 1, 0] rfl ?_
          exact ih o0 x1 n48 n59 M56 v0 h
      · have h := g_it c20 h
        refine gg_iload_n (pc := 23) cx 4 rfl dX6_readNumber_23 rfl ?_
        refine gg_if_ne (pc := 24) cx (tgt := 31) dX6_readNumber_24 (by decide) (fun c24 => ?_) (fun c24 => ?_)
        · have h := g_if c24 h
          refine gg_iload_n (pc := 31) cx 3 rfl dX6_readNumber_31 rfl ?_
          exact gg_iret (pc := 32) cx hQ h dX6_readNumber_32
        · have h := g_it c24 h
          refine gg_iconst (pc := 27) cx (v := (-1)) dX6_readNumber_27 (by decide) ?_
          refine gg_goto (pc := 28) cx (tgt := 32) dX6_readNumber_28 (by decide) ?_
          exact gg_iret (pc := 32) cx hQ h dX6_readNumber_32
theorem cal_X6_readNumber : g_Cal yX6_readNumber cX6_readNumber 5 (some .int) 1 := ⟨tw_2, tw_413, by decide, by decide, by decide +kernel⟩
theorem calv_X6_readNumber : g_CalV yX6_readNumber := ⟨tw_412, ts_2⟩
set_option maxRecDepth 100000 in
set_option maxHeartbeats 4000000 in
theorem ct_X6_readNumber {l : Launch} (hl : l.stackTraces = false) {t : gT} (hC : g_hC t) {o0 : Nat} {x1 : Int32} (v0 : o0 < 1) {M : gM} {K : Int32 → gM → Prop} (h : wp_X6_readNumber o0 x1 M K) : Met l yX6_readNumber (g_y yX6_readNumber cX6_readNumber 5 (some .int)) rm_X6_readNumber (va_Pc [.ref (gAd t 6 o0), .int x1] (g_Pre t M)) (va_Qi K (g_B t) (g_A t)) rm_X6_readNumber.cells rm_X6_readNumber.slots (g_A t) := by
  refine g_met hl rfl (Nat.le_of_ble_eq_true rfl) (fun X hlX cx hQ => ?_)
  subst hlX
  refine gg_iconst (pc := 0) cx (v := 0) dX6_readNumber_0 (by decide) ?_
  refine gg_istore_n (pc := 1) cx [(2, .int 0), (0, .ref (gAd t 6 o0)), (1, .int x1)] dX6_readNumber_1 rfl (by decide) rfl ?_
  refine gg_iconst (pc := 2) cx (v := 0) dX6_readNumber_2 (by decide) ?_
  refine gg_istore_n (pc := 3) cx [(3, .int 0), (2, .int 0), (0, .ref (gAd t 6 o0)), (1, .int x1)] dX6_readNumber_3 rfl (by decide) rfl ?_
  refine gg_lv (lv' := [(0, .ref (gAd t 6 o0)), (1, .int x1), (2, .int 0), (3, .int 0)]) [2, 3, 1, 0] rfl ?_
  obtain ⟨f4, h⟩ := h
  exact wk_X6_readNumber_L4 cx hC hQ f4 o0 x1 0 0 M v0 h
theorem cal_X6_readStart : g_Cal yX6_readStart cX6_readStart 3 (some .boolean) 1 := ⟨tw_2, tw_401, by decide, by decide, by decide +kernel⟩
theorem calv_X6_readStart : g_CalV yX6_readStart := ⟨tw_400, ts_1⟩
set_option maxRecDepth 100000 in
set_option maxHeartbeats 4000000 in
theorem ct_X6_readStart {l : Launch} (hl : l.stackTraces = false) {t : gT} (hC : g_hC t) {o0 : Nat} {x1 : Int32} (v0 : o0 < 1) {M : gM} {K : Int32 → gM → Prop} (h : wp_X6_readStart o0 x1 M K) : Met l yX6_readStart (g_y yX6_readStart cX6_readStart 3 (some .boolean)) rm_X6_readStart (va_Pc [.ref (gAd t 6 o0), .int x1] (g_Pre t M)) (va_Qi K (g_B t) (g_A t)) rm_X6_readStart.cells rm_X6_readStart.slots (g_A t) := by
  refine g_met hl rfl (Nat.le_of_ble_eq_true rfl) (fun X hlX cx hQ => ?_)
  subst hlX
  refine gg_aload_n (pc := 0) cx 0 rfl dX6_readStart_0 rfl ?_
  refine gg_aload_n (pc := 1) cx 0 rfl dX6_readStart_1 rfl ?_
  refine gf_Reader_pos (pc := 2) cx (hC 6 _ rfl v0) tw_102 dX6_readStart_2 ?_
  refine gp_Reader_nodeAt (pc := 5) cx (hC 6 _ rfl v0) tw_103 dX6_readStart_5 ?_
  refine gg_mem (fun M5 eM5 => ?_)
  have h := h M5 eM5
  refine gg_aload_n (pc := 8) cx 0 rfl dX6_readStart_8 rfl ?_
  refine gg_aload_n (pc := 9) cx 0 rfl dX6_readStart_9 rfl ?_
  refine gf_Reader_pos (pc := 10) cx (hC 6 _ rfl v0) tw_102 dX6_readStart_10 ?_
  refine gp_Reader_partAt (pc := 13) cx (hC 6 _ rfl v0) tw_104 dX6_readStart_13 ?_
  refine gg_mem (fun M13 eM13 => ?_)
  have h := h M13 eM13
  refine gg_aload_n (pc := 16) cx 0 rfl dX6_readStart_16 rfl ?_
  refine gg_iconst (pc := 17) cx (v := (-1)) dX6_readStart_17 (by decide) ?_
  refine gp_Reader_signAt (pc := 18) cx (hC 6 _ rfl v0) tw_105 dX6_readStart_18 ?_
  refine gg_mem (fun M18 eM18 => ?_)
  have h := h M18 eM18
  refine gg_iload_n (pc := 21) cx 1 rfl dX6_readStart_21 rfl ?_
  refine gg_bipush (pc := 22) cx (v := 12) dX6_readStart_22 (by decide) ?_
  refine gg_icmp_lt (pc := 24) cx (tgt := 29) dX6_readStart_24 (by decide) (fun c24 => ?_) (fun c24 => ?_)
  · have h := g_it c24 h
    refine gg_iload_n (pc := 29) cx 1 rfl dX6_readStart_29 rfl ?_
    refine gg_if_ne (pc := 30) cx (tgt := 43) dX6_readStart_30 (by decide) (fun c30 => ?_) (fun c30 => ?_)
    · have h := g_if c30 h
      refine gg_aload_n (pc := 43) cx 0 rfl dX6_readStart_43 rfl ?_
      refine gg_iconst (pc := 44) cx (v := 2) dX6_readStart_44 (by decide) ?_
      refine gg_callVi (pc := 45) cx cal_X6_readNumber calv_X6_readNumber (ct_X6_readNumber cx.tr hC v0 h) tw_410 (hC 6 _ rfl v0) rfl rfl rfl (st := []) rfl (Nat.le_of_ble_eq_true rfl) ⟨Nat.le_of_ble_eq_true rfl, Nat.le_of_ble_eq_true rfl⟩ ⟨Nat.le_of_ble_eq_true rfl, Nat.le_of_ble_eq_true rfl⟩ dX6_readStart_45 (fun r45 M45 h => ?_)
      refine gg_istore_n (pc := 48) cx [(2, .int r45), (0, .ref (gAd t 6 o0)), (1, .int x1)] dX6_readStart_48 rfl (by decide) rfl ?_
      refine gg_iload_n (pc := 49) cx 0 rfl dX6_readStart_49 rfl ?_
      refine gg_if_lt (pc := 50) cx (tgt := 67) dX6_readStart_50 (by decide) (fun c50 => ?_) (fun c50 => ?_)
      · have h := g_it c50 h
        refine gg_iconst (pc := 67) cx (v := 0) dX6_readStart_67 (by decide) ?_
        exact gg_zret (pc := 68) cx hQ rfl h dX6_readStart_68
      · have h := g_if c50 h
        refine gg_iload_n (pc := 53) cx 0 rfl dX6_readStart_53 rfl ?_
        refine gg_iload_n (pc := 54) cx 2 rfl dX6_readStart_54 rfl ?_
        refine gg_icmp_ge (pc := 55) cx (tgt := 67) dX6_readStart_55 (by decide) (fun c55 => ?_) (fun c55 => ?_)
        · have h := g_it c55 h
          refine gg_iconst (pc := 67) cx (v := 0) dX6_readStart_67 (by decide) ?_
          exact gg_zret (pc := 68) cx hQ rfl h dX6_readStart_68
        · have h := g_if c55 h
          refine gg_aload_n (pc := 58) cx 1 rfl dX6_readStart_58 rfl ?_
          refine gg_callVi (pc := 59) cx cal_X6_sign calv_X6_sign (ct_X6_sign cx.tr hC v0 h) tw_414 (hC 6 _ rfl v0) rfl rfl rfl (st := []) rfl (Nat.le_of_ble_eq_true rfl) ⟨Nat.le_of_ble_eq_true rfl, Nat.le_of_ble_eq_true rfl⟩ ⟨Nat.le_of_ble_eq_true rfl, Nat.le_of_ble_eq_true rfl⟩ dX6_readStart_59 (fun r59 M59 h => ?_)
          refine gg_bipush (pc := 62) cx (v := 60) dX6_readStart_62 (by decide) ?_
          refine gg_icmp_eq (pc := 64) cx (tgt := 69) dX6_readStart_64 (by decide) (fun c64 => ?_) (fun c64 => ?_)
          · have h := g_it c64 h
            refine gg_aload_n (pc := 69) cx 1 rfl dX6_readStart_69 rfl ?_
            refine gg_dup (pc := 70) cx dX6_readStart_70 rfl ?_
            refine gf_Reader_pos (pc := 71) cx (hC 6 _ rfl v0) tw_102 dX6_readStart_71 ?_
            refine gg_iconst (pc := 74) cx (v := 1) dX6_readStart_74 (by decide) ?_
            refine gg_iadd (pc := 75) cx dX6_readStart_75 ?_
            refine gp_Reader_pos (pc := 76) cx (hC 6 _ rfl v0) tw_102 dX6_readStart_76 ?_
            refine gg_mem (fun M76 eM76 => ?_)
            have h := h M76 eM76
            refine gg_aload_n (pc := 79) cx 1 rfl dX6_readStart_79 rfl ?_
            refine gf_Reader_plan (pc := 80) cx (hC 6 _ rfl v0) tw_98 dX6_readStart_80 ?_
            refine gg_iload_n (pc := 83) cx 0 rfl dX6_readStart_83 rfl ?_
            refine gg_callVv (pc := 84) cx cal_X5_addNode calv_X5_addNode (ct_X5_addNode cx.tr hC (Nat.le_of_ble_eq_true rfl) h) tw_402 (hC 5 _ rfl (Nat.le_of_ble_eq_true rfl)) rfl rfl rfl (st := []) rfl (Nat.le_of_ble_eq_true rfl) ⟨Nat.le_of_ble_eq_true rfl, Nat.le_of_ble_eq_true rfl⟩ ⟨Nat.le_of_ble_eq_true rfl, Nat.le_of_ble_eq_true rfl⟩ dX6_readStart_84 (fun M84 h => ?_)
            refine gg_iconst (pc := 87) cx (v := 1) dX6_readStart_87 (by decide) ?_
            exact gg_zret (pc := 88) cx hQ rfl h dX6_readStart_88
          · have h := g_if c64 h
            refine gg_iconst (pc := 67) cx (v := 0) dX6_readStart_67 (by decide) ?_
            exact gg_zret (pc := 68) cx hQ rfl h dX6_readStart_68
    · have h := g_it c30 h
      refine gg_aload_n (pc := 33) cx 0 rfl dX6_readStart_33 rfl ?_
      refine gf_Reader_plan (pc := 34) cx (hC 6 _ rfl v0) tw_98 dX6_readStart_34 ?_
      refine gg_iconst (pc := 37) cx (v := (-1)) dX6_readStart_37 (by decide) ?_
      refine gg_callVv (pc := 38) cx cal_X5_addNode calv_X5_addNode (ct_X5_addNode cx.tr hC (Nat.le_of_ble_eq_true rfl) h) tw_402 (hC 5 _ rfl (Nat.le_of_ble_eq_true rfl)) rfl rfl rfl (st := []) rfl (Nat.le_of_ble_eq_true rfl) ⟨Nat.le_of_ble_eq_true rfl, Nat.le_of_ble_eq_true rfl⟩ ⟨Nat.le_of_ble_eq_true rfl, Nat.le_of_ble_eq_true rfl⟩ dX6_readStart_38 (fun M38 h => ?_)
      refine gg_iconst (pc := 41) cx (v := 1) dX6_readStart_41 (by decide) ?_
      exact gg_zret (pc := 42) cx hQ rfl h dX6_readStart_42
  · have h := g_if c24 h
    refine gg_iconst (pc := 27) cx (v := 0) dX6_readStart_27 (by decide) ?_
    exact gg_zret (pc := 28) cx hQ rfl h dX6_readStart_28
theorem cal_X6_pushOpen : g_Cal yX6_pushOpen cX6_pushOpen 2 (none) 1 := ⟨tw_2, tw_440, by decide, by decide, by decide +kernel⟩
theorem calv_X6_pushOpen : g_CalV yX6_pushOpen := ⟨tw_439, ts_7⟩
set_option maxRecDepth 100000 in
set_option maxHeartbeats 4000000 in
theorem ct_X6_pushOpen {l : Launch} (hl : l.stackTraces = false) {t : gT} (hC : g_hC t) {o0 : Nat} {x1 : Int32} (v0 : o0 < 1) {M : gM} {K : gM → Prop} (h : wp_X6_pushOpen o0 x1 M K) : Met l yX6_pushOpen (g_y yX6_pushOpen cX6_pushOpen 2 (none)) rm_X6_pushOpen (va_Pc [.ref (gAd t 6 o0), .int x1] (g_Pre t M)) (va_Qv K (g_B t) (g_A t)) rm_X6_pushOpen.cells rm_X6_pushOpen.slots (g_A t) := by
  refine g_met hl rfl (Nat.le_of_ble_eq_true rfl) (fun X hlX cx hQ => ?_)
  subst hlX
  refine gg_aload_n (pc := 0) cx 0 rfl dX6_pushOpen_0 rfl ?_
  refine gf_Reader_openCount (pc := 1) cx (hC 6 _ rfl v0) tw_107 dX6_pushOpen_1 ?_
  refine gg_if_lt (pc := 4) cx (tgt := 39) dX6_pushOpen_4 (by decide) (fun c4 => ?_) (fun c4 => ?_)
  · have h := g_it c4 h
    exact gg_vret (pc := 39) cx hQ h dX6_pushOpen_39
  · have h := g_if c4 h
    refine gg_aload_n (pc := 7) cx 0 rfl dX6_pushOpen_7 rfl ?_
    refine gf_Reader_openCount (pc := 8) cx (hC 6 _ rfl v0) tw_107 dX6_pushOpen_8 ?_
    refine gg_aload_n (pc := 11) cx 0 rfl dX6_pushOpen_11 rfl ?_
    refine gf_Reader_open (pc := 12) cx (hC 6 _ rfl v0) tw_106 dX6_pushOpen_12 ?_
    refine gg_alen (pc := 15) cx (ca := 2) (v := 120) (hC 42 _ rfl v0) rfl rfl rfl dX6_pushOpen_15 ?_
    refine gg_icmp_ge (pc := 16) cx (tgt := 39) dX6_pushOpen_16 (by decide) (fun c16 => ?_) (fun c16 => ?_)
    · have h := g_it c16 h
      exact gg_vret (pc := 39) cx hQ h dX6_pushOpen_39
    · have h := g_if c16 h
      refine gg_aload_n (pc := 19) cx 0 rfl dX6_pushOpen_19 rfl ?_
      refine gf_Reader_open (pc := 20) cx (hC 6 _ rfl v0) tw_106 dX6_pushOpen_20 ?_
      refine gg_aload_n (pc := 23) cx 0 rfl dX6_pushOpen_23 rfl ?_
      refine gf_Reader_openCount (pc := 24) cx (hC 6 _ rfl v0) tw_107 dX6_pushOpen_24 ?_
      refine gg_iload_n (pc := 27) cx 1 rfl dX6_pushOpen_27 rfl ?_
      have q28 := h.1
      have h := h.2
      refine gg_cast (pc := 28) cx (hC 42 _ rfl v0) (fun _ _ => rfl) q28 dX6_pushOpen_28 ?_
      refine gg_mem (fun M28 eM28 => ?_)
      have h := h M28 eM28
      refine gg_aload_n (pc := 29) cx 0 rfl dX6_pushOpen_29 rfl ?_
      refine gg_dup (pc := 30) cx dX6_pushOpen_30 rfl ?_
      refine gf_Reader_openCount (pc := 31) cx (hC 6 _ rfl v0) tw_107 dX6_pushOpen_31 ?_
      refine gg_iconst (pc := 34) cx (v := 1) dX6_pushOpen_34 (by decide) ?_
      refine gg_iadd (pc := 35) cx dX6_pushOpen_35 ?_
      refine gp_Reader_openCount (pc := 36) cx (hC 6 _ rfl v0) tw_107 dX6_pushOpen_36 ?_
      refine gg_mem (fun M36 eM36 => ?_)
      have h := h M36 eM36
      exact gg_vret (pc := 39) cx hQ h dX6_pushOpen_39
set_option maxRecDepth 100000 in
set_option maxHeartbeats 4000000 in
theorem wk_X6_readOperand_b143 {t : gT} {X : gX} (cx : g_Cx t X cX6_readOperand 4 RX6 (some .int)) (hC : g_hC t) {K : Int32 → gM → Prop} (hQ : gXQ X = MQ (gXb X) (va_Qi K (g_B t) (g_A t)) (gXa X) (gXs X) rm_X6_readOperand.cells rm_X6_readOperand.slots (g_A t)) {o0 : Nat} {x3 : Int32} {M : gM} (v0 : o0 < 1) (h : wp_X6_readOperand_b143 K o0 x3 M) : G t rm_X6_readOperand X 4 0 0 M [(0, .ref (gAd t 6 o0)), (3, .int x3)] [] 143 := by
  refine gg_aload_n (pc := 143) cx 0 rfl dX6_readOperand_143 rfl ?_
  refine gf_Reader_plan (pc := 144) cx (hC 6 _ rfl v0) tw_98 dX6_readOperand_144 ?_
  refine gg_iconst (pc := 147) cx (v := (-1)) dX6_readOperand_147 (by decide) ?_
  refine gg_iload_n (pc := 148) cx 1 rfl dX6_readOperand_148 rfl ?_
  refine gg_isub (pc := 149) cx dX6_readOperand_149 ?_
  refine gg_callVv (pc := 150) cx cal_X5_emit calv_X5_emit (ct_X5_emit cx.tr hC (Nat.le_of_ble_eq_true rfl) h) tw_433 (hC 5 _ rfl (Nat.le_of_ble_eq_true rfl)) rfl rfl rfl (st := []) rfl (Nat.le_of_ble_eq_true rfl) ⟨Nat.le_of_ble_eq_true rfl, Nat.le_of_ble_eq_true rfl⟩ ⟨Nat.le_of_ble_eq_true rfl, Nat.le_of_ble_eq_true rfl⟩ dX6_readOperand_150 (fun M150 h => ?_)
  refine gg_aload_n (pc := 153) cx 0 rfl dX6_readOperand_153 rfl ?_
  refine gg_dup (pc := 154) cx dX6_readOperand_154 rfl ?_
  refine gf_Reader_pos (pc := 155) cx (hC 6 _ rfl v0) tw_102 dX6_readOperand_155 ?_
  refine gg_iconst (pc := 158) cx (v := 1) dX6_readOperand_158 (by decide) ?_
  refine gg_iadd (pc := 159) cx dX6_readOperand_159 ?_
  refine gp_Reader_pos (pc := 160) cx (hC 6 _ rfl v0) tw_102 dX6_readOperand_160 ?_
  refine gg_mem (fun M160 eM160 => ?_)
  have h := h M160 eM160
  refine gg_iconst (pc := 163) cx (v := 1) dX6_readOperand_163 (by decide) ?_
  exact gg_iret (pc := 164) cx hQ h dX6_readOperand_164
set_option maxRecDepth 100000 in
set_option maxHeartbeats 4000000 in
theorem wk_X6_readOperand_b82 {t : gT} {X : gX} (cx : g_Cx t X cX6_readOperand 4 RX6 (some .int)) (hC : g_hC t) {K : Int32 → gM → Prop} (hQ : gXQ X = MQ (gXb X) (va_Qi K (g_B t) (g_A t)) (gXa X) (gXs X) rm_X6_readOperand.cells rm_X6_readOperand.slots (g_A t)) {o0 : Nat} {x1 : Int32} {M : gM} (v0 : o0 < 1) (h : wp_X6_readOperand_b82 K o0 x1 M) : G t rm_X6_readOperand X 4 0 0 M [(0, .ref (gAd t 6 o0)), (1, .int x1)] [] 82 := by
  refine gg_aload_n (pc := 82) cx 0 rfl dX6_readOperand_82 rfl ?_
  refine gg_dup (pc := 83) cx dX6_readOperand_83 rfl ?_
  refine gf_Reader_pos (pc := 84) cx (hC 6 _ rfl v0) tw_102 dX6_readOperand_84 ?_
  refine gg_iconst (pc := 87) cx (v := 1) dX6_readOperand_87 (by decide) ?_
  refine gg_iadd (pc := 88) cx dX6_readOperand_88 ?_
  refine gp_Reader_pos (pc := 89) cx (hC 6 _ rfl v0) tw_102 dX6_readOperand_89 ?_
  refine gg_mem (fun M89 eM89 => ?_)
  have h := h M89 eM89
  refine gg_aload_n (pc := 92) cx 0 rfl dX6_readOperand_92 rfl ?_
  refine gg_callVi (pc := 93) cx cal_X6_sign calv_X6_sign (ct_X6_sign cx.tr hC v0 h) tw_414 (hC 6 _ rfl v0) rfl rfl rfl (st := []) rfl (Nat.le_of_ble_eq_true rfl) ⟨Nat.le_of_ble_eq_true rfl, Nat.le_of_ble_eq_true rfl⟩ ⟨Nat.le_of_ble_eq_true rfl, Nat.le_of_ble_eq_true rfl⟩ dX6_readOperand_93 (fun r93 M93 h => ?_)
  refine gg_bipush (pc := 96) cx (v := 40) dX6_readOperand_96 (by decide) ?_
  refine gg_icmp_eq (pc := 98) cx (tgt := 103) dX6_readOperand_98 (by decide) (fun c98 => ?_) (fun c98 => ?_)
  · have h := g_it c98 h
    refine gg_aload_n (pc := 103) cx 0 rfl dX6_readOperand_103 rfl ?_
    refine gg_iload_n (pc := 104) cx 1 rfl dX6_readOperand_104 rfl ?_
    refine gg_callVv (pc := 105) cx cal_X6_pushOpen calv_X6_pushOpen (ct_X6_pushOpen cx.tr hC v0 h) tw_437 (hC 6 _ rfl v0) rfl rfl rfl (st := []) rfl (Nat.le_of_ble_eq_true rfl) ⟨Nat.le_of_ble_eq_true rfl, Nat.le_of_ble_eq_true rfl⟩ ⟨Nat.le_of_ble_eq_true rfl, Nat.le_of_ble_eq_true rfl⟩ dX6_readOperand_105 (fun M105 h => ?_)
    refine gg_aload_n (pc := 108) cx 0 rfl dX6_readOperand_108 rfl ?_
    refine gg_dup (pc := 109) cx dX6_readOperand_109 rfl ?_
    refine gf_Reader_pos (pc := 110) cx (hC 6 _ rfl v0) tw_102 dX6_readOperand_110 ?_
    refine gg_iconst (pc := 113) cx (v := 1) dX6_readOperand_113 (by decide) ?_
    refine gg_iadd (pc := 114) cx dX6_readOperand_114 ?_
    refine gp_Reader_pos (pc := 115) cx (hC 6 _ rfl v0) tw_102 dX6_readOperand_115 ?_
    refine gg_mem (fun M115 eM115 => ?_)
    have h := h M115 eM115
    refine gg_iconst (pc := 118) cx (v := 0) dX6_readOperand_118 (by decide) ?_
    exact gg_iret (pc := 119) cx hQ h dX6_readOperand_119
  · have h := g_if c98 h
    refine gg_iconst (pc := 101) cx (v := 3) dX6_readOperand_101 (by decide) ?_
    exact gg_iret (pc := 102) cx hQ h dX6_readOperand_102
set_option maxRecDepth 100000 in
set_option maxHeartbeats 4000000 in
theorem wk_X6_readOperand_b55 {t : gT} {X : gX} (cx : g_Cx t X cX6_readOperand 4 RX6 (some .int)) (hC : g_hC t) {K : Int32 → gM → Prop} (hQ : gXQ X = MQ (gXb X) (va_Qi K (g_B t) (g_A t)) (gXa X) (gXs X) rm_X6_readOperand.cells rm_X6_readOperand.slots (g_A t)) {o0 : Nat} {os0 : Nat} {xs1 : Int32} {M : gM} (v0 : o0 < 1) (vs0 : os0 < 1) (h : wp_X6_readOperand_b55 K o0 os0 xs1 M) : G t rm_X6_readOperand X 4 0 0 M [(0, .ref (gAd t 6 o0))] [.int xs1, .ref (gAd t 6 os0)] 55 := by
  refine gg_callVv (pc := 55) cx cal_X6_pushOpen calv_X6_pushOpen (ct_X6_pushOpen cx.tr hC vs0 h) tw_437 (hC 6 _ rfl vs0) rfl rfl rfl (st := []) rfl (Nat.le_of_ble_eq_true rfl) ⟨Nat.le_of_ble_eq_true rfl, Nat.le_of_ble_eq_true rfl⟩ ⟨Nat.le_of_ble_eq_true rfl, Nat.le_of_ble_eq_true rfl⟩ dX6_readOperand_55 (fun M55 h => ?_)
  refine gg_aload_n (pc := 58) cx 0 rfl dX6_readOperand_58 rfl ?_
  refine gg_dup (pc := 59) cx dX6_readOperand_59 rfl ?_
  refine gf_Reader_pos (pc := 60) cx (hC 6 _ rfl v0) tw_102 dX6_readOperand_60 ?_
  refine gg_iconst (pc := 63) cx (v := 1) dX6_readOperand_63 (by decide) ?_
  refine gg_iadd (pc := 64) cx dX6_readOperand_64 ?_
  refine gp_Reader_pos (pc := 65) cx (hC 6 _ rfl v0) tw_102 dX6_readOperand_65 ?_
  refine gg_mem (fun M65 eM65 => ?_)
  have h := h M65 eM65
  refine gg_iconst (pc := 68) cx (v := 0) dX6_readOperand_68 (by decide) ?_
  exact gg_iret (pc := 69) cx hQ h dX6_readOperand_69
set_option maxRecDepth 100000 in
set_option maxHeartbeats 4000000 in
theorem wk_X6_readOperand_b42 {t : gT} {X : gX} (cx : g_Cx t X cX6_readOperand 4 RX6 (some .int)) (hC : g_hC t) {K : Int32 → gM → Prop} (hQ : gXQ X = MQ (gXb X) (va_Qi K (g_B t) (g_A t)) (gXa X) (gXs X) rm_X6_readOperand.cells rm_X6_readOperand.slots (g_A t)) {o0 : Nat} {x1 : Int32} {M : gM} (v0 : o0 < 1) (h : wp_X6_readOperand_b42 K o0 x1 M) : G t rm_X6_readOperand X 4 0 0 M [(0, .ref (gAd t 6 o0)), (1, .int x1)] [] 42 := by
  refine gg_aload_n (pc := 42) cx 0 rfl dX6_readOperand_42 rfl ?_
  refine gg_iload_n (pc := 43) cx 1 rfl dX6_readOperand_43 rfl ?_
  refine gg_bipush (pc := 44) cx (v := 45) dX6_readOperand_44 (by decide) ?_
  refine gg_icmp_ne (pc := 46) cx (tgt := 54) dX6_readOperand_46 (by decide) (fun c46 => ?_) (fun c46 => ?_)
  · have h := g_if c46 h
    refine gg_iload_n (pc := 54) cx 1 rfl dX6_readOperand_54 rfl ?_
    refine gg_lv (lv' := [(0, .ref (gAd t 6 o0))]) [0] rfl ?_
    exact wk_X6_readOperand_b55 cx hC hQ v0 v0 h
  · have h := g_it c46 h
    refine gg_bipush (pc := 49) cx (v := 126) dX6_readOperand_49 (by decide) ?_
    refine gg_goto (pc := 51) cx (tgt := 55) dX6_readOperand_51 (by decide) ?_
    refine gg_lv (lv' := [(0, .ref (gAd t 6 o0))]) [0] rfl ?_
    exact wk_X6_readOperand_b55 cx hC hQ v0 v0 h
theorem cal_X6_readOperand : g_Cal yX6_readOperand cX6_readOperand 4 (some .int) 2 := ⟨tw_2, tw_432, by decide, by decide, by decide +kernel⟩
theorem calv_X6_readOperand : g_CalV yX6_readOperand := ⟨tw_431, ts_6⟩
set_option maxRecDepth 100000 in
set_option maxHeartbeats 4000000 in
theorem ct_X6_readOperand {l : Launch} (hl : l.stackTraces = false) {t : gT} (hC : g_hC t) {o0 : Nat} {x1 : Int32} {x2 : Int32} (v0 : o0 < 1) {M : gM} {K : Int32 → gM → Prop} (h : wp_X6_readOperand o0 x1 x2 M K) : Met l yX6_readOperand (g_y yX6_readOperand cX6_readOperand 4 (some .int)) rm_X6_readOperand (va_Pc [.ref (gAd t 6 o0), .int x1, .int x2] (g_Pre t M)) (va_Qi K (g_B t) (g_A t)) rm_X6_readOperand.cells rm_X6_readOperand.slots (g_A t) := by
  refine g_met hl rfl (Nat.le_of_ble_eq_true rfl) (fun X hlX cx hQ => ?_)
  subst hlX
  refine gg_iload_n (pc := 0) cx 1 rfl dX6_readOperand_0 rfl ?_
  refine gg_callSi (pc := 1) cx cal_X6_isDigit tw_419 (ct_X6_isDigit cx.tr hC  h) tw_418 rfl (st := []) rfl (Nat.le_of_ble_eq_true rfl) ⟨Nat.le_of_ble_eq_true rfl, Nat.le_of_ble_eq_true rfl⟩ ⟨Nat.le_of_ble_eq_true rfl, Nat.le_of_ble_eq_true rfl⟩ dX6_readOperand_1 (fun r1 M1 h => ?_)
  refine gg_if_eq (pc := 4) cx (tgt := 30) dX6_readOperand_4 (by decide) (fun c4 => ?_) (fun c4 => ?_)
  · have h := g_it c4 h
    refine gg_iload_n (pc := 30) cx 1 rfl dX6_readOperand_30 rfl ?_
    refine gg_bipush (pc := 31) cx (v := 45) dX6_readOperand_31 (by decide) ?_
    refine gg_icmp_eq (pc := 33) cx (tgt := 42) dX6_readOperand_33 (by decide) (fun c33 => ?_) (fun c33 => ?_)
    · have h := g_it c33 h
      refine gg_lv (lv' := [(0, .ref (gAd t 6 o0)), (1, .int x1)]) [0, 1] rfl ?_
      exact wk_X6_readOperand_b42 cx hC hQ v0 h
    · have h := g_if c33 h
      refine gg_iload_n (pc := 36) cx 1 rfl dX6_readOperand_36 rfl ?_
      refine gg_bipush (pc := 37) cx (v := 40) dX6_readOperand_37 (by decide) ?_
      refine gg_icmp_ne (pc := 39) cx (tgt := 70) dX6_readOperand_39 (by decide) (fun c39 => ?_) (fun c39 => ?_)
      · have h := g_if c39 h
        refine gg_iload_n (pc := 70) cx 1 rfl dX6_readOperand_70 rfl ?_
        refine gg_bipush (pc := 71) cx (v := 77) dX6_readOperand_71 (by decide) ?_
        refine gg_icmp_eq (pc := 73) cx (tgt := 82) dX6_readOperand_73 (by decide) (fun c73 => ?_) (fun c73 => ?_)
        · have h := g_it c73 h
          refine gg_lv (lv' := [(0, .ref (gAd t 6 o0)), (1, .int x1)]) [0, 1] rfl ?_
          exact wk_X6_readOperand_b82 cx hC hQ v0 h
        · have h := g_if c73 h
          refine gg_iload_n (pc := 76) cx 1 rfl dX6_readOperand_76 rfl ?_
          refine gg_bipush (pc := 77) cx (v := 109) dX6_readOperand_77 (by decide) ?_
          refine gg_icmp_ne (pc := 79) cx (tgt := 120) dX6_readOperand_79 (by decide) (fun c79 => ?_) (fun c79 => ?_)
          · have h := g_if c79 h
            refine gg_ldcS (pc := 120) cx (g_st6 cx.T) dX6_readOperand_120 ?_
            refine gg_iload_n (pc := 122) cx 1 rfl dX6_readOperand_122 rfl ?_
            refine gg_call_S_indexOf (pc := 123) cx tw_442 (st := []) dX6_readOperand_123 (Nat.le_of_ble_eq_true rfl) ⟨Nat.le_of_ble_eq_true rfl, Nat.le_of_ble_eq_true rfl⟩ ⟨Nat.le_of_ble_eq_true rfl, Nat.le_of_ble_eq_true rfl⟩ h (fun r123 M123 h => ?_)
            refine gg_istore_n (pc := 126) cx [(3, .int r123), (0, .ref (gAd t 6 o0)), (1, .int x1), (2, .int x2)] dX6_readOperand_126 rfl (by decide) rfl ?_
            refine gg_iload_n (pc := 127) cx 0 rfl dX6_readOperand_127 rfl ?_
            refine gg_if_lt (pc := 128) cx (tgt := 141) dX6_readOperand_128 (by decide) (fun c128 => ?_) (fun c128 => ?_)
            · have h := g_it c128 h
              refine gg_iconst (pc := 141) cx (v := 3) dX6_readOperand_141 (by decide) ?_
              exact gg_iret (pc := 142) cx hQ h dX6_readOperand_142
            · have h := g_if c128 h
              refine gg_iload_n (pc := 131) cx 0 rfl dX6_readOperand_131 rfl ?_
              refine gg_bipush (pc := 132) cx (v := 9) dX6_readOperand_132 (by decide) ?_
              refine gg_icmp_ne (pc := 134) cx (tgt := 143) dX6_readOperand_134 (by decide) (fun c134 => ?_) (fun c134 => ?_)
              · have h := g_if c134 h
                refine gg_lv (lv' := [(0, .ref (gAd t 6 o0)), (3, .int r123)]) [1, 0] rfl ?_
                exact wk_X6_readOperand_b143 cx hC hQ v0 h
              · have h := g_it c134 h
                refine gg_iload_n (pc := 137) cx 3 rfl dX6_readOperand_137 rfl ?_
                refine gg_if_ne (pc := 138) cx (tgt := 143) dX6_readOperand_138 (by decide) (fun c138 => ?_) (fun c138 => ?_)
                · have h := g_if c138 h
                  refine gg_lv (lv' := [(0, .ref (gAd t 6 o0)), (3, .int r123)]) [1, 0] rfl ?_
                  exact wk_X6_readOperand_b143 cx hC hQ v0 h
                · have h := g_it c138 h
                  refine gg_iconst (pc := 141) cx (v := 3) dX6_readOperand_141 (by decide) ?_
                  exact gg_iret (pc := 142) cx hQ h dX6_readOperand_142
          · have h := g_it c79 h
            refine gg_lv (lv' := [(0, .ref (gAd t 6 o0)), (1, .int x1)]) [0, 1] rfl ?_
            exact wk_X6_readOperand_b82 cx hC hQ v0 h
      · have h := g_it c39 h
        refine gg_lv (lv' := [(0, .ref (gAd t 6 o0)), (1, .int x1)]) [0, 1] rfl ?_
        exact wk_X6_readOperand_b42 cx hC hQ v0 h
  · have h := g_if c4 h
    refine gg_aload_n (pc := 7) cx 0 rfl dX6_readOperand_7 rfl ?_
    refine gg_bipush (pc := 8) cx (v := 6) dX6_readOperand_8 (by decide) ?_
    refine gg_callVi (pc := 10) cx cal_X6_readNumber calv_X6_readNumber (ct_X6_readNumber cx.tr hC v0 h) tw_410 (hC 6 _ rfl v0) rfl rfl rfl (st := []) rfl (Nat.le_of_ble_eq_true rfl) ⟨Nat.le_of_ble_eq_true rfl, Nat.le_of_ble_eq_true rfl⟩ ⟨Nat.le_of_ble_eq_true rfl, Nat.le_of_ble_eq_true rfl⟩ dX6_readOperand_10 (fun r10 M10 h => ?_)
    refine gg_istore_n (pc := 13) cx [(3, .int r10), (0, .ref (gAd t 6 o0)), (1, .int x1), (2, .int x2)] dX6_readOperand_13 rfl (by decide) rfl ?_
    refine gg_iload_n (pc := 14) cx 0 rfl dX6_readOperand_14 rfl ?_
    refine gg_if_ge (pc := 15) cx (tgt := 20) dX6_readOperand_15 (by decide) (fun c15 => ?_) (fun c15 => ?_)
    · have h := g_it c15 h
      refine gg_aload_n (pc := 20) cx 1 rfl dX6_readOperand_20 rfl ?_
      refine gf_Reader_plan (pc := 21) cx (hC 6 _ rfl v0) tw_98 dX6_readOperand_21 ?_
      refine gg_iload_n (pc := 24) cx 0 rfl dX6_readOperand_24 rfl ?_
      refine gg_callVv (pc := 25) cx cal_X5_emit calv_X5_emit (ct_X5_emit cx.tr hC (Nat.le_of_ble_eq_true rfl) h) tw_433 (hC 5 _ rfl (Nat.le_of_ble_eq_true rfl)) rfl rfl rfl (st := []) rfl (Nat.le_of_ble_eq_true rfl) ⟨Nat.le_of_ble_eq_true rfl, Nat.le_of_ble_eq_true rfl⟩ ⟨Nat.le_of_ble_eq_true rfl, Nat.le_of_ble_eq_true rfl⟩ dX6_readOperand_25 (fun M25 h => ?_)
      refine gg_iconst (pc := 28) cx (v := 1) dX6_readOperand_28 (by decide) ?_
      exact gg_iret (pc := 29) cx hQ h dX6_readOperand_29
    · have h := g_if c15 h
      refine gg_iconst (pc := 18) cx (v := 3) dX6_readOperand_18 (by decide) ?_
      exact gg_iret (pc := 19) cx hQ h dX6_readOperand_19
theorem cal_X6_strengthOf : g_Cal yX6_strengthOf cX6_strengthOf 1 (some .int) 1 := ⟨tw_2, tw_507, by decide, by decide, by decide +kernel⟩
set_option maxRecDepth 100000 in
set_option maxHeartbeats 4000000 in
theorem ct_X6_strengthOf {l : Launch} (hl : l.stackTraces = false) {t : gT} (hC : g_hC t) {x0 : Int32}  {M : gM} {K : Int32 → gM → Prop} (h : wp_X6_strengthOf x0 M K) : Met l yX6_strengthOf (g_y yX6_strengthOf cX6_strengthOf 1 (some .int)) rm_X6_strengthOf (va_Pc [.int x0] (g_Pre t M)) (va_Qi K (g_B t) (g_A t)) rm_X6_strengthOf.cells rm_X6_strengthOf.slots (g_A t) := by
  refine g_met hl rfl (Nat.le_of_ble_eq_true rfl) (fun X hlX cx hQ => ?_)
  subst hlX
  refine gg_iload_n (pc := 0) cx 0 rfl dX6_strengthOf_0 rfl ?_
  refine gg_bipush (pc := 1) cx (v := 42) dX6_strengthOf_1 (by decide) ?_
  refine gg_icmp_eq (pc := 3) cx (tgt := 12) dX6_strengthOf_3 (by decide) (fun c3 => ?_) (fun c3 => ?_)
  · have h := g_it c3 h
    refine gg_iconst (pc := 12) cx (v := 2) dX6_strengthOf_12 (by decide) ?_
    exact gg_iret (pc := 13) cx hQ h dX6_strengthOf_13
  · have h := g_if c3 h
    refine gg_iload_n (pc := 6) cx 0 rfl dX6_strengthOf_6 rfl ?_
    refine gg_bipush (pc := 7) cx (v := 47) dX6_strengthOf_7 (by decide) ?_
    refine gg_icmp_ne (pc := 9) cx (tgt := 14) dX6_strengthOf_9 (by decide) (fun c9 => ?_) (fun c9 => ?_)
    · have h := g_if c9 h
      refine gg_iload_n (pc := 14) cx 0 rfl dX6_strengthOf_14 rfl ?_
      refine gg_bipush (pc := 15) cx (v := 43) dX6_strengthOf_15 (by decide) ?_
      refine gg_icmp_eq (pc := 17) cx (tgt := 26) dX6_strengthOf_17 (by decide) (fun c17 => ?_) (fun c17 => ?_)
      · have h := g_it c17 h
        refine gg_iconst (pc := 26) cx (v := 1) dX6_strengthOf_26 (by decide) ?_
        refine gg_goto (pc := 27) cx (tgt := 31) dX6_strengthOf_27 (by decide) ?_
        exact gg_iret (pc := 31) cx hQ h dX6_strengthOf_31
      · have h := g_if c17 h
        refine gg_iload_n (pc := 20) cx 0 rfl dX6_strengthOf_20 rfl ?_
        refine gg_bipush (pc := 21) cx (v := 45) dX6_strengthOf_21 (by decide) ?_
        refine gg_icmp_ne (pc := 23) cx (tgt := 30) dX6_strengthOf_23 (by decide) (fun c23 => ?_) (fun c23 => ?_)
        · have h := g_if c23 h
          refine gg_iconst (pc := 30) cx (v := 0) dX6_strengthOf_30 (by decide) ?_
          exact gg_iret (pc := 31) cx hQ h dX6_strengthOf_31
        · have h := g_it c23 h
          refine gg_iconst (pc := 26) cx (v := 1) dX6_strengthOf_26 (by decide) ?_
          refine gg_goto (pc := 27) cx (tgt := 31) dX6_strengthOf_27 (by decide) ?_
          exact gg_iret (pc := 31) cx hQ h dX6_strengthOf_31
    · have h := g_it c9 h
      refine gg_iconst (pc := 12) cx (v := 2) dX6_strengthOf_12 (by decide) ?_
      exact gg_iret (pc := 13) cx hQ h dX6_strengthOf_13
theorem cal_X6_topOpen : g_Cal yX6_topOpen cX6_topOpen 1 (some .char) 0 := ⟨tw_2, tw_515, by decide, by decide, by decide +kernel⟩
theorem calv_X6_topOpen : g_CalV yX6_topOpen := ⟨tw_514, ts_10⟩
set_option maxRecDepth 100000 in
set_option maxHeartbeats 4000000 in
theorem ct_X6_topOpen {l : Launch} (hl : l.stackTraces = false) {t : gT} (hC : g_hC t) {o0 : Nat} (v0 : o0 < 1) {M : gM} {K : Int32 → gM → Prop} (h : wp_X6_topOpen o0 M K) : Met l yX6_topOpen (g_y yX6_topOpen cX6_topOpen 1 (some .char)) rm_X6_topOpen (va_Pc [.ref (gAd t 6 o0)] (g_Pre t M)) (va_Qi K (g_B t) (g_A t)) rm_X6_topOpen.cells rm_X6_topOpen.slots (g_A t) := by
  refine g_met hl rfl (Nat.le_of_ble_eq_true rfl) (fun X hlX cx hQ => ?_)
  subst hlX
  refine gg_aload_n (pc := 0) cx 0 rfl dX6_topOpen_0 rfl ?_
  refine gf_Reader_openCount (pc := 1) cx (hC 6 _ rfl v0) tw_107 dX6_topOpen_1 ?_
  refine gg_if_le (pc := 4) cx (tgt := 33) dX6_topOpen_4 (by decide) (fun c4 => ?_) (fun c4 => ?_)
  · have h := g_it c4 h
    refine gg_iconst (pc := 33) cx (v := 0) dX6_topOpen_33 (by decide) ?_
    exact gg_zret (pc := 34) cx hQ rfl h dX6_topOpen_34
  · have h := g_if c4 h
    refine gg_aload_n (pc := 7) cx 0 rfl dX6_topOpen_7 rfl ?_
    refine gf_Reader_openCount (pc := 8) cx (hC 6 _ rfl v0) tw_107 dX6_topOpen_8 ?_
    refine gg_aload_n (pc := 11) cx 0 rfl dX6_topOpen_11 rfl ?_
    refine gf_Reader_open (pc := 12) cx (hC 6 _ rfl v0) tw_106 dX6_topOpen_12 ?_
    refine gg_alen (pc := 15) cx (ca := 2) (v := 120) (hC 42 _ rfl v0) rfl rfl rfl dX6_topOpen_15 ?_
    refine gg_icmp_gt (pc := 16) cx (tgt := 33) dX6_topOpen_16 (by decide) (fun c16 => ?_) (fun c16 => ?_)
    · have h := g_it c16 h
      refine gg_iconst (pc := 33) cx (v := 0) dX6_topOpen_33 (by decide) ?_
      exact gg_zret (pc := 34) cx hQ rfl h dX6_topOpen_34
    · have h := g_if c16 h
      refine gg_aload_n (pc := 19) cx 0 rfl dX6_topOpen_19 rfl ?_
      refine gf_Reader_open (pc := 20) cx (hC 6 _ rfl v0) tw_106 dX6_topOpen_20 ?_
      refine gg_aload_n (pc := 23) cx 0 rfl dX6_topOpen_23 rfl ?_
      refine gf_Reader_openCount (pc := 24) cx (hC 6 _ rfl v0) tw_107 dX6_topOpen_24 ?_
      refine gg_iconst (pc := 27) cx (v := 1) dX6_topOpen_27 (by decide) ?_
      refine gg_isub (pc := 28) cx dX6_topOpen_28 ?_
      have q29 := h.1
      have h := h.2
      refine gg_cald (pc := 29) cx (hC 42 _ rfl v0) rfl q29 dX6_topOpen_29 ?_
      refine gg_goto (pc := 30) cx (tgt := 34) dX6_topOpen_30 (by decide) ?_
      exact gg_zret (pc := 34) cx hQ h.1 h.2 dX6_topOpen_34
set_option maxRecDepth 100000 in
set_option maxHeartbeats 4000000 in
theorem wk_X6_closeOperators_L0 {t : gT} {X : gX} (cx : g_Cx t X cX6_closeOperators 2 RX6 (none)) (hC : g_hC t) {K : gM → Prop} (hQ : gXQ X = MQ (gXb X) (va_Qv K (g_B t) (g_A t)) (gXa X) (gXs X) rm_X6_closeOperators.cells rm_X6_closeOperators.slots (g_A t)) (f : Nat) : ∀ (o0 : Nat) (x1 : Int32) (M : gM), o0 < 1 → wp_X6_closeOperators_L0 K f o0 x1 M → G t rm_X6_closeOperators X 2 0 0 M [(0, .ref (gAd t 6 o0)), (1, .int x1)] [] 0 := by
  induction f with
  | zero => intro _ _ _ _ _; exact False.elim (by assumption)
  | succ f ih =>
    intro o0 x1 M v0 h
    refine gg_aload_n (pc := 0) cx 0 rfl dX6_closeOperators_0 rfl ?_
    refine gf_Reader_openCount (pc := 1) cx (hC 6 _ rfl v0) tw_107 dX6_closeOperators_1 ?_
    refine gg_if_le (pc := 4) cx (tgt := 43) dX6_closeOperators_4 (by decide) (fun c4 => ?_) (fun c4 => ?_)
    · have h := g_it c4 h
      exact gg_vret (pc := 43) cx hQ h dX6_closeOperators_43
    · have h := g_if c4 h
      refine gg_aload_n (pc := 7) cx 0 rfl dX6_closeOperators_7 rfl ?_
      refine gg_callVi (pc := 8) cx cal_X6_topOpen calv_X6_topOpen (ct_X6_topOpen cx.tr hC v0 h) tw_512 (hC 6 _ rfl v0) rfl rfl rfl (st := []) rfl (Nat.le_of_ble_eq_true rfl) ⟨Nat.le_of_ble_eq_true rfl, Nat.le_of_ble_eq_true rfl⟩ ⟨Nat.le_of_ble_eq_true rfl, Nat.le_of_ble_eq_true rfl⟩ dX6_closeOperators_8 (fun r8 M8 h => ?_)
      refine gg_callSi (pc := 11) cx cal_X6_strengthOf tw_506 (ct_X6_strengthOf cx.tr hC  h) tw_505 rfl (st := []) rfl (Nat.le_of_ble_eq_true rfl) ⟨Nat.le_of_ble_eq_true rfl, Nat.le_of_ble_eq_true rfl⟩ ⟨Nat.le_of_ble_eq_true rfl, Nat.le_of_ble_eq_true rfl⟩ dX6_closeOperators_11 (fun r11 M11 h => ?_)
      refine gg_iload_n (pc := 14) cx 1 rfl dX6_closeOperators_14 rfl ?_
      refine gg_icmp_lt (pc := 15) cx (tgt := 43) dX6_closeOperators_15 (by decide) (fun c15 => ?_) (fun c15 => ?_)
      · have h := g_it c15 h
        exact gg_vret (pc := 43) cx hQ h dX6_closeOperators_43
      · have h := g_if c15 h
        refine gg_aload_n (pc := 18) cx 0 rfl dX6_closeOperators_18 rfl ?_
        refine gf_Reader_plan (pc := 19) cx (hC 6 _ rfl v0) tw_98 dX6_closeOperators_19 ?_
        refine gg_aload_n (pc := 22) cx 0 rfl dX6_closeOperators_22 rfl ?_
        refine gg_callVi (pc := 23) cx cal_X6_topOpen calv_X6_topOpen (ct_X6_topOpen cx.tr hC v0 h) tw_512 (hC 6 _ rfl v0) rfl rfl rfl (st := [.ref (gAd t 5 5)]) rfl (Nat.le_of_ble_eq_true rfl) ⟨Nat.le_of_ble_eq_true rfl, Nat.le_of_ble_eq_true rfl⟩ ⟨Nat.le_of_ble_eq_true rfl, Nat.le_of_ble_eq_true rfl⟩ dX6_closeOperators_23 (fun r23 M23 h => ?_)
        refine gg_ineg (pc := 26) cx dX6_closeOperators_26 ?_
        refine gg_callVv (pc := 27) cx cal_X5_emit calv_X5_emit (ct_X5_emit cx.tr hC (Nat.le_of_ble_eq_true rfl) h) tw_433 (hC 5 _ rfl (Nat.le_of_ble_eq_true rfl)) rfl rfl rfl (st := []) rfl (Nat.le_of_ble_eq_true rfl) ⟨Nat.le_of_ble_eq_true rfl, Nat.le_of_ble_eq_true rfl⟩ ⟨Nat.le_of_ble_eq_true rfl, Nat.le_of_ble_eq_true rfl⟩ dX6_closeOperators_27 (fun M27 h => ?_)
        refine gg_aload_n (pc := 30) cx 0 rfl dX6_closeOperators_30 rfl ?_
        refine gg_dup (pc := 31) cx dX6_closeOperators_31 rfl ?_
        refine gf_Reader_openCount (pc := 32) cx (hC 6 _ rfl v0) tw_107 dX6_closeOperators_32 ?_
        refine gg_iconst (pc := 35) cx (v := 1) dX6_closeOperators_35 (by decide) ?_
        refine gg_isub (pc := 36) cx dX6_closeOperators_36 ?_
        refine gp_Reader_openCount (pc := 37) cx (hC 6 _ rfl v0) tw_107 dX6_closeOperators_37 ?_
        refine gg_mem (fun M37 eM37 => ?_)
        have h := h M37 eM37
        refine gg_goto (pc := 40) cx (tgt := 0) dX6_closeOperators_40 (by decide) ?_
        exact ih o0 x1 M37 v0 h
theorem cal_X6_closeOperators : g_Cal yX6_closeOperators cX6_closeOperators 2 (none) 1 := ⟨tw_2, tw_511, by decide, by decide, by decide +kernel⟩
theorem calv_X6_closeOperators : g_CalV yX6_closeOperators := ⟨tw_510, ts_9⟩
set_option maxRecDepth 100000 in
set_option maxHeartbeats 4000000 in
theorem ct_X6_closeOperators {l : Launch} (hl : l.stackTraces = false) {t : gT} (hC : g_hC t) {o0 : Nat} {x1 : Int32} (v0 : o0 < 1) {M : gM} {K : gM → Prop} (h : wp_X6_closeOperators o0 x1 M K) : Met l yX6_closeOperators (g_y yX6_closeOperators cX6_closeOperators 2 (none)) rm_X6_closeOperators (va_Pc [.ref (gAd t 6 o0), .int x1] (g_Pre t M)) (va_Qv K (g_B t) (g_A t)) rm_X6_closeOperators.cells rm_X6_closeOperators.slots (g_A t) := by
  refine g_met hl rfl (Nat.le_of_ble_eq_true rfl) (fun X hlX cx hQ => ?_)
  subst hlX
  obtain ⟨f0, h⟩ := h
  exact wk_X6_closeOperators_L0 cx hC hQ f0 o0 x1 M v0 h
set_option maxRecDepth 100000 in
set_option maxHeartbeats 4000000 in
theorem wk_X6_readOperator_b163 {t : gT} {X : gX} (cx : g_Cx t X cX6_readOperator 4 RX6 (some .int)) (hC : g_hC t) {K : Int32 → gM → Prop} (hQ : gXQ X = MQ (gXb X) (va_Qi K (g_B t) (g_A t)) (gXa X) (gXs X) rm_X6_readOperator.cells rm_X6_readOperator.slots (g_A t)) {o0 : Nat} {M : gM} (v0 : o0 < 1) (h : wp_X6_readOperator_b163 K o0 M) : G t rm_X6_readOperator X 4 0 0 M [(0, .ref (gAd t 6 o0))] [] 163 := by
  refine gg_aload_n (pc := 163) cx 0 rfl dX6_readOperator_163 rfl ?_
  refine gg_dup (pc := 164) cx dX6_readOperator_164 rfl ?_
  refine gf_Reader_pos (pc := 165) cx (hC 6 _ rfl v0) tw_102 dX6_readOperator_165 ?_
  refine gg_iconst (pc := 168) cx (v := 1) dX6_readOperator_168 (by decide) ?_
  refine gg_iadd (pc := 169) cx dX6_readOperator_169 ?_
  refine gp_Reader_pos (pc := 170) cx (hC 6 _ rfl v0) tw_102 dX6_readOperator_170 ?_
  refine gg_mem (fun M170 eM170 => ?_)
  have h := h M170 eM170
  refine gg_iconst (pc := 173) cx (v := 1) dX6_readOperator_173 (by decide) ?_
  exact gg_iret (pc := 174) cx hQ h dX6_readOperator_174
set_option maxRecDepth 100000 in
set_option maxHeartbeats 4000000 in
theorem wk_X6_readOperator_b160 {t : gT} {X : gX} (cx : g_Cx t X cX6_readOperator 4 RX6 (some .int)) (hC : g_hC t) {K : Int32 → gM → Prop} (hQ : gXQ X = MQ (gXb X) (va_Qi K (g_B t) (g_A t)) (gXa X) (gXs X) rm_X6_readOperator.cells rm_X6_readOperator.slots (g_A t)) {o0 : Nat} {os0 : Nat} {xs1 : Int32} {M : gM} (v0 : o0 < 1) (vs0 : os0 < 6) (h : wp_X6_readOperator_b160 K o0 os0 xs1 M) : G t rm_X6_readOperator X 4 0 0 M [(0, .ref (gAd t 6 o0))] [.int xs1, .ref (gAd t 5 os0)] 160 := by
  refine gg_callVv (pc := 160) cx cal_X5_emit calv_X5_emit (ct_X5_emit cx.tr hC vs0 h) tw_433 (hC 5 _ rfl vs0) rfl rfl rfl (st := []) rfl (Nat.le_of_ble_eq_true rfl) ⟨Nat.le_of_ble_eq_true rfl, Nat.le_of_ble_eq_true rfl⟩ ⟨Nat.le_of_ble_eq_true rfl, Nat.le_of_ble_eq_true rfl⟩ dX6_readOperator_160 (fun M160 h => ?_)
  exact wk_X6_readOperator_b163 cx hC hQ v0 h
set_option maxRecDepth 100000 in
set_option maxHeartbeats 4000000 in
theorem wk_X6_readOperator_b107 {t : gT} {X : gX} (cx : g_Cx t X cX6_readOperator 4 RX6 (some .int)) (hC : g_hC t) {K : Int32 → gM → Prop} (hQ : gXQ X = MQ (gXb X) (va_Qi K (g_B t) (g_A t)) (gXa X) (gXs X) rm_X6_readOperator.cells rm_X6_readOperator.slots (g_A t)) {o0 : Nat} {x1 : Int32} {x3 : Int32} {M : gM} (v0 : o0 < 1) (h : wp_X6_readOperator_b107 K o0 x1 x3 M) : G t rm_X6_readOperator X 4 0 0 M [(0, .ref (gAd t 6 o0)), (1, .int x1), (3, .int x3)] [] 107 := by
  refine gg_iload_n (pc := 107) cx 1 rfl dX6_readOperator_107 rfl ?_
  refine gg_bipush (pc := 108) cx (v := 41) dX6_readOperator_108 (by decide) ?_
  refine gg_icmp_ne (pc := 110) cx (tgt := 125) dX6_readOperator_110 (by decide) (fun c110 => ?_) (fun c110 => ?_)
  · have h := g_if c110 h
    refine gg_iconst (pc := 125) cx (v := 3) dX6_readOperator_125 (by decide) ?_
    exact gg_iret (pc := 126) cx hQ h dX6_readOperator_126
  · have h := g_it c110 h
    refine gg_iload_n (pc := 113) cx 2 rfl dX6_readOperator_113 rfl ?_
    refine gg_bipush (pc := 114) cx (v := 77) dX6_readOperator_114 (by decide) ?_
    refine gg_icmp_eq (pc := 116) cx (tgt := 125) dX6_readOperator_116 (by decide) (fun c116 => ?_) (fun c116 => ?_)
    · have h := g_it c116 h
      refine gg_iconst (pc := 125) cx (v := 3) dX6_readOperator_125 (by decide) ?_
      exact gg_iret (pc := 126) cx hQ h dX6_readOperator_126
    · have h := g_if c116 h
      refine gg_iload_n (pc := 119) cx 2 rfl dX6_readOperator_119 rfl ?_
      refine gg_bipush (pc := 120) cx (v := 109) dX6_readOperator_120 (by decide) ?_
      refine gg_icmp_ne (pc := 122) cx (tgt := 127) dX6_readOperator_122 (by decide) (fun c122 => ?_) (fun c122 => ?_)
      · have h := g_if c122 h
        refine gg_aload_n (pc := 127) cx 0 rfl dX6_readOperator_127 rfl ?_
        refine gg_dup (pc := 128) cx dX6_readOperator_128 rfl ?_
        refine gf_Reader_openCount (pc := 129) cx (hC 6 _ rfl v0) tw_107 dX6_readOperator_129 ?_
        refine gg_iconst (pc := 132) cx (v := 1) dX6_readOperator_132 (by decide) ?_
        refine gg_isub (pc := 133) cx dX6_readOperator_133 ?_
        refine gp_Reader_openCount (pc := 134) cx (hC 6 _ rfl v0) tw_107 dX6_readOperator_134 ?_
        refine gg_mem (fun M134 eM134 => ?_)
        have h := h M134 eM134
        refine gg_iload_n (pc := 137) cx 2 rfl dX6_readOperator_137 rfl ?_
        refine gg_bipush (pc := 138) cx (v := 40) dX6_readOperator_138 (by decide) ?_
        refine gg_icmp_eq (pc := 140) cx (tgt := 163) dX6_readOperator_140 (by decide) (fun c140 => ?_) (fun c140 => ?_)
        · have h := g_it c140 h
          refine gg_lv (lv' := [(0, .ref (gAd t 6 o0))]) [0] rfl ?_
          exact wk_X6_readOperator_b163 cx hC hQ v0 h
        · have h := g_if c140 h
          refine gg_aload_n (pc := 143) cx 0 rfl dX6_readOperator_143 rfl ?_
          refine gf_Reader_plan (pc := 144) cx (hC 6 _ rfl v0) tw_98 dX6_readOperator_144 ?_
          refine gg_iload_n (pc := 147) cx 2 rfl dX6_readOperator_147 rfl ?_
          refine gg_bipush (pc := 148) cx (v := 71) dX6_readOperator_148 (by decide) ?_
          refine gg_icmp_ne (pc := 150) cx (tgt := 158) dX6_readOperator_150 (by decide) (fun c150 => ?_) (fun c150 => ?_)
          · have h := g_if c150 h
            refine gg_bipush (pc := 158) cx (v := (-109)) dX6_readOperator_158 (by decide) ?_
            refine gg_lv (lv' := [(0, .ref (gAd t 6 o0))]) [0] rfl ?_
            exact wk_X6_readOperator_b160 cx hC hQ v0 (Nat.le_of_ble_eq_true rfl) h
          · have h := g_it c150 h
            refine gg_bipush (pc := 153) cx (v := (-77)) dX6_readOperator_153 (by decide) ?_
            refine gg_goto (pc := 155) cx (tgt := 160) dX6_readOperator_155 (by decide) ?_
            refine gg_lv (lv' := [(0, .ref (gAd t 6 o0))]) [0] rfl ?_
            exact wk_X6_readOperator_b160 cx hC hQ v0 (Nat.le_of_ble_eq_true rfl) h
      · have h := g_it c122 h
        refine gg_iconst (pc := 125) cx (v := 3) dX6_readOperator_125 (by decide) ?_
        exact gg_iret (pc := 126) cx hQ h dX6_readOperator_126
set_option maxRecDepth 100000 in
set_option maxHeartbeats 4000000 in
theorem wk_X6_readOperator_b92 {t : gT} {X : gX} (cx : g_Cx t X cX6_readOperator 4 RX6 (some .int)) (hC : g_hC t) {K : Int32 → gM → Prop} (hQ : gXQ X = MQ (gXb X) (va_Qi K (g_B t) (g_A t)) (gXa X) (gXs X) rm_X6_readOperator.cells rm_X6_readOperator.slots (g_A t)) {o0 : Nat} {os0 : Nat} {xs1 : Int32} {M : gM} (v0 : o0 < 1) (vs0 : os0 < 1) (h : wp_X6_readOperator_b92 K o0 os0 xs1 M) : G t rm_X6_readOperator X 4 0 0 M [(0, .ref (gAd t 6 o0))] [.int xs1, .ref (gAd t 6 os0)] 92 := by
  refine gg_callVv (pc := 92) cx cal_X6_pushOpen calv_X6_pushOpen (ct_X6_pushOpen cx.tr hC vs0 h) tw_437 (hC 6 _ rfl vs0) rfl rfl rfl (st := []) rfl (Nat.le_of_ble_eq_true rfl) ⟨Nat.le_of_ble_eq_true rfl, Nat.le_of_ble_eq_true rfl⟩ ⟨Nat.le_of_ble_eq_true rfl, Nat.le_of_ble_eq_true rfl⟩ dX6_readOperator_92 (fun M92 h => ?_)
  refine gg_aload_n (pc := 95) cx 0 rfl dX6_readOperator_95 rfl ?_
  refine gg_dup (pc := 96) cx dX6_readOperator_96 rfl ?_
  refine gf_Reader_pos (pc := 97) cx (hC 6 _ rfl v0) tw_102 dX6_readOperator_97 ?_
  refine gg_iconst (pc := 100) cx (v := 1) dX6_readOperator_100 (by decide) ?_
  refine gg_iadd (pc := 101) cx dX6_readOperator_101 ?_
  refine gp_Reader_pos (pc := 102) cx (hC 6 _ rfl v0) tw_102 dX6_readOperator_102 ?_
  refine gg_mem (fun M102 eM102 => ?_)
  have h := h M102 eM102
  refine gg_iconst (pc := 105) cx (v := 0) dX6_readOperator_105 (by decide) ?_
  exact gg_iret (pc := 106) cx hQ h dX6_readOperator_106
set_option maxRecDepth 100000 in
set_option maxHeartbeats 4000000 in
theorem wk_X6_readOperator_b68 {t : gT} {X : gX} (cx : g_Cx t X cX6_readOperator 4 RX6 (some .int)) (hC : g_hC t) {K : Int32 → gM → Prop} (hQ : gXQ X = MQ (gXb X) (va_Qi K (g_B t) (g_A t)) (gXa X) (gXs X) rm_X6_readOperator.cells rm_X6_readOperator.slots (g_A t)) {o0 : Nat} {x3 : Int32} {M : gM} (v0 : o0 < 1) (h : wp_X6_readOperator_b68 K o0 x3 M) : G t rm_X6_readOperator X 4 0 0 M [(0, .ref (gAd t 6 o0)), (3, .int x3)] [] 68 := by
  refine gg_aload_n (pc := 68) cx 0 rfl dX6_readOperator_68 rfl ?_
  refine gg_dup (pc := 69) cx dX6_readOperator_69 rfl ?_
  refine gf_Reader_openCount (pc := 70) cx (hC 6 _ rfl v0) tw_107 dX6_readOperator_70 ?_
  refine gg_iconst (pc := 73) cx (v := 1) dX6_readOperator_73 (by decide) ?_
  refine gg_isub (pc := 74) cx dX6_readOperator_74 ?_
  refine gp_Reader_openCount (pc := 75) cx (hC 6 _ rfl v0) tw_107 dX6_readOperator_75 ?_
  refine gg_mem (fun M75 eM75 => ?_)
  have h := h M75 eM75
  refine gg_aload_n (pc := 78) cx 0 rfl dX6_readOperator_78 rfl ?_
  refine gg_iload_n (pc := 79) cx 1 rfl dX6_readOperator_79 rfl ?_
  refine gg_bipush (pc := 80) cx (v := 77) dX6_readOperator_80 (by decide) ?_
  refine gg_icmp_ne (pc := 82) cx (tgt := 90) dX6_readOperator_82 (by decide) (fun c82 => ?_) (fun c82 => ?_)
  · have h := g_if c82 h
    refine gg_bipush (pc := 90) cx (v := 83) dX6_readOperator_90 (by decide) ?_
    refine gg_lv (lv' := [(0, .ref (gAd t 6 o0))]) [0] rfl ?_
    exact wk_X6_readOperator_b92 cx hC hQ v0 v0 h
  · have h := g_it c82 h
    refine gg_bipush (pc := 85) cx (v := 71) dX6_readOperator_85 (by decide) ?_
    refine gg_goto (pc := 87) cx (tgt := 92) dX6_readOperator_87 (by decide) ?_
    refine gg_lv (lv' := [(0, .ref (gAd t 6 o0))]) [0] rfl ?_
    exact wk_X6_readOperator_b92 cx hC hQ v0 v0 h
set_option maxRecDepth 100000 in
set_option maxHeartbeats 4000000 in
theorem wk_X6_readOperator_b15 {t : gT} {X : gX} (cx : g_Cx t X cX6_readOperator 4 RX6 (some .int)) (hC : g_hC t) {K : Int32 → gM → Prop} (hQ : gXQ X = MQ (gXb X) (va_Qi K (g_B t) (g_A t)) (gXa X) (gXs X) rm_X6_readOperator.cells rm_X6_readOperator.slots (g_A t)) {o0 : Nat} {x1 : Int32} {x2 : Int32} {os0 : Nat} {xs1 : Int32} {M : gM} (v0 : o0 < 1) (vs0 : os0 < 1) (h : wp_X6_readOperator_b15 K o0 x1 x2 os0 xs1 M) : G t rm_X6_readOperator X 4 0 0 M [(0, .ref (gAd t 6 o0)), (1, .int x1), (2, .int x2)] [.int xs1, .ref (gAd t 6 os0)] 15 := by
  refine gg_callVv (pc := 15) cx cal_X6_closeOperators calv_X6_closeOperators (ct_X6_closeOperators cx.tr hC vs0 h) tw_508 (hC 6 _ rfl vs0) rfl rfl rfl (st := []) rfl (Nat.le_of_ble_eq_true rfl) ⟨Nat.le_of_ble_eq_true rfl, Nat.le_of_ble_eq_true rfl⟩ ⟨Nat.le_of_ble_eq_true rfl, Nat.le_of_ble_eq_true rfl⟩ dX6_readOperator_15 (fun M15 h => ?_)
  refine gg_iload_n (pc := 18) cx 2 rfl dX6_readOperator_18 rfl ?_
  refine gg_if_le (pc := 19) cx (tgt := 39) dX6_readOperator_19 (by decide) (fun c19 => ?_) (fun c19 => ?_)
  · have h := g_it c19 h
    refine gg_aload_n (pc := 39) cx 0 rfl dX6_readOperator_39 rfl ?_
    refine gg_callVi (pc := 40) cx cal_X6_topOpen calv_X6_topOpen (ct_X6_topOpen cx.tr hC v0 h) tw_512 (hC 6 _ rfl v0) rfl rfl rfl (st := []) rfl (Nat.le_of_ble_eq_true rfl) ⟨Nat.le_of_ble_eq_true rfl, Nat.le_of_ble_eq_true rfl⟩ ⟨Nat.le_of_ble_eq_true rfl, Nat.le_of_ble_eq_true rfl⟩ dX6_readOperator_40 (fun r40 M40 h => ?_)
    refine gg_istore_n (pc := 43) cx [(3, .int r40), (0, .ref (gAd t 6 o0)), (1, .int x1), (2, .int x2)] dX6_readOperator_43 rfl (by decide) rfl ?_
    refine gg_iload_n (pc := 44) cx 0 rfl dX6_readOperator_44 rfl ?_
    refine gg_if_ne (pc := 45) cx (tgt := 50) dX6_readOperator_45 (by decide) (fun c45 => ?_) (fun c45 => ?_)
    · have h := g_if c45 h
      refine gg_iload_n (pc := 50) cx 2 rfl dX6_readOperator_50 rfl ?_
      refine gg_bipush (pc := 51) cx (v := 44) dX6_readOperator_51 (by decide) ?_
      refine gg_icmp_ne (pc := 53) cx (tgt := 107) dX6_readOperator_53 (by decide) (fun c53 => ?_) (fun c53 => ?_)
      · have h := g_if c53 h
        refine gg_lv (lv' := [(0, .ref (gAd t 6 o0)), (1, .int x1), (3, .int r40)]) [1, 2, 0] rfl ?_
        exact wk_X6_readOperator_b107 cx hC hQ v0 h
      · have h := g_it c53 h
        refine gg_iload_n (pc := 56) cx 0 rfl dX6_readOperator_56 rfl ?_
        refine gg_bipush (pc := 57) cx (v := 77) dX6_readOperator_57 (by decide) ?_
        refine gg_icmp_eq (pc := 59) cx (tgt := 68) dX6_readOperator_59 (by decide) (fun c59 => ?_) (fun c59 => ?_)
        · have h := g_it c59 h
          refine gg_lv (lv' := [(0, .ref (gAd t 6 o0)), (3, .int r40)]) [1, 0] rfl ?_
          exact wk_X6_readOperator_b68 cx hC hQ v0 h
        · have h := g_if c59 h
          refine gg_iload_n (pc := 62) cx 0 rfl dX6_readOperator_62 rfl ?_
          refine gg_bipush (pc := 63) cx (v := 109) dX6_readOperator_63 (by decide) ?_
          refine gg_icmp_ne (pc := 65) cx (tgt := 107) dX6_readOperator_65 (by decide) (fun c65 => ?_) (fun c65 => ?_)
          · have h := g_if c65 h
            refine gg_lv (lv' := [(0, .ref (gAd t 6 o0)), (1, .int x1), (3, .int r40)]) [1, 2, 0] rfl ?_
            exact wk_X6_readOperator_b107 cx hC hQ v0 h
          · have h := g_it c65 h
            refine gg_lv (lv' := [(0, .ref (gAd t 6 o0)), (3, .int r40)]) [1, 0] rfl ?_
            exact wk_X6_readOperator_b68 cx hC hQ v0 h
    · have h := g_it c45 h
      refine gg_iconst (pc := 48) cx (v := 2) dX6_readOperator_48 (by decide) ?_
      exact gg_iret (pc := 49) cx hQ h dX6_readOperator_49
  · have h := g_if c19 h
    refine gg_aload_n (pc := 22) cx 0 rfl dX6_readOperator_22 rfl ?_
    refine gg_iload_n (pc := 23) cx 1 rfl dX6_readOperator_23 rfl ?_
    refine gg_callVv (pc := 24) cx cal_X6_pushOpen calv_X6_pushOpen (ct_X6_pushOpen cx.tr hC v0 h) tw_437 (hC 6 _ rfl v0) rfl rfl rfl (st := []) rfl (Nat.le_of_ble_eq_true rfl) ⟨Nat.le_of_ble_eq_true rfl, Nat.le_of_ble_eq_true rfl⟩ ⟨Nat.le_of_ble_eq_true rfl, Nat.le_of_ble_eq_true rfl⟩ dX6_readOperator_24 (fun M24 h => ?_)
    refine gg_aload_n (pc := 27) cx 0 rfl dX6_readOperator_27 rfl ?_
    refine gg_dup (pc := 28) cx dX6_readOperator_28 rfl ?_
    refine gf_Reader_pos (pc := 29) cx (hC 6 _ rfl v0) tw_102 dX6_readOperator_29 ?_
    refine gg_iconst (pc := 32) cx (v := 1) dX6_readOperator_32 (by decide) ?_
    refine gg_iadd (pc := 33) cx dX6_readOperator_33 ?_
    refine gp_Reader_pos (pc := 34) cx (hC 6 _ rfl v0) tw_102 dX6_readOperator_34 ?_
    refine gg_mem (fun M34 eM34 => ?_)
    have h := h M34 eM34
    refine gg_iconst (pc := 37) cx (v := 0) dX6_readOperator_37 (by decide) ?_
    exact gg_iret (pc := 38) cx hQ h dX6_readOperator_38
theorem cal_X6_readOperator : g_Cal yX6_readOperator cX6_readOperator 4 (some .int) 1 := ⟨tw_2, tw_504, by decide, by decide, by decide +kernel⟩
theorem calv_X6_readOperator : g_CalV yX6_readOperator := ⟨tw_503, ts_8⟩
set_option maxRecDepth 100000 in
set_option maxHeartbeats 4000000 in
theorem ct_X6_readOperator {l : Launch} (hl : l.stackTraces = false) {t : gT} (hC : g_hC t) {o0 : Nat} {x1 : Int32} (v0 : o0 < 1) {M : gM} {K : Int32 → gM → Prop} (h : wp_X6_readOperator o0 x1 M K) : Met l yX6_readOperator (g_y yX6_readOperator cX6_readOperator 4 (some .int)) rm_X6_readOperator (va_Pc [.ref (gAd t 6 o0), .int x1] (g_Pre t M)) (va_Qi K (g_B t) (g_A t)) rm_X6_readOperator.cells rm_X6_readOperator.slots (g_A t) := by
  refine g_met hl rfl (Nat.le_of_ble_eq_true rfl) (fun X hlX cx hQ => ?_)
  subst hlX
  refine gg_iload_n (pc := 0) cx 1 rfl dX6_readOperator_0 rfl ?_
  refine gg_callSi (pc := 1) cx cal_X6_strengthOf tw_506 (ct_X6_strengthOf cx.tr hC  h) tw_505 rfl (st := []) rfl (Nat.le_of_ble_eq_true rfl) ⟨Nat.le_of_ble_eq_true rfl, Nat.le_of_ble_eq_true rfl⟩ ⟨Nat.le_of_ble_eq_true rfl, Nat.le_of_ble_eq_true rfl⟩ dX6_readOperator_1 (fun r1 M1 h => ?_)
  refine gg_istore_n (pc := 4) cx [(2, .int r1), (0, .ref (gAd t 6 o0)), (1, .int x1)] dX6_readOperator_4 rfl (by decide) rfl ?_
  refine gg_aload_n (pc := 5) cx 1 rfl dX6_readOperator_5 rfl ?_
  refine gg_iload_n (pc := 6) cx 0 rfl dX6_readOperator_6 rfl ?_
  refine gg_if_ne (pc := 7) cx (tgt := 14) dX6_readOperator_7 (by decide) (fun c7 => ?_) (fun c7 => ?_)
  · have h := g_if c7 h
    refine gg_iload_n (pc := 14) cx 0 rfl dX6_readOperator_14 rfl ?_
    refine gg_lv (lv' := [(0, .ref (gAd t 6 o0)), (1, .int x1), (2, .int r1)]) [1, 2, 0] rfl ?_
    exact wk_X6_readOperator_b15 cx hC hQ v0 v0 h
  · have h := g_it c7 h
    refine gg_iconst (pc := 10) cx (v := 1) dX6_readOperator_10 (by decide) ?_
    refine gg_goto (pc := 11) cx (tgt := 15) dX6_readOperator_11 (by decide) ?_
    refine gg_lv (lv' := [(0, .ref (gAd t 6 o0)), (1, .int x1), (2, .int r1)]) [1, 2, 0] rfl ?_
    exact wk_X6_readOperator_b15 cx hC hQ v0 v0 h
set_option maxRecDepth 100000 in
set_option maxHeartbeats 4000000 in
theorem wk_X6_closeNegations_L0 {t : gT} {X : gX} (cx : g_Cx t X cX6_closeNegations 1 RX6 (none)) (hC : g_hC t) {K : gM → Prop} (hQ : gXQ X = MQ (gXb X) (va_Qv K (g_B t) (g_A t)) (gXa X) (gXs X) rm_X6_closeNegations.cells rm_X6_closeNegations.slots (g_A t)) (f : Nat) : ∀ (o0 : Nat) (M : gM), o0 < 1 → wp_X6_closeNegations_L0 K f o0 M → G t rm_X6_closeNegations X 1 0 0 M [(0, .ref (gAd t 6 o0))] [] 0 := by
  induction f with
  | zero => intro _ _ _ _; exact False.elim (by assumption)
  | succ f ih =>
    intro o0 M v0 h
    refine gg_aload_n (pc := 0) cx 0 rfl dX6_closeNegations_0 rfl ?_
    refine gf_Reader_openCount (pc := 1) cx (hC 6 _ rfl v0) tw_107 dX6_closeNegations_1 ?_
    refine gg_if_le (pc := 4) cx (tgt := 38) dX6_closeNegations_4 (by decide) (fun c4 => ?_) (fun c4 => ?_)
    · have h := g_it c4 h
      exact gg_vret (pc := 38) cx hQ h dX6_closeNegations_38
    · have h := g_if c4 h
      refine gg_aload_n (pc := 7) cx 0 rfl dX6_closeNegations_7 rfl ?_
      refine gg_callVi (pc := 8) cx cal_X6_topOpen calv_X6_topOpen (ct_X6_topOpen cx.tr hC v0 h) tw_512 (hC 6 _ rfl v0) rfl rfl rfl (st := []) rfl (Nat.le_of_ble_eq_true rfl) ⟨Nat.le_of_ble_eq_true rfl, Nat.le_of_ble_eq_true rfl⟩ ⟨Nat.le_of_ble_eq_true rfl, Nat.le_of_ble_eq_true rfl⟩ dX6_closeNegations_8 (fun r8 M8 h => ?_)
      refine gg_bipush (pc := 11) cx (v := 126) dX6_closeNegations_11 (by decide) ?_
      refine gg_icmp_ne (pc := 13) cx (tgt := 38) dX6_closeNegations_13 (by decide) (fun c13 => ?_) (fun c13 => ?_)
      · have h := g_if c13 h
        exact gg_vret (pc := 38) cx hQ h dX6_closeNegations_38
      · have h := g_it c13 h
        refine gg_aload_n (pc := 16) cx 0 rfl dX6_closeNegations_16 rfl ?_
        refine gf_Reader_plan (pc := 17) cx (hC 6 _ rfl v0) tw_98 dX6_closeNegations_17 ?_
        refine gg_bipush (pc := 20) cx (v := (-126)) dX6_closeNegations_20 (by decide) ?_
        refine gg_callVv (pc := 22) cx cal_X5_emit calv_X5_emit (ct_X5_emit cx.tr hC (Nat.le_of_ble_eq_true rfl) h) tw_433 (hC 5 _ rfl (Nat.le_of_ble_eq_true rfl)) rfl rfl rfl (st := []) rfl (Nat.le_of_ble_eq_true rfl) ⟨Nat.le_of_ble_eq_true rfl, Nat.le_of_ble_eq_true rfl⟩ ⟨Nat.le_of_ble_eq_true rfl, Nat.le_of_ble_eq_true rfl⟩ dX6_closeNegations_22 (fun M22 h => ?_)
        refine gg_aload_n (pc := 25) cx 0 rfl dX6_closeNegations_25 rfl ?_
        refine gg_dup (pc := 26) cx dX6_closeNegations_26 rfl ?_
        refine gf_Reader_openCount (pc := 27) cx (hC 6 _ rfl v0) tw_107 dX6_closeNegations_27 ?_
        refine gg_iconst (pc := 30) cx (v := 1) dX6_closeNegations_30 (by decide) ?_
        refine gg_isub (pc := 31) cx dX6_closeNegations_31 ?_
        refine gp_Reader_openCount (pc := 32) cx (hC 6 _ rfl v0) tw_107 dX6_closeNegations_32 ?_
        refine gg_mem (fun M32 eM32 => ?_)
        have h := h M32 eM32
        refine gg_goto (pc := 35) cx (tgt := 0) dX6_closeNegations_35 (by decide) ?_
        exact ih o0 M32 v0 h
theorem cal_X6_closeNegations : g_Cal yX6_closeNegations cX6_closeNegations 1 (none) 0 := ⟨tw_2, tw_519, by decide, by decide, by decide +kernel⟩
theorem calv_X6_closeNegations : g_CalV yX6_closeNegations := ⟨tw_518, ts_11⟩
set_option maxRecDepth 100000 in
set_option maxHeartbeats 4000000 in
theorem ct_X6_closeNegations {l : Launch} (hl : l.stackTraces = false) {t : gT} (hC : g_hC t) {o0 : Nat} (v0 : o0 < 1) {M : gM} {K : gM → Prop} (h : wp_X6_closeNegations o0 M K) : Met l yX6_closeNegations (g_y yX6_closeNegations cX6_closeNegations 1 (none)) rm_X6_closeNegations (va_Pc [.ref (gAd t 6 o0)] (g_Pre t M)) (va_Qv K (g_B t) (g_A t)) rm_X6_closeNegations.cells rm_X6_closeNegations.slots (g_A t) := by
  refine g_met hl rfl (Nat.le_of_ble_eq_true rfl) (fun X hlX cx hQ => ?_)
  subst hlX
  obtain ⟨f0, h⟩ := h
  exact wk_X6_closeNegations_L0 cx hC hQ f0 o0 M v0 h
set_option maxRecDepth 100000 in
set_option maxHeartbeats 4000000 in
theorem wk_X6_readExpression_b66 {t : gT} {X : gX} (cx : g_Cx t X cX6_readExpression 4 RX6 (some .boolean)) (hC : g_hC t) {K : Int32 → gM → Prop} (hQ : gXQ X = MQ (gXb X) (va_Qi K (g_B t) (g_A t)) (gXa X) (gXs X) rm_X6_readExpression.cells rm_X6_readExpression.slots (g_A t)) {x2 : Int32} {M : gM}  (h : wp_X6_readExpression_b66 K x2 M) : G t rm_X6_readExpression X 4 0 0 M [(2, .int x2)] [] 66 := by
  refine gg_iload_n (pc := 66) cx 0 rfl dX6_readExpression_66 rfl ?_
  refine gg_iconst (pc := 67) cx (v := 2) dX6_readExpression_67 (by decide) ?_
  refine gg_icmp_ne (pc := 68) cx (tgt := 75) dX6_readExpression_68 (by decide) (fun c68 => ?_) (fun c68 => ?_)
  · have h := g_if c68 h
    refine gg_iconst (pc := 75) cx (v := 0) dX6_readExpression_75 (by decide) ?_
    exact gg_zret (pc := 76) cx hQ rfl h dX6_readExpression_76
  · have h := g_it c68 h
    refine gg_iconst (pc := 71) cx (v := 1) dX6_readExpression_71 (by decide) ?_
    refine gg_goto (pc := 72) cx (tgt := 76) dX6_readExpression_72 (by decide) ?_
    exact gg_zret (pc := 76) cx hQ rfl h dX6_readExpression_76
set_option maxRecDepth 100000 in
set_option maxHeartbeats 4000000 in
theorem wk_X6_readExpression_b51 {t : gT} {X : gX} (cx : g_Cx t X cX6_readExpression 4 RX6 (some .boolean)) (hC : g_hC t) {K : Int32 → gM → Prop} (hQ : gXQ X = MQ (gXb X) (va_Qi K (g_B t) (g_A t)) (gXa X) (gXs X) rm_X6_readExpression.cells rm_X6_readExpression.slots (g_A t)) {R9 : Nat → Int32 → Int32 → Int32 → gM → Prop} (hR9 : ∀ (o0 : Nat) (x1 : Int32) (x2 : Int32) (x3 : Int32) (M : gM), o0 < 1 → R9 o0 x1 x2 x3 M → G t rm_X6_readExpression X 4 0 0 M [(0, .ref (gAd t 6 o0)), (1, .int x1), (2, .int x2), (3, .int x3)] [] 9) {o0 : Nat} {x1 : Int32} {x2 : Int32} {x3 : Int32} {M : gM} (v0 : o0 < 1) (h : wp_X6_readExpression_b51 R9 K o0 x1 x2 x3 M) : G t rm_X6_readExpression X 4 0 0 M [(0, .ref (gAd t 6 o0)), (1, .int x1), (2, .int x2), (3, .int x3)] [] 51 := by
  refine gg_iload_n (pc := 51) cx 2 rfl dX6_readExpression_51 rfl ?_
  refine gg_iconst (pc := 52) cx (v := 1) dX6_readExpression_52 (by decide) ?_
  refine gg_icmp_ne (pc := 53) cx (tgt := 60) dX6_readExpression_53 (by decide) (fun c53 => ?_) (fun c53 => ?_)
  · have h := g_if c53 h
    obtain ⟨n60, en60⟩ : ∃ z : Int32, z = x3 + Int32.ofInt (1) := ⟨_, rfl⟩
    have h := h n60 en60
    refine gg_iinc (pc := 60) cx 3 [(3, .int n60), (0, .ref (gAd t 6 o0)), (1, .int x1), (2, .int x2)] dX6_readExpression_60 rfl en60.symm (by decide) rfl ?_
    refine gg_goto (pc := 63) cx (tgt := 9) dX6_readExpression_63 (by decide) ?_
    refine gg_lv (lv' := [(0, .ref (gAd t 6 o0)), (1, .int x1), (2, .int x2), (3, .int n60)]) [1, 2, 3, 0] rfl ?_
    exact hR9 o0 x1 x2 n60 M v0 h
  · have h := g_it c53 h
    refine gg_aload_n (pc := 56) cx 0 rfl dX6_readExpression_56 rfl ?_
    refine gg_callVv (pc := 57) cx cal_X6_closeNegations calv_X6_closeNegations (ct_X6_closeNegations cx.tr hC v0 h) tw_516 (hC 6 _ rfl v0) rfl rfl rfl (st := []) rfl (Nat.le_of_ble_eq_true rfl) ⟨Nat.le_of_ble_eq_true rfl, Nat.le_of_ble_eq_true rfl⟩ ⟨Nat.le_of_ble_eq_true rfl, Nat.le_of_ble_eq_true rfl⟩ dX6_readExpression_57 (fun M57 h => ?_)
    obtain ⟨n60, en60⟩ : ∃ z : Int32, z = x3 + Int32.ofInt (1) := ⟨_, rfl⟩
    have h := h n60 en60
    refine gg_iinc (pc := 60) cx 3 [(3, .int n60), (0, .ref (gAd t 6 o0)), (1, .int x1), (2, .int x2)] dX6_readExpression_60 rfl en60.symm (by decide) rfl ?_
    refine gg_goto (pc := 63) cx (tgt := 9) dX6_readExpression_63 (by decide) ?_
    refine gg_lv (lv' := [(0, .ref (gAd t 6 o0)), (1, .int x1), (2, .int x2), (3, .int n60)]) [1, 2, 3, 0] rfl ?_
    exact hR9 o0 x1 x2 n60 M57 v0 h
set_option maxRecDepth 100000 in
set_option maxHeartbeats 4000000 in
theorem wk_X6_readExpression_L9 {t : gT} {X : gX} (cx : g_Cx t X cX6_readExpression 4 RX6 (some .boolean)) (hC : g_hC t) {K : Int32 → gM → Prop} (hQ : gXQ X = MQ (gXb X) (va_Qi K (g_B t) (g_A t)) (gXa X) (gXs X) rm_X6_readExpression.cells rm_X6_readExpression.slots (g_A t)) (f : Nat) : ∀ (o0 : Nat) (x1 : Int32) (x2 : Int32) (x3 : Int32) (M : gM), o0 < 1 → wp_X6_readExpression_L9 K f o0 x1 x2 x3 M → G t rm_X6_readExpression X 4 0 0 M [(0, .ref (gAd t 6 o0)), (1, .int x1), (2, .int x2), (3, .int x3)] [] 9 := by
  induction f with
  | zero => intro _ _ _ _ _ _ _; exact False.elim (by assumption)
  | succ f ih =>
    intro o0 x1 x2 x3 M v0 h
    refine gg_iload_n (pc := 9) cx 3 rfl dX6_readExpression_9 rfl ?_
    refine gg_bipush (pc := 10) cx (v := 120) dX6_readExpression_10 (by decide) ?_
    refine gg_icmp_gt (pc := 12) cx (tgt := 66) dX6_readExpression_12 (by decide) (fun c12 => ?_) (fun c12 => ?_)
    · have h := g_it c12 h
      refine gg_lv (lv' := [(2, .int x2)]) [2] rfl ?_
      exact wk_X6_readExpression_b66 cx hC hQ  h
    · have h := g_if c12 h
      refine gg_iload_n (pc := 15) cx 2 rfl dX6_readExpression_15 rfl ?_
      refine gg_iconst (pc := 16) cx (v := 2) dX6_readExpression_16 (by decide) ?_
      refine gg_icmp_eq (pc := 17) cx (tgt := 66) dX6_readExpression_17 (by decide) (fun c17 => ?_) (fun c17 => ?_)
      · have h := g_it c17 h
        refine gg_lv (lv' := [(2, .int x2)]) [2] rfl ?_
        exact wk_X6_readExpression_b66 cx hC hQ  h
      · have h := g_if c17 h
        refine gg_iload_n (pc := 20) cx 2 rfl dX6_readExpression_20 rfl ?_
        refine gg_iconst (pc := 21) cx (v := 3) dX6_readExpression_21 (by decide) ?_
        refine gg_icmp_eq (pc := 22) cx (tgt := 66) dX6_readExpression_22 (by decide) (fun c22 => ?_) (fun c22 => ?_)
        · have h := g_it c22 h
          refine gg_lv (lv' := [(2, .int x2)]) [2] rfl ?_
          exact wk_X6_readExpression_b66 cx hC hQ  h
        · have h := g_if c22 h
          refine gg_iload_n (pc := 25) cx 2 rfl dX6_readExpression_25 rfl ?_
          refine gg_if_ne (pc := 26) cx (tgt := 42) dX6_readExpression_26 (by decide) (fun c26 => ?_) (fun c26 => ?_)
          · have h := g_if c26 h
            refine gg_aload_n (pc := 42) cx 0 rfl dX6_readExpression_42 rfl ?_
            refine gg_aload_n (pc := 43) cx 0 rfl dX6_readExpression_43 rfl ?_
            refine gg_callVi (pc := 44) cx cal_X6_sign calv_X6_sign (ct_X6_sign cx.tr hC v0 h) tw_414 (hC 6 _ rfl v0) rfl rfl rfl (st := [.ref (gAd t 6 o0)]) rfl (Nat.le_of_ble_eq_true rfl) ⟨Nat.le_of_ble_eq_true rfl, Nat.le_of_ble_eq_true rfl⟩ ⟨Nat.le_of_ble_eq_true rfl, Nat.le_of_ble_eq_true rfl⟩ dX6_readExpression_44 (fun r44 M44 h => ?_)
            refine gg_callVi (pc := 47) cx cal_X6_readOperator calv_X6_readOperator (ct_X6_readOperator cx.tr hC v0 h) tw_501 (hC 6 _ rfl v0) rfl rfl rfl (st := []) rfl (Nat.le_of_ble_eq_true rfl) ⟨Nat.le_of_ble_eq_true rfl, Nat.le_of_ble_eq_true rfl⟩ ⟨Nat.le_of_ble_eq_true rfl, Nat.le_of_ble_eq_true rfl⟩ dX6_readExpression_47 (fun r47 M47 h => ?_)
            refine gg_istore_n (pc := 50) cx [(2, .int r47), (0, .ref (gAd t 6 o0)), (1, .int x1), (3, .int x3)] dX6_readExpression_50 rfl (by decide) rfl ?_
            refine gg_lv (lv' := [(0, .ref (gAd t 6 o0)), (1, .int x1), (2, .int r47), (3, .int x3)]) [1, 2, 0, 3] rfl ?_
            exact wk_X6_readExpression_b51 cx hC hQ ih v0 h
          · have h := g_it c26 h
            refine gg_aload_n (pc := 29) cx 0 rfl dX6_readExpression_29 rfl ?_
            refine gg_aload_n (pc := 30) cx 0 rfl dX6_readExpression_30 rfl ?_
            refine gg_callVi (pc := 31) cx cal_X6_sign calv_X6_sign (ct_X6_sign cx.tr hC v0 h) tw_414 (hC 6 _ rfl v0) rfl rfl rfl (st := [.ref (gAd t 6 o0)]) rfl (Nat.le_of_ble_eq_true rfl) ⟨Nat.le_of_ble_eq_true rfl, Nat.le_of_ble_eq_true rfl⟩ ⟨Nat.le_of_ble_eq_true rfl, Nat.le_of_ble_eq_true rfl⟩ dX6_readExpression_31 (fun r31 M31 h => ?_)
            refine gg_iload_n (pc := 34) cx 1 rfl dX6_readExpression_34 rfl ?_
            refine gg_callVi (pc := 35) cx cal_X6_readOperand calv_X6_readOperand (ct_X6_readOperand cx.tr hC v0 h) tw_429 (hC 6 _ rfl v0) rfl rfl rfl (st := []) rfl (Nat.le_of_ble_eq_true rfl) ⟨Nat.le_of_ble_eq_true rfl, Nat.le_of_ble_eq_true rfl⟩ ⟨Nat.le_of_ble_eq_true rfl, Nat.le_of_ble_eq_true rfl⟩ dX6_readExpression_35 (fun r35 M35 h => ?_)
            refine gg_istore_n (pc := 38) cx [(2, .int r35), (0, .ref (gAd t 6 o0)), (1, .int x1), (3, .int x3)] dX6_readExpression_38 rfl (by decide) rfl ?_
            refine gg_goto (pc := 39) cx (tgt := 51) dX6_readExpression_39 (by decide) ?_
            refine gg_lv (lv' := [(0, .ref (gAd t 6 o0)), (1, .int x1), (2, .int r35), (3, .int x3)]) [1, 2, 0, 3] rfl ?_
            exact wk_X6_readExpression_b51 cx hC hQ ih v0 h
theorem cal_X6_readExpression : g_Cal yX6_readExpression cX6_readExpression 4 (some .boolean) 1 := ⟨tw_2, tw_428, by decide, by decide, by decide +kernel⟩
theorem calv_X6_readExpression : g_CalV yX6_readExpression := ⟨tw_427, ts_5⟩
set_option maxRecDepth 100000 in
set_option maxHeartbeats 4000000 in
theorem ct_X6_readExpression {l : Launch} (hl : l.stackTraces = false) {t : gT} (hC : g_hC t) {o0 : Nat} {x1 : Int32} (v0 : o0 < 1) {M : gM} {K : Int32 → gM → Prop} (h : wp_X6_readExpression o0 x1 M K) : Met l yX6_readExpression (g_y yX6_readExpression cX6_readExpression 4 (some .boolean)) rm_X6_readExpression (va_Pc [.ref (gAd t 6 o0), .int x1] (g_Pre t M)) (va_Qi K (g_B t) (g_A t)) rm_X6_readExpression.cells rm_X6_readExpression.slots (g_A t) := by
  refine g_met hl rfl (Nat.le_of_ble_eq_true rfl) (fun X hlX cx hQ => ?_)
  subst hlX
  refine gg_aload_n (pc := 0) cx 0 rfl dX6_readExpression_0 rfl ?_
  refine gg_iconst (pc := 1) cx (v := 0) dX6_readExpression_1 (by decide) ?_
  refine gp_Reader_openCount (pc := 2) cx (hC 6 _ rfl v0) tw_107 dX6_readExpression_2 ?_
  refine gg_mem (fun M2 eM2 => ?_)
  have h := h M2 eM2
  refine gg_iconst (pc := 5) cx (v := 0) dX6_readExpression_5 (by decide) ?_
  refine gg_istore_n (pc := 6) cx [(2, .int 0), (0, .ref (gAd t 6 o0)), (1, .int x1)] dX6_readExpression_6 rfl (by decide) rfl ?_
  refine gg_iconst (pc := 7) cx (v := 0) dX6_readExpression_7 (by decide) ?_
  refine gg_istore_n (pc := 8) cx [(3, .int 0), (2, .int 0), (0, .ref (gAd t 6 o0)), (1, .int x1)] dX6_readExpression_8 rfl (by decide) rfl ?_
  refine gg_lv (lv' := [(0, .ref (gAd t 6 o0)), (1, .int x1), (2, .int 0), (3, .int 0)]) [2, 3, 1, 0] rfl ?_
  obtain ⟨f9, h⟩ := h
  exact wk_X6_readExpression_L9 cx hC hQ f9 o0 x1 0 0 M2 v0 h
set_option maxRecDepth 100000 in
set_option maxHeartbeats 4000000 in
theorem wk_X6_readProgram_b79 {t : gT} {X : gX} (cx : g_Cx t X cX6_readProgram 2 RX6 (some .boolean)) (hC : g_hC t) {K : Int32 → gM → Prop} (hQ : gXQ X = MQ (gXb X) (va_Qi K (g_B t) (g_A t)) (gXa X) (gXs X) rm_X6_readProgram.cells rm_X6_readProgram.slots (g_A t)) {o0 : Nat} {x1 : Int32} {M : gM} (v0 : o0 < 1) (h : wp_X6_readProgram_b79 K o0 x1 M) : G t rm_X6_readProgram X 2 0 0 M [(0, .ref (gAd t 6 o0)), (1, .int x1)] [] 79 := by
  refine gg_aload_n (pc := 79) cx 0 rfl dX6_readProgram_79 rfl ?_
  refine gf_Reader_plan (pc := 80) cx (hC 6 _ rfl v0) tw_98 dX6_readProgram_80 ?_
  refine gf_Plan_programEnd (pc := 83) cx (hC 5 _ rfl (Nat.le_of_ble_eq_true rfl)) tw_67 dX6_readProgram_83 ?_
  refine gg_iload_n (pc := 86) cx 1 rfl dX6_readProgram_86 rfl ?_
  refine gg_aload_n (pc := 87) cx 0 rfl dX6_readProgram_87 rfl ?_
  refine gf_Reader_plan (pc := 88) cx (hC 6 _ rfl v0) tw_98 dX6_readProgram_88 ?_
  refine gf_Plan_codeLength (pc := 91) cx (hC 5 _ rfl (Nat.le_of_ble_eq_true rfl)) tw_72 dX6_readProgram_91 ?_
  have q94 := h.1
  have h := h.2
  refine gg_iast (pc := 94) cx (hC 39 _ rfl (Nat.le_of_ble_eq_true rfl)) (fun _ _ => rfl) q94 dX6_readProgram_94 ?_
  refine gg_mem (fun M94 eM94 => ?_)
  have h := h M94 eM94
  refine gg_iconst (pc := 95) cx (v := 1) dX6_readProgram_95 (by decide) ?_
  exact gg_zret (pc := 96) cx hQ rfl h dX6_readProgram_96
theorem cal_X6_readProgram : g_Cal yX6_readProgram cX6_readProgram 2 (some .boolean) 1 := ⟨tw_2, tw_424, by decide, by decide, by decide +kernel⟩
theorem calv_X6_readProgram : g_CalV yX6_readProgram := ⟨tw_423, ts_4⟩
set_option maxRecDepth 100000 in
set_option maxHeartbeats 4000000 in
theorem ct_X6_readProgram {l : Launch} (hl : l.stackTraces = false) {t : gT} (hC : g_hC t) {o0 : Nat} {x1 : Int32} (v0 : o0 < 1) {M : gM} {K : Int32 → gM → Prop} (h : wp_X6_readProgram o0 x1 M K) : Met l yX6_readProgram (g_y yX6_readProgram cX6_readProgram 2 (some .boolean)) rm_X6_readProgram (va_Pc [.ref (gAd t 6 o0), .int x1] (g_Pre t M)) (va_Qi K (g_B t) (g_A t)) rm_X6_readProgram.cells rm_X6_readProgram.slots (g_A t) := by
  refine g_met hl rfl (Nat.le_of_ble_eq_true rfl) (fun X hlX cx hQ => ?_)
  subst hlX
  refine gg_aload_n (pc := 0) cx 0 rfl dX6_readProgram_0 rfl ?_
  refine gg_aload_n (pc := 1) cx 0 rfl dX6_readProgram_1 rfl ?_
  refine gf_Reader_pos (pc := 2) cx (hC 6 _ rfl v0) tw_102 dX6_readProgram_2 ?_
  refine gp_Reader_partAt (pc := 5) cx (hC 6 _ rfl v0) tw_104 dX6_readProgram_5 ?_
  refine gg_mem (fun M5 eM5 => ?_)
  have h := h M5 eM5
  refine gg_aload_n (pc := 8) cx 0 rfl dX6_readProgram_8 rfl ?_
  refine gg_iconst (pc := 9) cx (v := 0) dX6_readProgram_9 (by decide) ?_
  refine gg_callVi (pc := 10) cx cal_X6_readExpression calv_X6_readExpression (ct_X6_readExpression cx.tr hC v0 h) tw_425 (hC 6 _ rfl v0) rfl rfl rfl (st := []) rfl (Nat.le_of_ble_eq_true rfl) ⟨Nat.le_of_ble_eq_true rfl, Nat.le_of_ble_eq_true rfl⟩ ⟨Nat.le_of_ble_eq_true rfl, Nat.le_of_ble_eq_true rfl⟩ dX6_readProgram_10 (fun r10 M10 h => ?_)
  refine gg_if_ne (pc := 13) cx (tgt := 26) dX6_readProgram_13 (by decide) (fun c13 => ?_) (fun c13 => ?_)
  · have h := g_if c13 h
    refine gg_aload_n (pc := 26) cx 0 rfl dX6_readProgram_26 rfl ?_
    refine gf_Reader_plan (pc := 27) cx (hC 6 _ rfl v0) tw_98 dX6_readProgram_27 ?_
    refine gf_Plan_stateFrom (pc := 30) cx (hC 5 _ rfl (Nat.le_of_ble_eq_true rfl)) tw_65 dX6_readProgram_30 ?_
    refine gg_iload_n (pc := 33) cx 1 rfl dX6_readProgram_33 rfl ?_
    refine gg_aload_n (pc := 34) cx 0 rfl dX6_readProgram_34 rfl ?_
    refine gf_Reader_plan (pc := 35) cx (hC 6 _ rfl v0) tw_98 dX6_readProgram_35 ?_
    refine gf_Plan_codeLength (pc := 38) cx (hC 5 _ rfl (Nat.le_of_ble_eq_true rfl)) tw_72 dX6_readProgram_38 ?_
    have q41 := h.1
    have h := h.2
    refine gg_iast (pc := 41) cx (hC 38 _ rfl (Nat.le_of_ble_eq_true rfl)) (fun _ _ => rfl) q41 dX6_readProgram_41 ?_
    refine gg_mem (fun M41 eM41 => ?_)
    have h := h M41 eM41
    refine gg_aload_n (pc := 42) cx 0 rfl dX6_readProgram_42 rfl ?_
    refine gg_callVi (pc := 43) cx cal_X6_sign calv_X6_sign (ct_X6_sign cx.tr hC v0 h) tw_414 (hC 6 _ rfl v0) rfl rfl rfl (st := []) rfl (Nat.le_of_ble_eq_true rfl) ⟨Nat.le_of_ble_eq_true rfl, Nat.le_of_ble_eq_true rfl⟩ ⟨Nat.le_of_ble_eq_true rfl, Nat.le_of_ble_eq_true rfl⟩ dX6_readProgram_43 (fun r43 M43 h => ?_)
    refine gg_bipush (pc := 46) cx (v := 58) dX6_readProgram_46 (by decide) ?_
    refine gg_icmp_ne (pc := 48) cx (tgt := 79) dX6_readProgram_48 (by decide) (fun c48 => ?_) (fun c48 => ?_)
    · have h := g_if c48 h
      exact wk_X6_readProgram_b79 cx hC hQ v0 h
    · have h := g_it c48 h
      refine gg_aload_n (pc := 51) cx 0 rfl dX6_readProgram_51 rfl ?_
      refine gg_dup (pc := 52) cx dX6_readProgram_52 rfl ?_
      refine gf_Reader_pos (pc := 53) cx (hC 6 _ rfl v0) tw_102 dX6_readProgram_53 ?_
      refine gg_iconst (pc := 56) cx (v := 1) dX6_readProgram_56 (by decide) ?_
      refine gg_iadd (pc := 57) cx dX6_readProgram_57 ?_
      refine gp_Reader_pos (pc := 58) cx (hC 6 _ rfl v0) tw_102 dX6_readProgram_58 ?_
      refine gg_mem (fun M58 eM58 => ?_)
      have h := h M58 eM58
      refine gg_aload_n (pc := 61) cx 0 rfl dX6_readProgram_61 rfl ?_
      refine gg_iconst (pc := 62) cx (v := 1) dX6_readProgram_62 (by decide) ?_
      refine gg_callVi (pc := 63) cx cal_X6_readExpression calv_X6_readExpression (ct_X6_readExpression cx.tr hC v0 h) tw_425 (hC 6 _ rfl v0) rfl rfl rfl (st := []) rfl (Nat.le_of_ble_eq_true rfl) ⟨Nat.le_of_ble_eq_true rfl, Nat.le_of_ble_eq_true rfl⟩ ⟨Nat.le_of_ble_eq_true rfl, Nat.le_of_ble_eq_true rfl⟩ dX6_readProgram_63 (fun r63 M63 h => ?_)
      refine gg_if_ne (pc := 66) cx (tgt := 79) dX6_readProgram_66 (by decide) (fun c66 => ?_) (fun c66 => ?_)
      · have h := g_if c66 h
        exact wk_X6_readProgram_b79 cx hC hQ v0 h
      · have h := g_it c66 h
        refine gg_aload_n (pc := 69) cx 0 rfl dX6_readProgram_69 rfl ?_
        refine gg_aload_n (pc := 70) cx 0 rfl dX6_readProgram_70 rfl ?_
        refine gf_Reader_pos (pc := 71) cx (hC 6 _ rfl v0) tw_102 dX6_readProgram_71 ?_
        refine gp_Reader_signAt (pc := 74) cx (hC 6 _ rfl v0) tw_105 dX6_readProgram_74 ?_
        refine gg_mem (fun M74 eM74 => ?_)
        have h := h M74 eM74
        refine gg_iconst (pc := 77) cx (v := 0) dX6_readProgram_77 (by decide) ?_
        exact gg_zret (pc := 78) cx hQ rfl h dX6_readProgram_78
  · have h := g_it c13 h
    refine gg_aload_n (pc := 16) cx 0 rfl dX6_readProgram_16 rfl ?_
    refine gg_aload_n (pc := 17) cx 0 rfl dX6_readProgram_17 rfl ?_
    refine gf_Reader_pos (pc := 18) cx (hC 6 _ rfl v0) tw_102 dX6_readProgram_18 ?_
    refine gp_Reader_signAt (pc := 21) cx (hC 6 _ rfl v0) tw_105 dX6_readProgram_21 ?_
    refine gg_mem (fun M21 eM21 => ?_)
    have h := h M21 eM21
    refine gg_iconst (pc := 24) cx (v := 0) dX6_readProgram_24 (by decide) ?_
    exact gg_zret (pc := 25) cx hQ rfl h dX6_readProgram_25
set_option maxRecDepth 100000 in
set_option maxHeartbeats 4000000 in
theorem wk_X6_readShaper_b68 {t : gT} {X : gX} (cx : g_Cx t X cX6_readShaper 5 RX6 (some .boolean)) (hC : g_hC t) {K : Int32 → gM → Prop} (hQ : gXQ X = MQ (gXb X) (va_Qi K (g_B t) (g_A t)) (gXa X) (gXs X) rm_X6_readShaper.cells rm_X6_readShaper.slots (g_A t)) {o0 : Nat} {M : gM} (v0 : o0 < 1) (h : wp_X6_readShaper_b68 K o0 M) : G t rm_X6_readShaper X 5 0 0 M [(0, .ref (gAd t 6 o0))] [] 68 := by
  refine gg_aload_n (pc := 68) cx 0 rfl dX6_readShaper_68 rfl ?_
  refine gg_aload_n (pc := 69) cx 0 rfl dX6_readShaper_69 rfl ?_
  refine gf_Reader_pos (pc := 70) cx (hC 6 _ rfl v0) tw_102 dX6_readShaper_70 ?_
  refine gp_Reader_signAt (pc := 73) cx (hC 6 _ rfl v0) tw_105 dX6_readShaper_73 ?_
  refine gg_mem (fun M73 eM73 => ?_)
  have h := h M73 eM73
  refine gg_iconst (pc := 76) cx (v := 0) dX6_readShaper_76 (by decide) ?_
  exact gg_zret (pc := 77) cx hQ rfl h dX6_readShaper_77
theorem cal_X6_readShaper : g_Cal yX6_readShaper cX6_readShaper 5 (some .boolean) 1 := ⟨tw_2, tw_523, by decide, by decide, by decide +kernel⟩
theorem calv_X6_readShaper : g_CalV yX6_readShaper := ⟨tw_522, ts_12⟩
set_option maxRecDepth 100000 in
set_option maxHeartbeats 4000000 in
theorem ct_X6_readShaper {l : Launch} (hl : l.stackTraces = false) {t : gT} (hC : g_hC t) {o0 : Nat} {x1 : Int32} (v0 : o0 < 1) {M : gM} {K : Int32 → gM → Prop} (h : wp_X6_readShaper o0 x1 M K) : Met l yX6_readShaper (g_y yX6_readShaper cX6_readShaper 5 (some .boolean)) rm_X6_readShaper (va_Pc [.ref (gAd t 6 o0), .int x1] (g_Pre t M)) (va_Qi K (g_B t) (g_A t)) rm_X6_readShaper.cells rm_X6_readShaper.slots (g_A t) := by
  refine g_met hl rfl (Nat.le_of_ble_eq_true rfl) (fun X hlX cx hQ => ?_)
  subst hlX
  refine gg_iload_n (pc := 0) cx 1 rfl dX6_readShaper_0 rfl ?_
  refine gg_if_eq (pc := 1) cx (tgt := 13) dX6_readShaper_1 (by decide) (fun c1 => ?_) (fun c1 => ?_)
  · have h := g_it c1 h
    refine gg_iconst (pc := 13) cx (v := 1) dX6_readShaper_13 (by decide) ?_
    exact gg_zret (pc := 14) cx hQ rfl h dX6_readShaper_14
  · have h := g_if c1 h
    refine gg_aload_n (pc := 4) cx 0 rfl dX6_readShaper_4 rfl ?_
    refine gg_callVi (pc := 5) cx cal_X6_sign calv_X6_sign (ct_X6_sign cx.tr hC v0 h) tw_414 (hC 6 _ rfl v0) rfl rfl rfl (st := []) rfl (Nat.le_of_ble_eq_true rfl) ⟨Nat.le_of_ble_eq_true rfl, Nat.le_of_ble_eq_true rfl⟩ ⟨Nat.le_of_ble_eq_true rfl, Nat.le_of_ble_eq_true rfl⟩ dX6_readShaper_5 (fun r5 M5 h => ?_)
    refine gg_bipush (pc := 8) cx (v := 64) dX6_readShaper_8 (by decide) ?_
    refine gg_icmp_eq (pc := 10) cx (tgt := 15) dX6_readShaper_10 (by decide) (fun c10 => ?_) (fun c10 => ?_)
    · have h := g_it c10 h
      refine gg_aload_n (pc := 15) cx 0 rfl dX6_readShaper_15 rfl ?_
      refine gg_aload_n (pc := 16) cx 0 rfl dX6_readShaper_16 rfl ?_
      refine gf_Reader_pos (pc := 17) cx (hC 6 _ rfl v0) tw_102 dX6_readShaper_17 ?_
      refine gp_Reader_partAt (pc := 20) cx (hC 6 _ rfl v0) tw_104 dX6_readShaper_20 ?_
      refine gg_mem (fun M20 eM20 => ?_)
      have h := h M20 eM20
      refine gg_aload_n (pc := 23) cx 0 rfl dX6_readShaper_23 rfl ?_
      refine gg_dup (pc := 24) cx dX6_readShaper_24 rfl ?_
      refine gf_Reader_pos (pc := 25) cx (hC 6 _ rfl v0) tw_102 dX6_readShaper_25 ?_
      refine gg_iconst (pc := 28) cx (v := 1) dX6_readShaper_28 (by decide) ?_
      refine gg_iadd (pc := 29) cx dX6_readShaper_29 ?_
      refine gp_Reader_pos (pc := 30) cx (hC 6 _ rfl v0) tw_102 dX6_readShaper_30 ?_
      refine gg_mem (fun M30 eM30 => ?_)
      have h := h M30 eM30
      refine gg_aload_n (pc := 33) cx 0 rfl dX6_readShaper_33 rfl ?_
      refine gf_Reader_pos (pc := 34) cx (hC 6 _ rfl v0) tw_102 dX6_readShaper_34 ?_
      refine gg_topi (fun n37 en37 => ?_)
      have h := h n37 en37
      refine gg_istore_n (pc := 37) cx [(2, .int n37), (0, .ref (gAd t 6 o0)), (1, .int x1)] dX6_readShaper_37 rfl (by decide) rfl ?_
      refine gg_aload_n (pc := 38) cx 1 rfl dX6_readShaper_38 rfl ?_
      refine gg_iconst (pc := 39) cx (v := 4) dX6_readShaper_39 (by decide) ?_
      refine gg_callVi (pc := 40) cx cal_X6_readNumber calv_X6_readNumber (ct_X6_readNumber cx.tr hC v0 h) tw_410 (hC 6 _ rfl v0) rfl rfl rfl (st := []) rfl (Nat.le_of_ble_eq_true rfl) ⟨Nat.le_of_ble_eq_true rfl, Nat.le_of_ble_eq_true rfl⟩ ⟨Nat.le_of_ble_eq_true rfl, Nat.le_of_ble_eq_true rfl⟩ dX6_readShaper_40 (fun r40 M40 h => ?_)
      refine gg_istore_n (pc := 43) cx [(3, .int r40), (2, .int n37), (0, .ref (gAd t 6 o0)), (1, .int x1)] dX6_readShaper_43 rfl (by decide) rfl ?_
      refine gg_iload_n (pc := 44) cx 0 rfl dX6_readShaper_44 rfl ?_
      refine gg_if_ne (pc := 45) cx (tgt := 55) dX6_readShaper_45 (by decide) (fun c45 => ?_) (fun c45 => ?_)
      · have h := g_if c45 h
        refine gg_iload_n (pc := 55) cx 0 rfl dX6_readShaper_55 rfl ?_
        refine gg_if_lt (pc := 56) cx (tgt := 68) dX6_readShaper_56 (by decide) (fun c56 => ?_) (fun c56 => ?_)
        · have h := g_it c56 h
          refine gg_lv (lv' := [(0, .ref (gAd t 6 o0))]) [2] rfl ?_
          exact wk_X6_readShaper_b68 cx hC hQ v0 h
        · have h := g_if c56 h
          refine gg_aload_n (pc := 59) cx 2 rfl dX6_readShaper_59 rfl ?_
          refine gg_callVi (pc := 60) cx cal_X6_sign calv_X6_sign (ct_X6_sign cx.tr hC v0 h) tw_414 (hC 6 _ rfl v0) rfl rfl rfl (st := []) rfl (Nat.le_of_ble_eq_true rfl) ⟨Nat.le_of_ble_eq_true rfl, Nat.le_of_ble_eq_true rfl⟩ ⟨Nat.le_of_ble_eq_true rfl, Nat.le_of_ble_eq_true rfl⟩ dX6_readShaper_60 (fun r60 M60 h => ?_)
          refine gg_bipush (pc := 63) cx (v := 44) dX6_readShaper_63 (by decide) ?_
          refine gg_icmp_eq (pc := 65) cx (tgt := 78) dX6_readShaper_65 (by decide) (fun c65 => ?_) (fun c65 => ?_)
          · have h := g_it c65 h
            refine gg_aload_n (pc := 78) cx 2 rfl dX6_readShaper_78 rfl ?_
            refine gg_dup (pc := 79) cx dX6_readShaper_79 rfl ?_
            refine gf_Reader_pos (pc := 80) cx (hC 6 _ rfl v0) tw_102 dX6_readShaper_80 ?_
            refine gg_iconst (pc := 83) cx (v := 1) dX6_readShaper_83 (by decide) ?_
            refine gg_iadd (pc := 84) cx dX6_readShaper_84 ?_
            refine gp_Reader_pos (pc := 85) cx (hC 6 _ rfl v0) tw_102 dX6_readShaper_85 ?_
            refine gg_mem (fun M85 eM85 => ?_)
            have h := h M85 eM85
            refine gg_aload_n (pc := 88) cx 2 rfl dX6_readShaper_88 rfl ?_
            refine gg_iconst (pc := 89) cx (v := 4) dX6_readShaper_89 (by decide) ?_
            refine gg_callVi (pc := 90) cx cal_X6_readNumber calv_X6_readNumber (ct_X6_readNumber cx.tr hC v0 h) tw_410 (hC 6 _ rfl v0) rfl rfl rfl (st := []) rfl (Nat.le_of_ble_eq_true rfl) ⟨Nat.le_of_ble_eq_true rfl, Nat.le_of_ble_eq_true rfl⟩ ⟨Nat.le_of_ble_eq_true rfl, Nat.le_of_ble_eq_true rfl⟩ dX6_readShaper_90 (fun r90 M90 h => ?_)
            refine gg_istore (pc := 93) cx [(4, .int r90), (3, .int r40), (2, .int n37), (0, .ref (gAd t 6 o0)), (1, .int x1)] dX6_readShaper_93 (by decide) rfl ?_
            refine gg_iload (pc := 95) cx 0 rfl dX6_readShaper_95 ?_
            refine gg_if_ge (pc := 97) cx (tgt := 110) dX6_readShaper_97 (by decide) (fun c97 => ?_) (fun c97 => ?_)
            · have h := g_it c97 h
              refine gg_aload_n (pc := 110) cx 3 rfl dX6_readShaper_110 rfl ?_
              refine gf_Reader_plan (pc := 111) cx (hC 6 _ rfl v0) tw_98 dX6_readShaper_111 ?_
              refine gf_Plan_rate (pc := 114) cx (hC 5 _ rfl (Nat.le_of_ble_eq_true rfl)) tw_56 dX6_readShaper_114 ?_
              refine gg_iload_n (pc := 117) cx 4 rfl dX6_readShaper_117 rfl ?_
              refine gg_iload_n (pc := 118) cx 1 rfl dX6_readShaper_118 rfl ?_
              have q119 := h.1
              have h := h.2
              refine gg_iast (pc := 119) cx (hC 35 _ rfl (Nat.le_of_ble_eq_true rfl)) (fun _ _ => rfl) q119 dX6_readShaper_119 ?_
              refine gg_mem (fun M119 eM119 => ?_)
              have h := h M119 eM119
              refine gg_aload_n (pc := 120) cx 3 rfl dX6_readShaper_120 rfl ?_
              refine gf_Reader_plan (pc := 121) cx (hC 6 _ rfl v0) tw_98 dX6_readShaper_121 ?_
              refine gf_Plan_burst (pc := 124) cx (hC 5 _ rfl (Nat.le_of_ble_eq_true rfl)) tw_59 dX6_readShaper_124 ?_
              refine gg_iload_n (pc := 127) cx 4 rfl dX6_readShaper_127 rfl ?_
              refine gg_iload (pc := 128) cx 0 rfl dX6_readShaper_128 ?_
              have q130 := h.1
              have h := h.2
              refine gg_iast (pc := 130) cx (hC 36 _ rfl (Nat.le_of_ble_eq_true rfl)) (fun _ _ => rfl) q130 dX6_readShaper_130 ?_
              refine gg_mem (fun M130 eM130 => ?_)
              have h := h M130 eM130
              refine gg_iconst (pc := 131) cx (v := 1) dX6_readShaper_131 (by decide) ?_
              exact gg_zret (pc := 132) cx hQ rfl h dX6_readShaper_132
            · have h := g_if c97 h
              refine gg_aload_n (pc := 100) cx 3 rfl dX6_readShaper_100 rfl ?_
              refine gg_aload_n (pc := 101) cx 3 rfl dX6_readShaper_101 rfl ?_
              refine gf_Reader_pos (pc := 102) cx (hC 6 _ rfl v0) tw_102 dX6_readShaper_102 ?_
              refine gp_Reader_signAt (pc := 105) cx (hC 6 _ rfl v0) tw_105 dX6_readShaper_105 ?_
              refine gg_mem (fun M105 eM105 => ?_)
              have h := h M105 eM105
              refine gg_iconst (pc := 108) cx (v := 0) dX6_readShaper_108 (by decide) ?_
              exact gg_zret (pc := 109) cx hQ rfl h dX6_readShaper_109
          · have h := g_if c65 h
            refine gg_lv (lv' := [(0, .ref (gAd t 6 o0))]) [2] rfl ?_
            exact wk_X6_readShaper_b68 cx hC hQ v0 h
      · have h := g_it c45 h
        refine gg_aload_n (pc := 48) cx 2 rfl dX6_readShaper_48 rfl ?_
        refine gg_iload_n (pc := 49) cx 1 rfl dX6_readShaper_49 rfl ?_
        refine gp_Reader_signAt (pc := 50) cx (hC 6 _ rfl v0) tw_105 dX6_readShaper_50 ?_
        refine gg_mem (fun M50 eM50 => ?_)
        have h := h M50 eM50
        refine gg_iconst (pc := 53) cx (v := 0) dX6_readShaper_53 (by decide) ?_
        exact gg_zret (pc := 54) cx hQ rfl h dX6_readShaper_54
    · have h := g_if c10 h
      refine gg_iconst (pc := 13) cx (v := 1) dX6_readShaper_13 (by decide) ?_
      exact gg_zret (pc := 14) cx hQ rfl h dX6_readShaper_14
set_option maxRecDepth 100000 in
set_option maxHeartbeats 4000000 in
theorem wk_X6_readEnd_b26 {t : gT} {X : gX} (cx : g_Cx t X cX6_readEnd 3 RX6 (some .boolean)) (hC : g_hC t) {K : Int32 → gM → Prop} (hQ : gXQ X = MQ (gXb X) (va_Qi K (g_B t) (g_A t)) (gXa X) (gXs X) rm_X6_readEnd.cells rm_X6_readEnd.slots (g_A t)) {o0 : Nat} {x1 : Int32} {x2 : Int32} {M : gM} (v0 : o0 < 1) (h : wp_X6_readEnd_b26 K o0 x1 x2 M) : G t rm_X6_readEnd X 3 0 0 M [(0, .ref (gAd t 6 o0)), (1, .int x1), (2, .int x2)] [] 26 := by
  refine gg_aload_n (pc := 26) cx 0 rfl dX6_readEnd_26 rfl ?_
  refine gf_Reader_plan (pc := 27) cx (hC 6 _ rfl v0) tw_98 dX6_readEnd_27 ?_
  refine gf_Plan_tie (pc := 30) cx (hC 5 _ rfl (Nat.le_of_ble_eq_true rfl)) tw_54 dX6_readEnd_30 ?_
  refine gg_iload_n (pc := 33) cx 1 rfl dX6_readEnd_33 rfl ?_
  refine gg_iload_n (pc := 34) cx 2 rfl dX6_readEnd_34 rfl ?_
  have q35 := h.1
  have h := h.2
  refine gg_iast (pc := 35) cx (hC 34 _ rfl (Nat.le_of_ble_eq_true rfl)) (fun _ _ => rfl) q35 dX6_readEnd_35 ?_
  refine gg_mem (fun M35 eM35 => ?_)
  have h := h M35 eM35
  refine gg_aload_n (pc := 36) cx 0 rfl dX6_readEnd_36 rfl ?_
  refine gg_aload_n (pc := 37) cx 0 rfl dX6_readEnd_37 rfl ?_
  refine gf_Reader_pos (pc := 38) cx (hC 6 _ rfl v0) tw_102 dX6_readEnd_38 ?_
  refine gp_Reader_partAt (pc := 41) cx (hC 6 _ rfl v0) tw_104 dX6_readEnd_41 ?_
  refine gg_mem (fun M41 eM41 => ?_)
  have h := h M41 eM41
  refine gg_aload_n (pc := 44) cx 0 rfl dX6_readEnd_44 rfl ?_
  refine gg_callVi (pc := 45) cx cal_X6_sign calv_X6_sign (ct_X6_sign cx.tr hC v0 h) tw_414 (hC 6 _ rfl v0) rfl rfl rfl (st := []) rfl (Nat.le_of_ble_eq_true rfl) ⟨Nat.le_of_ble_eq_true rfl, Nat.le_of_ble_eq_true rfl⟩ ⟨Nat.le_of_ble_eq_true rfl, Nat.le_of_ble_eq_true rfl⟩ dX6_readEnd_45 (fun r45 M45 h => ?_)
  refine gg_if_eq (pc := 48) cx (tgt := 60) dX6_readEnd_48 (by decide) (fun c48 => ?_) (fun c48 => ?_)
  · have h := g_it c48 h
    refine gg_iconst (pc := 60) cx (v := 1) dX6_readEnd_60 (by decide) ?_
    refine gg_goto (pc := 61) cx (tgt := 65) dX6_readEnd_61 (by decide) ?_
    exact gg_zret (pc := 65) cx hQ rfl h dX6_readEnd_65
  · have h := g_if c48 h
    refine gg_aload_n (pc := 51) cx 0 rfl dX6_readEnd_51 rfl ?_
    refine gg_callVi (pc := 52) cx cal_X6_sign calv_X6_sign (ct_X6_sign cx.tr hC v0 h) tw_414 (hC 6 _ rfl v0) rfl rfl rfl (st := []) rfl (Nat.le_of_ble_eq_true rfl) ⟨Nat.le_of_ble_eq_true rfl, Nat.le_of_ble_eq_true rfl⟩ ⟨Nat.le_of_ble_eq_true rfl, Nat.le_of_ble_eq_true rfl⟩ dX6_readEnd_52 (fun r52 M52 h => ?_)
    refine gg_bipush (pc := 55) cx (v := 59) dX6_readEnd_55 (by decide) ?_
    refine gg_icmp_ne (pc := 57) cx (tgt := 64) dX6_readEnd_57 (by decide) (fun c57 => ?_) (fun c57 => ?_)
    · have h := g_if c57 h
      refine gg_iconst (pc := 64) cx (v := 0) dX6_readEnd_64 (by decide) ?_
      exact gg_zret (pc := 65) cx hQ rfl h dX6_readEnd_65
    · have h := g_it c57 h
      refine gg_iconst (pc := 60) cx (v := 1) dX6_readEnd_60 (by decide) ?_
      refine gg_goto (pc := 61) cx (tgt := 65) dX6_readEnd_61 (by decide) ?_
      exact gg_zret (pc := 65) cx hQ rfl h dX6_readEnd_65
theorem cal_X6_readEnd : g_Cal yX6_readEnd cX6_readEnd 3 (some .boolean) 1 := ⟨tw_2, tw_527, by decide, by decide, by decide +kernel⟩
theorem calv_X6_readEnd : g_CalV yX6_readEnd := ⟨tw_526, ts_13⟩
set_option maxRecDepth 100000 in
set_option maxHeartbeats 4000000 in
theorem ct_X6_readEnd {l : Launch} (hl : l.stackTraces = false) {t : gT} (hC : g_hC t) {o0 : Nat} {x1 : Int32} (v0 : o0 < 1) {M : gM} {K : Int32 → gM → Prop} (h : wp_X6_readEnd o0 x1 M K) : Met l yX6_readEnd (g_y yX6_readEnd cX6_readEnd 3 (some .boolean)) rm_X6_readEnd (va_Pc [.ref (gAd t 6 o0), .int x1] (g_Pre t M)) (va_Qi K (g_B t) (g_A t)) rm_X6_readEnd.cells rm_X6_readEnd.slots (g_A t) := by
  refine g_met hl rfl (Nat.le_of_ble_eq_true rfl) (fun X hlX cx hQ => ?_)
  subst hlX
  refine gg_ldcS (pc := 0) cx (g_st7 cx.T) dX6_readEnd_0 ?_
  refine gg_aload_n (pc := 2) cx 0 rfl dX6_readEnd_2 rfl ?_
  refine gg_callVi (pc := 3) cx cal_X6_sign calv_X6_sign (ct_X6_sign cx.tr hC v0 h) tw_414 (hC 6 _ rfl v0) rfl rfl rfl (st := [.ref (gSK t 7)]) rfl (Nat.le_of_ble_eq_true rfl) ⟨Nat.le_of_ble_eq_true rfl, Nat.le_of_ble_eq_true rfl⟩ ⟨Nat.le_of_ble_eq_true rfl, Nat.le_of_ble_eq_true rfl⟩ dX6_readEnd_3 (fun r3 M3 h => ?_)
  refine gg_call_S_indexOf (pc := 6) cx tw_442 (st := []) dX6_readEnd_6 (Nat.le_of_ble_eq_true rfl) ⟨Nat.le_of_ble_eq_true rfl, Nat.le_of_ble_eq_true rfl⟩ ⟨Nat.le_of_ble_eq_true rfl, Nat.le_of_ble_eq_true rfl⟩ h (fun r6 M6 h => ?_)
  refine gg_iconst (pc := 9) cx (v := 1) dX6_readEnd_9 (by decide) ?_
  refine gg_iadd (pc := 10) cx dX6_readEnd_10 ?_
  refine gg_topi (fun n11 en11 => ?_)
  have h := h n11 en11
  refine gg_istore_n (pc := 11) cx [(2, .int n11), (0, .ref (gAd t 6 o0)), (1, .int x1)] dX6_readEnd_11 rfl (by decide) rfl ?_
  refine gg_iload_n (pc := 12) cx 0 rfl dX6_readEnd_12 rfl ?_
  refine gg_if_le (pc := 13) cx (tgt := 26) dX6_readEnd_13 (by decide) (fun c13 => ?_) (fun c13 => ?_)
  · have h := g_it c13 h
    refine gg_lv (lv' := [(0, .ref (gAd t 6 o0)), (1, .int x1), (2, .int n11)]) [1, 2, 0] rfl ?_
    exact wk_X6_readEnd_b26 cx hC hQ v0 h
  · have h := g_if c13 h
    refine gg_aload_n (pc := 16) cx 1 rfl dX6_readEnd_16 rfl ?_
    refine gg_dup (pc := 17) cx dX6_readEnd_17 rfl ?_
    refine gf_Reader_pos (pc := 18) cx (hC 6 _ rfl v0) tw_102 dX6_readEnd_18 ?_
    refine gg_iconst (pc := 21) cx (v := 1) dX6_readEnd_21 (by decide) ?_
    refine gg_iadd (pc := 22) cx dX6_readEnd_22 ?_
    refine gp_Reader_pos (pc := 23) cx (hC 6 _ rfl v0) tw_102 dX6_readEnd_23 ?_
    refine gg_mem (fun M23 eM23 => ?_)
    have h := h M23 eM23
    refine gg_lv (lv' := [(0, .ref (gAd t 6 o0)), (1, .int x1), (2, .int n11)]) [1, 2, 0] rfl ?_
    exact wk_X6_readEnd_b26 cx hC hQ v0 h
set_option maxRecDepth 100000 in
set_option maxHeartbeats 4000000 in
theorem wk_X6_readTree_b57 {t : gT} {X : gX} (cx : g_Cx t X cX6_readTree 3 RX6 (some .boolean)) (hC : g_hC t) {K : Int32 → gM → Prop} (hQ : gXQ X = MQ (gXb X) (va_Qi K (g_B t) (g_A t)) (gXa X) (gXs X) rm_X6_readTree.cells rm_X6_readTree.slots (g_A t)) {R14 : Nat → Int32 → gM → Prop} (hR14 : ∀ (o0 : Nat) (x1 : Int32) (M : gM), o0 < 1 → R14 o0 x1 M → G t rm_X6_readTree X 3 0 0 M [(0, .ref (gAd t 6 o0)), (1, .int x1)] [] 14) {o0 : Nat} {x1 : Int32} {xs0 : Int32} {M : gM} (v0 : o0 < 1) (h : wp_X6_readTree_b57 R14 K o0 x1 xs0 M) : G t rm_X6_readTree X 3 0 0 M [(0, .ref (gAd t 6 o0)), (1, .int x1)] [.int xs0] 57 := by
  refine gg_istore_n (pc := 57) cx [(2, .int xs0), (0, .ref (gAd t 6 o0)), (1, .int x1)] dX6_readTree_57 rfl (by decide) rfl ?_
  refine gg_iload_n (pc := 58) cx 0 rfl dX6_readTree_58 rfl ?_
  refine gg_if_ne (pc := 59) cx (tgt := 64) dX6_readTree_59 (by decide) (fun c59 => ?_) (fun c59 => ?_)
  · have h := g_if c59 h
    refine gg_aload_n (pc := 64) cx 1 rfl dX6_readTree_64 rfl ?_
    refine gg_callVi (pc := 65) cx cal_X6_sign calv_X6_sign (ct_X6_sign cx.tr hC v0 h) tw_414 (hC 6 _ rfl v0) rfl rfl rfl (st := []) rfl (Nat.le_of_ble_eq_true rfl) ⟨Nat.le_of_ble_eq_true rfl, Nat.le_of_ble_eq_true rfl⟩ ⟨Nat.le_of_ble_eq_true rfl, Nat.le_of_ble_eq_true rfl⟩ dX6_readTree_65 (fun r65 M65 h => ?_)
    refine gg_if_ne (pc := 68) cx (tgt := 73) dX6_readTree_68 (by decide) (fun c68 => ?_) (fun c68 => ?_)
    · have h := g_if c68 h
      refine gg_aload_n (pc := 73) cx 1 rfl dX6_readTree_73 rfl ?_
      refine gg_dup (pc := 74) cx dX6_readTree_74 rfl ?_
      refine gf_Reader_pos (pc := 75) cx (hC 6 _ rfl v0) tw_102 dX6_readTree_75 ?_
      refine gg_iconst (pc := 78) cx (v := 1) dX6_readTree_78 (by decide) ?_
      refine gg_iadd (pc := 79) cx dX6_readTree_79 ?_
      refine gp_Reader_pos (pc := 80) cx (hC 6 _ rfl v0) tw_102 dX6_readTree_80 ?_
      refine gg_mem (fun M80 eM80 => ?_)
      have h := h M80 eM80
      obtain ⟨n83, en83⟩ : ∃ z : Int32, z = x1 + Int32.ofInt (1) := ⟨_, rfl⟩
      have h := h n83 en83
      refine gg_iinc (pc := 83) cx 2 [(1, .int n83), (2, .int xs0), (0, .ref (gAd t 6 o0))] dX6_readTree_83 rfl en83.symm (by decide) rfl ?_
      refine gg_goto (pc := 86) cx (tgt := 14) dX6_readTree_86 (by decide) ?_
      refine gg_lv (lv' := [(0, .ref (gAd t 6 o0)), (1, .int n83)]) [2, 0] rfl ?_
      exact hR14 o0 n83 M80 v0 h
    · have h := g_it c68 h
      refine gg_iconst (pc := 71) cx (v := 1) dX6_readTree_71 (by decide) ?_
      exact gg_zret (pc := 72) cx hQ rfl h dX6_readTree_72
  · have h := g_it c59 h
    refine gg_iconst (pc := 62) cx (v := 0) dX6_readTree_62 (by decide) ?_
    exact gg_zret (pc := 63) cx hQ rfl h dX6_readTree_63
set_option maxRecDepth 100000 in
set_option maxHeartbeats 4000000 in
theorem wk_X6_readTree_b56 {t : gT} {X : gX} (cx : g_Cx t X cX6_readTree 3 RX6 (some .boolean)) (hC : g_hC t) {K : Int32 → gM → Prop} (hQ : gXQ X = MQ (gXb X) (va_Qi K (g_B t) (g_A t)) (gXa X) (gXs X) rm_X6_readTree.cells rm_X6_readTree.slots (g_A t)) {R14 : Nat → Int32 → gM → Prop} (hR14 : ∀ (o0 : Nat) (x1 : Int32) (M : gM), o0 < 1 → R14 o0 x1 M → G t rm_X6_readTree X 3 0 0 M [(0, .ref (gAd t 6 o0)), (1, .int x1)] [] 14) {o0 : Nat} {x1 : Int32} {M : gM} (v0 : o0 < 1) (h : wp_X6_readTree_b56 R14 K o0 x1 M) : G t rm_X6_readTree X 3 0 0 M [(0, .ref (gAd t 6 o0)), (1, .int x1)] [] 56 := by
  refine gg_iconst (pc := 56) cx (v := 0) dX6_readTree_56 (by decide) ?_
  exact wk_X6_readTree_b57 cx hC hQ hR14 v0 h
set_option maxRecDepth 100000 in
set_option maxHeartbeats 4000000 in
theorem wk_X6_readTree_L14 {t : gT} {X : gX} (cx : g_Cx t X cX6_readTree 3 RX6 (some .boolean)) (hC : g_hC t) {K : Int32 → gM → Prop} (hQ : gXQ X = MQ (gXb X) (va_Qi K (g_B t) (g_A t)) (gXa X) (gXs X) rm_X6_readTree.cells rm_X6_readTree.slots (g_A t)) (f : Nat) : ∀ (o0 : Nat) (x1 : Int32) (M : gM), o0 < 1 → wp_X6_readTree_L14 K f o0 x1 M → G t rm_X6_readTree X 3 0 0 M [(0, .ref (gAd t 6 o0)), (1, .int x1)] [] 14 := by
  induction f with
  | zero => intro _ _ _ _ _; exact False.elim (by assumption)
  | succ f ih =>
    intro o0 x1 M v0 h
    refine gg_iload_n (pc := 14) cx 1 rfl dX6_readTree_14 rfl ?_
    refine gg_bipush (pc := 15) cx (v := 12) dX6_readTree_15 (by decide) ?_
    refine gg_icmp_gt (pc := 17) cx (tgt := 89) dX6_readTree_17 (by decide) (fun c17 => ?_) (fun c17 => ?_)
    · have h := g_it c17 h
      refine gg_iconst (pc := 89) cx (v := 0) dX6_readTree_89 (by decide) ?_
      exact gg_zret (pc := 90) cx hQ rfl h dX6_readTree_90
    · have h := g_if c17 h
      refine gg_aload_n (pc := 20) cx 0 rfl dX6_readTree_20 rfl ?_
      refine gg_iload_n (pc := 21) cx 1 rfl dX6_readTree_21 rfl ?_
      refine gg_callVi (pc := 22) cx cal_X6_readStart calv_X6_readStart (ct_X6_readStart cx.tr hC v0 h) tw_398 (hC 6 _ rfl v0) rfl rfl rfl (st := []) rfl (Nat.le_of_ble_eq_true rfl) ⟨Nat.le_of_ble_eq_true rfl, Nat.le_of_ble_eq_true rfl⟩ ⟨Nat.le_of_ble_eq_true rfl, Nat.le_of_ble_eq_true rfl⟩ dX6_readTree_22 (fun r22 M22 h => ?_)
      refine gg_if_eq (pc := 25) cx (tgt := 56) dX6_readTree_25 (by decide) (fun c25 => ?_) (fun c25 => ?_)
      · have h := g_it c25 h
        exact wk_X6_readTree_b56 cx hC hQ ih v0 h
      · have h := g_if c25 h
        refine gg_aload_n (pc := 28) cx 0 rfl dX6_readTree_28 rfl ?_
        refine gg_iload_n (pc := 29) cx 1 rfl dX6_readTree_29 rfl ?_
        refine gg_callVi (pc := 30) cx cal_X6_readProgram calv_X6_readProgram (ct_X6_readProgram cx.tr hC v0 h) tw_421 (hC 6 _ rfl v0) rfl rfl rfl (st := []) rfl (Nat.le_of_ble_eq_true rfl) ⟨Nat.le_of_ble_eq_true rfl, Nat.le_of_ble_eq_true rfl⟩ ⟨Nat.le_of_ble_eq_true rfl, Nat.le_of_ble_eq_true rfl⟩ dX6_readTree_30 (fun r30 M30 h => ?_)
        refine gg_if_eq (pc := 33) cx (tgt := 56) dX6_readTree_33 (by decide) (fun c33 => ?_) (fun c33 => ?_)
        · have h := g_it c33 h
          exact wk_X6_readTree_b56 cx hC hQ ih v0 h
        · have h := g_if c33 h
          refine gg_aload_n (pc := 36) cx 0 rfl dX6_readTree_36 rfl ?_
          refine gg_iload_n (pc := 37) cx 1 rfl dX6_readTree_37 rfl ?_
          refine gg_callVi (pc := 38) cx cal_X6_readShaper calv_X6_readShaper (ct_X6_readShaper cx.tr hC v0 h) tw_520 (hC 6 _ rfl v0) rfl rfl rfl (st := []) rfl (Nat.le_of_ble_eq_true rfl) ⟨Nat.le_of_ble_eq_true rfl, Nat.le_of_ble_eq_true rfl⟩ ⟨Nat.le_of_ble_eq_true rfl, Nat.le_of_ble_eq_true rfl⟩ dX6_readTree_38 (fun r38 M38 h => ?_)
          refine gg_if_eq (pc := 41) cx (tgt := 56) dX6_readTree_41 (by decide) (fun c41 => ?_) (fun c41 => ?_)
          · have h := g_it c41 h
            exact wk_X6_readTree_b56 cx hC hQ ih v0 h
          · have h := g_if c41 h
            refine gg_aload_n (pc := 44) cx 0 rfl dX6_readTree_44 rfl ?_
            refine gg_iload_n (pc := 45) cx 1 rfl dX6_readTree_45 rfl ?_
            refine gg_callVi (pc := 46) cx cal_X6_readEnd calv_X6_readEnd (ct_X6_readEnd cx.tr hC v0 h) tw_524 (hC 6 _ rfl v0) rfl rfl rfl (st := []) rfl (Nat.le_of_ble_eq_true rfl) ⟨Nat.le_of_ble_eq_true rfl, Nat.le_of_ble_eq_true rfl⟩ ⟨Nat.le_of_ble_eq_true rfl, Nat.le_of_ble_eq_true rfl⟩ dX6_readTree_46 (fun r46 M46 h => ?_)
            refine gg_if_eq (pc := 49) cx (tgt := 56) dX6_readTree_49 (by decide) (fun c49 => ?_) (fun c49 => ?_)
            · have h := g_it c49 h
              exact wk_X6_readTree_b56 cx hC hQ ih v0 h
            · have h := g_if c49 h
              refine gg_iconst (pc := 52) cx (v := 1) dX6_readTree_52 (by decide) ?_
              refine gg_goto (pc := 53) cx (tgt := 57) dX6_readTree_53 (by decide) ?_
              exact wk_X6_readTree_b57 cx hC hQ ih v0 h
theorem cal_X6_readTree : g_Cal yX6_readTree cX6_readTree 3 (some .boolean) 0 := ⟨tw_2, tw_393, by decide, by decide, by decide +kernel⟩
theorem calv_X6_readTree : g_CalV yX6_readTree := ⟨tw_391, tw_392⟩
set_option maxRecDepth 100000 in
set_option maxHeartbeats 4000000 in
theorem ct_X6_readTree {l : Launch} (hl : l.stackTraces = false) {t : gT} (hC : g_hC t) {o0 : Nat} (v0 : o0 < 1) {M : gM} {K : Int32 → gM → Prop} (h : wp_X6_readTree o0 M K) : Met l yX6_readTree (g_y yX6_readTree cX6_readTree 3 (some .boolean)) rm_X6_readTree (va_Pc [.ref (gAd t 6 o0)] (g_Pre t M)) (va_Qi K (g_B t) (g_A t)) rm_X6_readTree.cells rm_X6_readTree.slots (g_A t) := by
  refine g_met hl rfl (Nat.le_of_ble_eq_true rfl) (fun X hlX cx hQ => ?_)
  subst hlX
  refine gg_aload_n (pc := 0) cx 0 rfl dX6_readTree_0 rfl ?_
  refine gf_Reader_plan (pc := 1) cx (hC 6 _ rfl v0) tw_98 dX6_readTree_1 ?_
  refine gg_callVv (pc := 4) cx cal_X5_empty calv_X5_empty (ct_X5_empty cx.tr hC (Nat.le_of_ble_eq_true rfl) h) tw_394 (hC 5 _ rfl (Nat.le_of_ble_eq_true rfl)) rfl rfl rfl (st := []) rfl (Nat.le_of_ble_eq_true rfl) ⟨Nat.le_of_ble_eq_true rfl, Nat.le_of_ble_eq_true rfl⟩ ⟨Nat.le_of_ble_eq_true rfl, Nat.le_of_ble_eq_true rfl⟩ dX6_readTree_4 (fun M4 h => ?_)
  refine gg_aload_n (pc := 7) cx 0 rfl dX6_readTree_7 rfl ?_
  refine gg_iconst (pc := 8) cx (v := 0) dX6_readTree_8 (by decide) ?_
  refine gp_Reader_pos (pc := 9) cx (hC 6 _ rfl v0) tw_102 dX6_readTree_9 ?_
  refine gg_mem (fun M9 eM9 => ?_)
  have h := h M9 eM9
  refine gg_iconst (pc := 12) cx (v := 0) dX6_readTree_12 (by decide) ?_
  refine gg_istore_n (pc := 13) cx [(1, .int 0), (0, .ref (gAd t 6 o0))] dX6_readTree_13 rfl (by decide) rfl ?_
  refine gg_lv (lv' := [(0, .ref (gAd t 6 o0)), (1, .int 0)]) [1, 0] rfl ?_
  obtain ⟨f14, h⟩ := h
  exact wk_X6_readTree_L14 cx hC hQ f14 o0 0 M9 v0 h
theorem cal_X6_errorAt : g_Cal yX6_errorAt cX6_errorAt 2 (some .int) 1 := ⟨tw_2, tw_597, by decide, by decide, by decide +kernel⟩
theorem calv_X6_errorAt : g_CalV yX6_errorAt := ⟨tw_595, tw_596⟩
set_option maxRecDepth 100000 in
set_option maxHeartbeats 4000000 in
theorem ct_X6_errorAt {l : Launch} (hl : l.stackTraces = false) {t : gT} (hC : g_hC t) {o0 : Nat} {x1 : Int32} (v0 : o0 < 1) {M : gM} {K : Int32 → gM → Prop} (h : wp_X6_errorAt o0 x1 M K) : Met l yX6_errorAt (g_y yX6_errorAt cX6_errorAt 2 (some .int)) rm_X6_errorAt (va_Pc [.ref (gAd t 6 o0), .int x1] (g_Pre t M)) (va_Qi K (g_B t) (g_A t)) rm_X6_errorAt.cells rm_X6_errorAt.slots (g_A t) := by
  refine g_met hl rfl (Nat.le_of_ble_eq_true rfl) (fun X hlX cx hQ => ?_)
  subst hlX
  refine gg_iload_n (pc := 0) cx 1 rfl dX6_errorAt_0 rfl ?_
  refine gg_if_ne (pc := 1) cx (tgt := 11) dX6_errorAt_1 (by decide) (fun c1 => ?_) (fun c1 => ?_)
  · have h := g_if c1 h
    refine gg_iload_n (pc := 11) cx 1 rfl dX6_errorAt_11 rfl ?_
    refine gg_iconst (pc := 12) cx (v := 1) dX6_errorAt_12 (by decide) ?_
    refine gg_icmp_ne (pc := 13) cx (tgt := 23) dX6_errorAt_13 (by decide) (fun c13 => ?_) (fun c13 => ?_)
    · have h := g_if c13 h
      refine gg_aload_n (pc := 23) cx 0 rfl dX6_errorAt_23 rfl ?_
      refine gf_Reader_signAt (pc := 24) cx (hC 6 _ rfl v0) tw_105 dX6_errorAt_24 ?_
      exact gg_iret (pc := 27) cx hQ h dX6_errorAt_27
    · have h := g_it c13 h
      refine gg_aload_n (pc := 16) cx 0 rfl dX6_errorAt_16 rfl ?_
      refine gf_Reader_partAt (pc := 17) cx (hC 6 _ rfl v0) tw_104 dX6_errorAt_17 ?_
      refine gg_goto (pc := 20) cx (tgt := 27) dX6_errorAt_20 (by decide) ?_
      exact gg_iret (pc := 27) cx hQ h dX6_errorAt_27
  · have h := g_it c1 h
    refine gg_aload_n (pc := 4) cx 0 rfl dX6_errorAt_4 rfl ?_
    refine gf_Reader_nodeAt (pc := 5) cx (hC 6 _ rfl v0) tw_103 dX6_errorAt_5 ?_
    refine gg_goto (pc := 8) cx (tgt := 27) dX6_errorAt_8 (by decide) ?_
    exact gg_iret (pc := 27) cx hQ h dX6_errorAt_27
theorem cal_X6_lastError : g_Cal yX6_lastError cX6_lastError 1 (some .int) 0 := ⟨tw_2, tw_601, by decide, by decide, by decide +kernel⟩
theorem calv_X6_lastError : g_CalV yX6_lastError := ⟨tw_599, tw_600⟩
set_option maxRecDepth 100000 in
set_option maxHeartbeats 4000000 in
theorem ct_X6_lastError {l : Launch} (hl : l.stackTraces = false) {t : gT} (hC : g_hC t) {o0 : Nat} (v0 : o0 < 1) {M : gM} {K : Int32 → gM → Prop} (h : wp_X6_lastError o0 M K) : Met l yX6_lastError (g_y yX6_lastError cX6_lastError 1 (some .int)) rm_X6_lastError (va_Pc [.ref (gAd t 6 o0)] (g_Pre t M)) (va_Qi K (g_B t) (g_A t)) rm_X6_lastError.cells rm_X6_lastError.slots (g_A t) := by
  refine g_met hl rfl (Nat.le_of_ble_eq_true rfl) (fun X hlX cx hQ => ?_)
  subst hlX
  refine gg_aload_n (pc := 0) cx 0 rfl dX6_lastError_0 rfl ?_
  refine gf_Reader_signAt (pc := 1) cx (hC 6 _ rfl v0) tw_105 dX6_lastError_1 ?_
  refine gg_if_lt (pc := 4) cx (tgt := 14) dX6_lastError_4 (by decide) (fun c4 => ?_) (fun c4 => ?_)
  · have h := g_it c4 h
    refine gg_aload_n (pc := 14) cx 0 rfl dX6_lastError_14 rfl ?_
    refine gf_Reader_partAt (pc := 15) cx (hC 6 _ rfl v0) tw_104 dX6_lastError_15 ?_
    exact gg_iret (pc := 18) cx hQ h dX6_lastError_18
  · have h := g_if c4 h
    refine gg_aload_n (pc := 7) cx 0 rfl dX6_lastError_7 rfl ?_
    refine gf_Reader_signAt (pc := 8) cx (hC 6 _ rfl v0) tw_105 dX6_lastError_8 ?_
    refine gg_goto (pc := 11) cx (tgt := 18) dX6_lastError_11 (by decide) ?_
    exact gg_iret (pc := 18) cx hQ h dX6_lastError_18
set_option maxRecDepth 100000 in
set_option maxHeartbeats 4000000 in
theorem wk_X7_startWith_L31 {t : gT} {X : gX} (cx : g_Cx t X cX7_startWith 3 RX7 (none)) (hC : g_hC t) {K : gM → Prop} (hQ : gXQ X = MQ (gXb X) (va_Qv K (g_B t) (g_A t)) (gXa X) (gXs X) rm_X7_startWith.cells rm_X7_startWith.slots (g_A t)) (f : Nat) : ∀ (o0 : Nat) (x2 : Int32) (M : gM), o0 < 5 → wp_X7_startWith_L31 K f o0 x2 M → G t rm_X7_startWith X 3 0 0 M [(0, .ref (gAd t 7 o0)), (2, .int x2)] [] 31 := by
  induction f with
  | zero => intro _ _ _ _ _; exact False.elim (by assumption)
  | succ f ih =>
    intro o0 x2 M v0 h
    refine gg_iload_n (pc := 31) cx 1 rfl dX7_startWith_31 rfl ?_
    refine gg_aload_n (pc := 32) cx 0 rfl dX7_startWith_32 rfl ?_
    refine gf_World_nodes (pc := 33) cx (hC 7 _ rfl v0) tw_299 dX7_startWith_33 ?_
    refine gg_alen (pc := 36) cx (ca := 3) (v := 12) (hC 43 _ rfl v0) rfl rfl rfl dX7_startWith_36 ?_
    refine gg_icmp_ge (pc := 37) cx (tgt := 55) dX7_startWith_37 (by decide) (fun c37 => ?_) (fun c37 => ?_)
    · have h := g_it c37 h
      refine gg_aload_n (pc := 55) cx 0 rfl dX7_startWith_55 rfl ?_
      refine gf_World_flows (pc := 56) cx (hC 7 _ rfl v0) tw_303 dX7_startWith_56 ?_
      refine gg_aload_n (pc := 59) cx 0 rfl dX7_startWith_59 rfl ?_
      refine gf_World_plan (pc := 60) cx (hC 7 _ rfl v0) tw_297 dX7_startWith_60 ?_
      refine gg_callVi (pc := 63) cx cal_X5_firstLeaf calv_X5_firstLeaf (ct_X5_firstLeaf cx.tr hC (g_v56 v0) h) tw_544 (hC 5 _ rfl (g_v56 v0)) rfl rfl rfl (st := [.ref (gAd t 1 o0)]) rfl (Nat.le_of_ble_eq_true rfl) ⟨Nat.le_of_ble_eq_true rfl, Nat.le_of_ble_eq_true rfl⟩ ⟨Nat.le_of_ble_eq_true rfl, Nat.le_of_ble_eq_true rfl⟩ dX7_startWith_63 (fun r63 M63 h => ?_)
      refine gg_callVv (pc := 66) cx cal_X1_restart calv_X1_restart (ct_X1_restart cx.tr hC v0 h) tw_552 (hC 1 _ rfl v0) rfl rfl rfl (st := []) rfl (Nat.le_of_ble_eq_true rfl) ⟨Nat.le_of_ble_eq_true rfl, Nat.le_of_ble_eq_true rfl⟩ ⟨Nat.le_of_ble_eq_true rfl, Nat.le_of_ble_eq_true rfl⟩ dX7_startWith_66 (fun M66 h => ?_)
      exact gg_vret (pc := 69) cx hQ h dX7_startWith_69
    · have h := g_if c37 h
      refine gg_aload_n (pc := 40) cx 0 rfl dX7_startWith_40 rfl ?_
      refine gf_World_nodes (pc := 41) cx (hC 7 _ rfl v0) tw_299 dX7_startWith_41 ?_
      refine gg_iload_n (pc := 44) cx 1 rfl dX7_startWith_44 rfl ?_
      have q45 := h.1
      have h := h.2
      refine gg_aald (pc := 45) cx (ca := 3) (hC 43 _ rfl v0) rfl rfl q45 rfl dX7_startWith_45 ?_
      refine gg_callVv (pc := 46) cx cal_X3_restart calv_X3_restart (ct_X3_restart cx.tr hC (g_vN v0 q45) h) tw_540 (hC 3 _ rfl (g_vN v0 q45)) rfl rfl rfl (st := []) rfl (Nat.le_of_ble_eq_true rfl) ⟨Nat.le_of_ble_eq_true rfl, Nat.le_of_ble_eq_true rfl⟩ ⟨Nat.le_of_ble_eq_true rfl, Nat.le_of_ble_eq_true rfl⟩ dX7_startWith_46 (fun M46 h => ?_)
      obtain ⟨n49, en49⟩ : ∃ z : Int32, z = x2 + Int32.ofInt (1) := ⟨_, rfl⟩
      have h := h n49 en49
      refine gg_iinc (pc := 49) cx 1 [(2, .int n49), (0, .ref (gAd t 7 o0))] dX7_startWith_49 rfl en49.symm (by decide) rfl ?_
      refine gg_goto (pc := 52) cx (tgt := 31) dX7_startWith_52 (by decide) ?_
      refine gg_lv (lv' := [(0, .ref (gAd t 7 o0)), (2, .int n49)]) [1, 0] rfl ?_
      exact ih o0 n49 M46 v0 h
theorem cal_X7_startWith : g_Cal yX7_startWith cX7_startWith 3 (none) 1 := ⟨tw_5, tw_532, by decide, by decide, by decide +kernel⟩
theorem calv_X7_startWith : g_CalV yX7_startWith := ⟨tw_530, tw_531⟩
set_option maxRecDepth 100000 in
set_option maxHeartbeats 4000000 in
theorem ct_X7_startWith {l : Launch} (hl : l.stackTraces = false) {t : gT} (hC : g_hC t) {o0 : Nat} {o1 : Nat} (v0 : o0 < 5) (v1 : o1 < 6) {M : gM} {K : gM → Prop} (h : wp_X7_startWith o0 o1 M K) : Met l yX7_startWith (g_y yX7_startWith cX7_startWith 3 (none)) rm_X7_startWith (va_Pc [.ref (gAd t 7 o0), .ref (gAd t 5 o1)] (g_Pre t M)) (va_Qv K (g_B t) (g_A t)) rm_X7_startWith.cells rm_X7_startWith.slots (g_A t) := by
  refine g_met hl rfl (Nat.le_of_ble_eq_true rfl) (fun X hlX cx hQ => ?_)
  subst hlX
  refine gg_aload_n (pc := 0) cx 0 rfl dX7_startWith_0 rfl ?_
  refine gf_World_plan (pc := 1) cx (hC 7 _ rfl v0) tw_297 dX7_startWith_1 ?_
  refine gg_aload_n (pc := 4) cx 1 rfl dX7_startWith_4 rfl ?_
  refine gg_callVv (pc := 5) cx cal_X5_copyFrom calv_X5_copyFrom (ct_X5_copyFrom cx.tr hC (g_v56 v0) v1 h) tw_533 (hC 5 _ rfl (g_v56 v0)) rfl rfl rfl (st := []) rfl (Nat.le_of_ble_eq_true rfl) ⟨Nat.le_of_ble_eq_true rfl, Nat.le_of_ble_eq_true rfl⟩ ⟨Nat.le_of_ble_eq_true rfl, Nat.le_of_ble_eq_true rfl⟩ dX7_startWith_5 (fun M5 h => ?_)
  refine gg_aload_n (pc := 8) cx 0 rfl dX7_startWith_8 rfl ?_
  refine gg_lconst (pc := 9) cx (v := 0) dX7_startWith_9 (by decide) ?_
  refine gp_World_time (pc := 10) cx (hC 7 _ rfl v0) tw_293 dX7_startWith_10 ?_
  refine gg_mem (fun M10 eM10 => ?_)
  have h := h M10 eM10
  refine gg_aload_n (pc := 13) cx 0 rfl dX7_startWith_13 rfl ?_
  refine gf_World_packets (pc := 14) cx (hC 7 _ rfl v0) tw_301 dX7_startWith_14 ?_
  refine gg_iconst (pc := 17) cx (v := 0) dX7_startWith_17 (by decide) ?_
  refine gp_Packets_arrived (pc := 18) cx (hC 4 _ rfl v0) tw_159 dX7_startWith_18 ?_
  refine gg_mem (fun M18 eM18 => ?_)
  have h := h M18 eM18
  refine gg_aload_n (pc := 21) cx 0 rfl dX7_startWith_21 rfl ?_
  refine gf_World_line (pc := 22) cx (hC 7 _ rfl v0) tw_305 dX7_startWith_22 ?_
  refine gg_iconst (pc := 25) cx (v := 0) dX7_startWith_25 (by decide) ?_
  refine gp_Line_size (pc := 26) cx (hC 2 _ rfl v0) tw_235 dX7_startWith_26 ?_
  refine gg_mem (fun M26 eM26 => ?_)
  have h := h M26 eM26
  refine gg_iconst (pc := 29) cx (v := 0) dX7_startWith_29 (by decide) ?_
  refine gg_istore_n (pc := 30) cx [(2, .int 0), (0, .ref (gAd t 7 o0)), (1, .ref (gAd t 5 o1))] dX7_startWith_30 rfl (by decide) rfl ?_
  refine gg_lv (lv' := [(0, .ref (gAd t 7 o0)), (2, .int 0)]) [1, 0] rfl ?_
  obtain ⟨f31, h⟩ := h
  exact wk_X7_startWith_L31 cx hC hQ f31 o0 0 M26 v0 h
set_option maxRecDepth 100000 in
set_option maxHeartbeats 4000000 in
theorem wk_X6_takeTemplate_L7 {t : gT} {X : gX} (cx : g_Cx t X cX6_takeTemplate 3 RX6 (none)) (hC : g_hC t) {K : gM → Prop} (hQ : gXQ X = MQ (gXb X) (va_Qv K (g_B t) (g_A t)) (gXa X) (gXs X) rm_X6_takeTemplate.cells rm_X6_takeTemplate.slots (g_A t)) (f : Nat) : ∀ (o0 : Nat) (i1 : Nat) (x2 : Int32) (M : gM), o0 < 1 → wp_X6_takeTemplate_L7 K f o0 i1 x2 M → G t rm_X6_takeTemplate X 3 0 0 M [(0, .ref (gAd t 6 o0)), (1, .ref (gSK t i1)), (2, .int x2)] [] 7 := by
  induction f with
  | zero => intro _ _ _ _ _ _; exact False.elim (by assumption)
  | succ f ih =>
    intro o0 i1 x2 M v0 h
    refine gg_iload_n (pc := 7) cx 2 rfl dX6_takeTemplate_7 rfl ?_
    refine gg_aload_n (pc := 8) cx 1 rfl dX6_takeTemplate_8 rfl ?_
    refine gg_call_S_length (pc := 9) cx tw_342 (st := [.int x2]) dX6_takeTemplate_9 (Nat.le_of_ble_eq_true rfl) ⟨Nat.le_of_ble_eq_true rfl, Nat.le_of_ble_eq_true rfl⟩ ⟨Nat.le_of_ble_eq_true rfl, Nat.le_of_ble_eq_true rfl⟩ h (fun r9 M9 h => ?_)
    refine gg_icmp_ge (pc := 12) cx (tgt := 51) dX6_takeTemplate_12 (by decide) (fun c12 => ?_) (fun c12 => ?_)
    · have h := g_it c12 h
      exact gg_vret (pc := 51) cx hQ h dX6_takeTemplate_51
    · have h := g_if c12 h
      refine gg_iload_n (pc := 15) cx 2 rfl dX6_takeTemplate_15 rfl ?_
      refine gg_aload_n (pc := 16) cx 0 rfl dX6_takeTemplate_16 rfl ?_
      refine gf_Reader_signs (pc := 17) cx (hC 6 _ rfl v0) tw_100 dX6_takeTemplate_17 ?_
      refine gg_alen (pc := 20) cx (ca := 2) (v := 120) (hC 41 _ rfl v0) rfl rfl rfl dX6_takeTemplate_20 ?_
      refine gg_icmp_ge (pc := 21) cx (tgt := 51) dX6_takeTemplate_21 (by decide) (fun c21 => ?_) (fun c21 => ?_)
      · have h := g_it c21 h
        exact gg_vret (pc := 51) cx hQ h dX6_takeTemplate_51
      · have h := g_if c21 h
        refine gg_aload_n (pc := 24) cx 0 rfl dX6_takeTemplate_24 rfl ?_
        refine gf_Reader_signs (pc := 25) cx (hC 6 _ rfl v0) tw_100 dX6_takeTemplate_25 ?_
        refine gg_iload_n (pc := 28) cx 2 rfl dX6_takeTemplate_28 rfl ?_
        refine gg_aload_n (pc := 29) cx 1 rfl dX6_takeTemplate_29 rfl ?_
        refine gg_iload_n (pc := 30) cx 2 rfl dX6_takeTemplate_30 rfl ?_
        refine gg_call_S_charAt (pc := 31) cx tw_352 (st := [.int x2, .ref (gAd t 41 o0)]) dX6_takeTemplate_31 (Nat.le_of_ble_eq_true rfl) ⟨Nat.le_of_ble_eq_true rfl, Nat.le_of_ble_eq_true rfl⟩ ⟨Nat.le_of_ble_eq_true rfl, Nat.le_of_ble_eq_true rfl⟩ h (fun r31 M31 h => ?_)
        have q34 := h.1
        have h := h.2
        refine gg_cast (pc := 34) cx (hC 41 _ rfl v0) (fun _ _ => rfl) q34 dX6_takeTemplate_34 ?_
        refine gg_mem (fun M34 eM34 => ?_)
        have h := h M34 eM34
        refine gg_aload_n (pc := 35) cx 0 rfl dX6_takeTemplate_35 rfl ?_
        refine gg_dup (pc := 36) cx dX6_takeTemplate_36 rfl ?_
        refine gf_Reader_length (pc := 37) cx (hC 6 _ rfl v0) tw_101 dX6_takeTemplate_37 ?_
        refine gg_iconst (pc := 40) cx (v := 1) dX6_takeTemplate_40 (by decide) ?_
        refine gg_iadd (pc := 41) cx dX6_takeTemplate_41 ?_
        refine gp_Reader_length (pc := 42) cx (hC 6 _ rfl v0) tw_101 dX6_takeTemplate_42 ?_
        refine gg_mem (fun M42 eM42 => ?_)
        have h := h M42 eM42
        obtain ⟨n45, en45⟩ : ∃ z : Int32, z = x2 + Int32.ofInt (1) := ⟨_, rfl⟩
        have h := h n45 en45
        refine gg_iinc (pc := 45) cx 2 [(2, .int n45), (0, .ref (gAd t 6 o0)), (1, .ref (gSK t i1))] dX6_takeTemplate_45 rfl en45.symm (by decide) rfl ?_
        refine gg_goto (pc := 48) cx (tgt := 7) dX6_takeTemplate_48 (by decide) ?_
        refine gg_lv (lv' := [(0, .ref (gAd t 6 o0)), (1, .ref (gSK t i1)), (2, .int n45)]) [1, 2, 0] rfl ?_
        exact ih o0 i1 n45 M42 v0 h
theorem cal_X6_takeTemplate : g_Cal yX6_takeTemplate cX6_takeTemplate 3 (none) 1 := ⟨tw_2, tw_341, by decide, by decide, by decide +kernel⟩
theorem calv_X6_takeTemplate : g_CalV yX6_takeTemplate := ⟨tw_339, tw_340⟩
set_option maxRecDepth 100000 in
set_option maxHeartbeats 4000000 in
theorem ct_X6_takeTemplate {l : Launch} (hl : l.stackTraces = false) {t : gT} (hC : g_hC t) {o0 : Nat} {i1 : Nat} (v0 : o0 < 1) {M : gM} {K : gM → Prop} (h : wp_X6_takeTemplate o0 i1 M K) : Met l yX6_takeTemplate (g_y yX6_takeTemplate cX6_takeTemplate 3 (none)) rm_X6_takeTemplate (va_Pc [.ref (gAd t 6 o0), .ref (gSK t i1)] (g_Pre t M)) (va_Qv K (g_B t) (g_A t)) rm_X6_takeTemplate.cells rm_X6_takeTemplate.slots (g_A t) := by
  refine g_met hl rfl (Nat.le_of_ble_eq_true rfl) (fun X hlX cx hQ => ?_)
  subst hlX
  refine gg_aload_n (pc := 0) cx 0 rfl dX6_takeTemplate_0 rfl ?_
  refine gg_iconst (pc := 1) cx (v := 0) dX6_takeTemplate_1 (by decide) ?_
  refine gp_Reader_length (pc := 2) cx (hC 6 _ rfl v0) tw_101 dX6_takeTemplate_2 ?_
  refine gg_mem (fun M2 eM2 => ?_)
  have h := h M2 eM2
  refine gg_iconst (pc := 5) cx (v := 0) dX6_takeTemplate_5 (by decide) ?_
  refine gg_istore_n (pc := 6) cx [(2, .int 0), (0, .ref (gAd t 6 o0)), (1, .ref (gSK t i1))] dX6_takeTemplate_6 rfl (by decide) rfl ?_
  refine gg_lv (lv' := [(0, .ref (gAd t 6 o0)), (1, .ref (gSK t i1)), (2, .int 0)]) [1, 2, 0] rfl ?_
  obtain ⟨f7, h⟩ := h
  exact wk_X6_takeTemplate_L7 cx hC hQ f7 o0 i1 0 M2 v0 h
set_option maxRecDepth 100000 in
set_option maxHeartbeats 4000000 in
theorem wk_X7_countWaiting_L4 {t : gT} {X : gX} (cx : g_Cx t X cX7_countWaiting 3 RX7 (some .int)) (hC : g_hC t) {K : Int32 → gM → Prop} (hQ : gXQ X = MQ (gXb X) (va_Qi K (g_B t) (g_A t)) (gXa X) (gXs X) rm_X7_countWaiting.cells rm_X7_countWaiting.slots (g_A t)) (f : Nat) : ∀ (o0 : Nat) (x1 : Int32) (x2 : Int32) (M : gM), o0 < 5 → wp_X7_countWaiting_L4 K f o0 x1 x2 M → G t rm_X7_countWaiting X 3 0 0 M [(0, .ref (gAd t 7 o0)), (1, .int x1), (2, .int x2)] [] 4 := by
  induction f with
  | zero => intro _ _ _ _ _ _; exact False.elim (by assumption)
  | succ f ih =>
    intro o0 x1 x2 M v0 h
    refine gg_iload_n (pc := 4) cx 2 rfl dX7_countWaiting_4 rfl ?_
    refine gg_aload_n (pc := 5) cx 0 rfl dX7_countWaiting_5 rfl ?_
    refine gf_World_nodes (pc := 6) cx (hC 7 _ rfl v0) tw_299 dX7_countWaiting_6 ?_
    refine gg_alen (pc := 9) cx (ca := 3) (v := 12) (hC 43 _ rfl v0) rfl rfl rfl dX7_countWaiting_9 ?_
    refine gg_icmp_ge (pc := 10) cx (tgt := 42) dX7_countWaiting_10 (by decide) (fun c10 => ?_) (fun c10 => ?_)
    · have h := g_it c10 h
      refine gg_iload_n (pc := 42) cx 1 rfl dX7_countWaiting_42 rfl ?_
      exact gg_iret (pc := 43) cx hQ h dX7_countWaiting_43
    · have h := g_if c10 h
      refine gg_aload_n (pc := 13) cx 0 rfl dX7_countWaiting_13 rfl ?_
      refine gf_World_plan (pc := 14) cx (hC 7 _ rfl v0) tw_297 dX7_countWaiting_14 ?_
      refine gg_iload_n (pc := 17) cx 2 rfl dX7_countWaiting_17 rfl ?_
      refine gg_callVi (pc := 18) cx cal_X5_isLeaf calv_X5_isLeaf (ct_X5_isLeaf cx.tr hC (g_v56 v0) h) tw_620 (hC 5 _ rfl (g_v56 v0)) rfl rfl rfl (st := []) rfl (Nat.le_of_ble_eq_true rfl) ⟨Nat.le_of_ble_eq_true rfl, Nat.le_of_ble_eq_true rfl⟩ ⟨Nat.le_of_ble_eq_true rfl, Nat.le_of_ble_eq_true rfl⟩ dX7_countWaiting_18 (fun r18 M18 h => ?_)
      refine gg_if_eq (pc := 21) cx (tgt := 36) dX7_countWaiting_21 (by decide) (fun c21 => ?_) (fun c21 => ?_)
      · have h := g_it c21 h
        obtain ⟨n36, en36⟩ : ∃ z : Int32, z = x2 + Int32.ofInt (1) := ⟨_, rfl⟩
        have h := h n36 en36
        refine gg_iinc (pc := 36) cx 2 [(2, .int n36), (0, .ref (gAd t 7 o0)), (1, .int x1)] dX7_countWaiting_36 rfl en36.symm (by decide) rfl ?_
        refine gg_goto (pc := 39) cx (tgt := 4) dX7_countWaiting_39 (by decide) ?_
        refine gg_lv (lv' := [(0, .ref (gAd t 7 o0)), (1, .int x1), (2, .int n36)]) [1, 2, 0] rfl ?_
        exact ih o0 x1 n36 M18 v0 h
      · have h := g_if c21 h
        refine gg_iload_n (pc := 24) cx 1 rfl dX7_countWaiting_24 rfl ?_
        refine gg_aload_n (pc := 25) cx 0 rfl dX7_countWaiting_25 rfl ?_
        refine gf_World_nodes (pc := 26) cx (hC 7 _ rfl v0) tw_299 dX7_countWaiting_26 ?_
        refine gg_iload_n (pc := 29) cx 2 rfl dX7_countWaiting_29 rfl ?_
        have q30 := h.1
        have h := h.2
        refine gg_aald (pc := 30) cx (ca := 3) (hC 43 _ rfl v0) rfl rfl q30 rfl dX7_countWaiting_30 ?_
        refine gf_Node_size (pc := 31) cx (hC 3 _ rfl (g_vN v0 q30)) tw_269 dX7_countWaiting_31 ?_
        refine gg_iadd (pc := 34) cx dX7_countWaiting_34 ?_
        refine gg_topi (fun n35 en35 => ?_)
        have h := h n35 en35
        refine gg_istore_n (pc := 35) cx [(1, .int n35), (0, .ref (gAd t 7 o0)), (2, .int x2)] dX7_countWaiting_35 rfl (by decide) rfl ?_
        obtain ⟨n36, en36⟩ : ∃ z : Int32, z = x2 + Int32.ofInt (1) := ⟨_, rfl⟩
        have h := h n36 en36
        refine gg_iinc (pc := 36) cx 2 [(2, .int n36), (1, .int n35), (0, .ref (gAd t 7 o0))] dX7_countWaiting_36 rfl en36.symm (by decide) rfl ?_
        refine gg_goto (pc := 39) cx (tgt := 4) dX7_countWaiting_39 (by decide) ?_
        refine gg_lv (lv' := [(0, .ref (gAd t 7 o0)), (1, .int n35), (2, .int n36)]) [2, 1, 0] rfl ?_
        exact ih o0 n35 n36 M18 v0 h
theorem cal_X7_countWaiting : g_Cal yX7_countWaiting cX7_countWaiting 3 (some .int) 0 := ⟨tw_5, tw_744, by decide, by decide, by decide +kernel⟩
theorem calv_X7_countWaiting : g_CalV yX7_countWaiting := ⟨tw_742, tw_743⟩
set_option maxRecDepth 100000 in
set_option maxHeartbeats 4000000 in
theorem ct_X7_countWaiting {l : Launch} (hl : l.stackTraces = false) {t : gT} (hC : g_hC t) {o0 : Nat} (v0 : o0 < 5) {M : gM} {K : Int32 → gM → Prop} (h : wp_X7_countWaiting o0 M K) : Met l yX7_countWaiting (g_y yX7_countWaiting cX7_countWaiting 3 (some .int)) rm_X7_countWaiting (va_Pc [.ref (gAd t 7 o0)] (g_Pre t M)) (va_Qi K (g_B t) (g_A t)) rm_X7_countWaiting.cells rm_X7_countWaiting.slots (g_A t) := by
  refine g_met hl rfl (Nat.le_of_ble_eq_true rfl) (fun X hlX cx hQ => ?_)
  subst hlX
  refine gg_iconst (pc := 0) cx (v := 0) dX7_countWaiting_0 (by decide) ?_
  refine gg_istore_n (pc := 1) cx [(1, .int 0), (0, .ref (gAd t 7 o0))] dX7_countWaiting_1 rfl (by decide) rfl ?_
  refine gg_iconst (pc := 2) cx (v := 0) dX7_countWaiting_2 (by decide) ?_
  refine gg_istore_n (pc := 3) cx [(2, .int 0), (1, .int 0), (0, .ref (gAd t 7 o0))] dX7_countWaiting_3 rfl (by decide) rfl ?_
  refine gg_lv (lv' := [(0, .ref (gAd t 7 o0)), (1, .int 0), (2, .int 0)]) [2, 1, 0] rfl ?_
  obtain ⟨f4, h⟩ := h
  exact wk_X7_countWaiting_L4 cx hC hQ f4 o0 0 0 M v0 h
set_option maxRecDepth 100000 in
set_option maxHeartbeats 4000000 in
theorem wk_X7_leafFor_b23 {t : gT} {X : gX} (cx : g_Cx t X cX7_leafFor 3 RX7 (some .int)) (hC : g_hC t) {K : Int32 → gM → Prop} (hQ : gXQ X = MQ (gXb X) (va_Qi K (g_B t) (g_A t)) (gXa X) (gXs X) rm_X7_leafFor.cells rm_X7_leafFor.slots (g_A t)) {o0 : Nat} {xs0 : Int32} {M : gM} (v0 : o0 < 5) (h : wp_X7_leafFor_b23 K o0 xs0 M) : G t rm_X7_leafFor X 3 0 0 M [(0, .ref (gAd t 7 o0))] [.int xs0] 23 := by
  refine gg_istore_n (pc := 23) cx [(2, .int xs0), (0, .ref (gAd t 7 o0))] dX7_leafFor_23 rfl (by decide) rfl ?_
  refine gg_aload_n (pc := 24) cx 1 rfl dX7_leafFor_24 rfl ?_
  refine gf_World_plan (pc := 25) cx (hC 7 _ rfl v0) tw_297 dX7_leafFor_25 ?_
  refine gg_iload_n (pc := 28) cx 0 rfl dX7_leafFor_28 rfl ?_
  refine gg_callVi (pc := 29) cx cal_X5_hasNode calv_X5_hasNode (ct_X5_hasNode cx.tr hC (g_v56 v0) h) tw_614 (hC 5 _ rfl (g_v56 v0)) rfl rfl rfl (st := []) rfl (Nat.le_of_ble_eq_true rfl) ⟨Nat.le_of_ble_eq_true rfl, Nat.le_of_ble_eq_true rfl⟩ ⟨Nat.le_of_ble_eq_true rfl, Nat.le_of_ble_eq_true rfl⟩ dX7_leafFor_29 (fun r29 M29 h => ?_)
  refine gg_if_eq (pc := 32) cx (tgt := 39) dX7_leafFor_32 (by decide) (fun c32 => ?_) (fun c32 => ?_)
  · have h := g_it c32 h
    refine gg_iconst (pc := 39) cx (v := 0) dX7_leafFor_39 (by decide) ?_
    exact gg_iret (pc := 40) cx hQ h dX7_leafFor_40
  · have h := g_if c32 h
    refine gg_iload_n (pc := 35) cx 0 rfl dX7_leafFor_35 rfl ?_
    refine gg_goto (pc := 36) cx (tgt := 40) dX7_leafFor_36 (by decide) ?_
    exact gg_iret (pc := 40) cx hQ h dX7_leafFor_40
set_option maxRecDepth 100000 in
set_option maxHeartbeats 4000000 in
theorem wk_X7_leafFor_b22 {t : gT} {X : gX} (cx : g_Cx t X cX7_leafFor 3 RX7 (some .int)) (hC : g_hC t) {K : Int32 → gM → Prop} (hQ : gXQ X = MQ (gXb X) (va_Qi K (g_B t) (g_A t)) (gXa X) (gXs X) rm_X7_leafFor.cells rm_X7_leafFor.slots (g_A t)) {o0 : Nat} {M : gM} (v0 : o0 < 5) (h : wp_X7_leafFor_b22 K o0 M) : G t rm_X7_leafFor X 3 0 0 M [(0, .ref (gAd t 7 o0))] [] 22 := by
  refine gg_iconst (pc := 22) cx (v := 0) dX7_leafFor_22 (by decide) ?_
  exact wk_X7_leafFor_b23 cx hC hQ v0 h
theorem cal_X7_leafFor : g_Cal yX7_leafFor cX7_leafFor 3 (some .int) 1 := ⟨tw_5, tw_982, by decide, by decide, by decide +kernel⟩
theorem calv_X7_leafFor : g_CalV yX7_leafFor := ⟨tw_981, ts_21⟩
set_option maxRecDepth 100000 in
set_option maxHeartbeats 4000000 in
theorem ct_X7_leafFor {l : Launch} (hl : l.stackTraces = false) {t : gT} (hC : g_hC t) {o0 : Nat} {x1 : Int32} (v0 : o0 < 5) {M : gM} {K : Int32 → gM → Prop} (h : wp_X7_leafFor o0 x1 M K) : Met l yX7_leafFor (g_y yX7_leafFor cX7_leafFor 3 (some .int)) rm_X7_leafFor (va_Pc [.ref (gAd t 7 o0), .int x1] (g_Pre t M)) (va_Qi K (g_B t) (g_A t)) rm_X7_leafFor.cells rm_X7_leafFor.slots (g_A t) := by
  refine g_met hl rfl (Nat.le_of_ble_eq_true rfl) (fun X hlX cx hQ => ?_)
  subst hlX
  refine gg_iload_n (pc := 0) cx 1 rfl dX7_leafFor_0 rfl ?_
  refine gg_if_lt (pc := 1) cx (tgt := 22) dX7_leafFor_1 (by decide) (fun c1 => ?_) (fun c1 => ?_)
  · have h := g_it c1 h
    refine gg_lv (lv' := [(0, .ref (gAd t 7 o0))]) [0] rfl ?_
    exact wk_X7_leafFor_b22 cx hC hQ v0 h
  · have h := g_if c1 h
    refine gg_iload_n (pc := 4) cx 1 rfl dX7_leafFor_4 rfl ?_
    refine gg_bipush (pc := 5) cx (v := 16) dX7_leafFor_5 (by decide) ?_
    refine gg_icmp_ge (pc := 7) cx (tgt := 22) dX7_leafFor_7 (by decide) (fun c7 => ?_) (fun c7 => ?_)
    · have h := g_it c7 h
      refine gg_lv (lv' := [(0, .ref (gAd t 7 o0))]) [0] rfl ?_
      exact wk_X7_leafFor_b22 cx hC hQ v0 h
    · have h := g_if c7 h
      refine gg_aload_n (pc := 10) cx 0 rfl dX7_leafFor_10 rfl ?_
      refine gf_World_flows (pc := 11) cx (hC 7 _ rfl v0) tw_303 dX7_leafFor_11 ?_
      refine gf_Flows_leaf (pc := 14) cx (hC 1 _ rfl v0) tw_201 dX7_leafFor_14 ?_
      refine gg_iload_n (pc := 17) cx 1 rfl dX7_leafFor_17 rfl ?_
      have q18 := h.1
      have h := h.2
      refine gg_iald (pc := 18) cx (hC 13 _ rfl v0) rfl q18 dX7_leafFor_18 ?_
      refine gg_goto (pc := 19) cx (tgt := 23) dX7_leafFor_19 (by decide) ?_
      refine gg_lv (lv' := [(0, .ref (gAd t 7 o0))]) [0] rfl ?_
      exact wk_X7_leafFor_b23 cx hC hQ v0 h
set_option maxRecDepth 100000 in
set_option maxHeartbeats 4000000 in
theorem wk_X7_lookAround_b54 {t : gT} {X : gX} (cx : g_Cx t X cX7_lookAround 7 RX7 (some .boolean)) (hC : g_hC t) {K : Int32 → gM → Prop} (hQ : gXQ X = MQ (gXb X) (va_Qi K (g_B t) (g_A t)) (gXa X) (gXs X) rm_X7_lookAround.cells rm_X7_lookAround.slots (g_A t)) {o0 : Nat} {x2 : Int32} {y3 : Int64} {o5 : Nat} {xs0 : Int32} {M : gM} (v0 : o0 < 5) (v5 : o5 < 60) (h : wp_X7_lookAround_b54 K o0 x2 y3 o5 xs0 M) : G t rm_X7_lookAround X 7 0 0 M [(0, .ref (gAd t 7 o0)), (2, .int x2), (3, .long y3), (5, .ref (gAd t 3 o5))] [.int xs0] 54 := by
  refine gg_istore (pc := 54) cx [(6, .int xs0), (0, .ref (gAd t 7 o0)), (2, .int x2), (3, .long y3), (5, .ref (gAd t 3 o5))] dX7_lookAround_54 (by decide) rfl ?_
  refine gg_aload_n (pc := 56) cx 1 rfl dX7_lookAround_56 rfl ?_
  refine gf_World_calculator (pc := 57) cx (hC 7 _ rfl v0) tw_307 dX7_lookAround_57 ?_
  refine gg_iload_n (pc := 60) cx 2 rfl dX7_lookAround_60 rfl ?_
  refine gg_i2l (pc := 61) cx dX7_lookAround_61 ?_
  refine gg_iload (pc := 62) cx 0 rfl dX7_lookAround_62 ?_
  refine gg_i2l (pc := 64) cx dX7_lookAround_64 ?_
  refine gg_aload (pc := 65) cx 4 rfl dX7_lookAround_65 ?_
  refine gf_Node_states (pc := 67) cx (hC 3 _ rfl v5) tw_266 dX7_lookAround_67 ?_
  refine gg_iload_n (pc := 70) cx 2 rfl dX7_lookAround_70 rfl ?_
  have q71 := h.1
  have h := h.2
  refine gg_lald (pc := 71) cx (hC 22 _ rfl v5) rfl q71 dX7_lookAround_71 ?_
  refine gg_callVv (pc := 72) cx cal_X0_setClass calv_X0_setClass (ct_X0_setClass cx.tr hC (Nat.le_of_ble_eq_true rfl) h) tw_683 (hC 0 _ rfl (Nat.le_of_ble_eq_true rfl)) rfl rfl rfl (st := []) rfl (Nat.le_of_ble_eq_true rfl) ⟨Nat.le_of_ble_eq_true rfl, Nat.le_of_ble_eq_true rfl⟩ ⟨Nat.le_of_ble_eq_true rfl, Nat.le_of_ble_eq_true rfl⟩ dX7_lookAround_72 (fun M72 h => ?_)
  refine gg_aload_n (pc := 75) cx 1 rfl dX7_lookAround_75 rfl ?_
  refine gf_World_calculator (pc := 76) cx (hC 7 _ rfl v0) tw_307 dX7_lookAround_76 ?_
  refine gg_lload_n (pc := 79) cx 3 rfl dX7_lookAround_79 rfl ?_
  refine gg_aload (pc := 80) cx 4 rfl dX7_lookAround_80 ?_
  refine gf_Node_virtual (pc := 82) cx (hC 3 _ rfl v5) tw_261 dX7_lookAround_82 ?_
  refine gg_aload (pc := 85) cx 4 rfl dX7_lookAround_85 ?_
  refine gf_Node_size (pc := 87) cx (hC 3 _ rfl v5) tw_269 dX7_lookAround_87 ?_
  refine gg_i2l (pc := 90) cx dX7_lookAround_90 ?_
  refine gg_callVv (pc := 91) cx cal_X0_setMoment calv_X0_setMoment (ct_X0_setMoment cx.tr hC (Nat.le_of_ble_eq_true rfl) h) tw_687 (hC 0 _ rfl (Nat.le_of_ble_eq_true rfl)) rfl rfl rfl (st := []) rfl (Nat.le_of_ble_eq_true rfl) ⟨Nat.le_of_ble_eq_true rfl, Nat.le_of_ble_eq_true rfl⟩ ⟨Nat.le_of_ble_eq_true rfl, Nat.le_of_ble_eq_true rfl⟩ dX7_lookAround_91 (fun M91 h => ?_)
  refine gg_iconst (pc := 94) cx (v := 1) dX7_lookAround_94 (by decide) ?_
  exact gg_zret (pc := 95) cx hQ rfl h dX7_lookAround_95
theorem cal_X7_lookAround : g_Cal yX7_lookAround cX7_lookAround 7 (some .boolean) 3 := ⟨tw_5, tw_678, by decide, by decide, by decide +kernel⟩
theorem calv_X7_lookAround : g_CalV yX7_lookAround := ⟨tw_677, ts_16⟩
set_option maxRecDepth 100000 in
set_option maxHeartbeats 4000000 in
theorem ct_X7_lookAround {l : Launch} (hl : l.stackTraces = false) {t : gT} (hC : g_hC t) {o0 : Nat} {x1 : Int32} {x2 : Int32} {y3 : Int64} (v0 : o0 < 5) {M : gM} {K : Int32 → gM → Prop} (h : wp_X7_lookAround o0 x1 x2 y3 M K) : Met l yX7_lookAround (g_y yX7_lookAround cX7_lookAround 7 (some .boolean)) rm_X7_lookAround (va_Pc [.ref (gAd t 7 o0), .int x1, .int x2, .long y3] (g_Pre t M)) (va_Qi K (g_B t) (g_A t)) rm_X7_lookAround.cells rm_X7_lookAround.slots (g_A t) := by
  refine g_met hl rfl (Nat.le_of_ble_eq_true rfl) (fun X hlX cx hQ => ?_)
  subst hlX
  refine gg_aload_n (pc := 0) cx 0 rfl dX7_lookAround_0 rfl ?_
  refine gf_World_plan (pc := 1) cx (hC 7 _ rfl v0) tw_297 dX7_lookAround_1 ?_
  refine gg_iload_n (pc := 4) cx 1 rfl dX7_lookAround_4 rfl ?_
  refine gg_iload_n (pc := 5) cx 2 rfl dX7_lookAround_5 rfl ?_
  refine gg_callVi (pc := 6) cx cal_X5_hasClass calv_X5_hasClass (ct_X5_hasClass cx.tr hC (g_v56 v0) h) tw_679 (hC 5 _ rfl (g_v56 v0)) rfl rfl rfl (st := []) rfl (Nat.le_of_ble_eq_true rfl) ⟨Nat.le_of_ble_eq_true rfl, Nat.le_of_ble_eq_true rfl⟩ ⟨Nat.le_of_ble_eq_true rfl, Nat.le_of_ble_eq_true rfl⟩ dX7_lookAround_6 (fun r6 M6 h => ?_)
  refine gg_if_ne (pc := 9) cx (tgt := 14) dX7_lookAround_9 (by decide) (fun c9 => ?_) (fun c9 => ?_)
  · have h := g_if c9 h
    refine gg_aload_n (pc := 14) cx 0 rfl dX7_lookAround_14 rfl ?_
    refine gf_World_nodes (pc := 15) cx (hC 7 _ rfl v0) tw_299 dX7_lookAround_15 ?_
    refine gg_iload_n (pc := 18) cx 1 rfl dX7_lookAround_18 rfl ?_
    have q19 := h.1
    have h := h.2
    refine gg_aald (pc := 19) cx (ca := 3) (hC 43 _ rfl v0) rfl rfl q19 rfl dX7_lookAround_19 ?_
    refine gg_astore (pc := 20) cx [(5, .ref (gAd t 3 (12 * o0 + x1.toNatClampNeg))), (0, .ref (gAd t 7 o0)), (1, .int x1), (2, .int x2), (3, .long y3)] dX7_lookAround_20 (by decide) rfl ?_
    refine gg_aload_n (pc := 22) cx 1 rfl dX7_lookAround_22 rfl ?_
    refine gf_World_plan (pc := 23) cx (hC 7 _ rfl v0) tw_297 dX7_lookAround_23 ?_
    refine gg_iload_n (pc := 26) cx 2 rfl dX7_lookAround_26 rfl ?_
    refine gg_callVi (pc := 27) cx cal_X5_isLeaf calv_X5_isLeaf (ct_X5_isLeaf cx.tr hC (g_v56 v0) h) tw_620 (hC 5 _ rfl (g_v56 v0)) rfl rfl rfl (st := []) rfl (Nat.le_of_ble_eq_true rfl) ⟨Nat.le_of_ble_eq_true rfl, Nat.le_of_ble_eq_true rfl⟩ ⟨Nat.le_of_ble_eq_true rfl, Nat.le_of_ble_eq_true rfl⟩ dX7_lookAround_27 (fun r27 M27 h => ?_)
    refine gg_if_eq (pc := 30) cx (tgt := 45) dX7_lookAround_30 (by decide) (fun c30 => ?_) (fun c30 => ?_)
    · have h := g_it c30 h
      refine gg_aload_n (pc := 45) cx 1 rfl dX7_lookAround_45 rfl ?_
      refine gf_World_nodes (pc := 46) cx (hC 7 _ rfl v0) tw_299 dX7_lookAround_46 ?_
      refine gg_iload_n (pc := 49) cx 3 rfl dX7_lookAround_49 rfl ?_
      have q50 := h.1
      have h := h.2
      refine gg_aald (pc := 50) cx (ca := 3) (hC 43 _ rfl v0) rfl rfl q50 rfl dX7_lookAround_50 ?_
      refine gf_Node_weight (pc := 51) cx (hC 3 _ rfl (g_vN v0 q50)) tw_258 dX7_lookAround_51 ?_
      refine gg_lv (lv' := [(0, .ref (gAd t 7 o0)), (2, .int x2), (3, .long y3), (5, .ref (gAd t 3 (12 * o0 + x1.toNatClampNeg)))]) [1, 3, 4, 0] rfl ?_
      exact wk_X7_lookAround_b54 cx hC hQ v0 (g_vN v0 q19) h
    · have h := g_if c30 h
      refine gg_aload_n (pc := 33) cx 1 rfl dX7_lookAround_33 rfl ?_
      refine gf_World_flows (pc := 34) cx (hC 7 _ rfl v0) tw_303 dX7_lookAround_34 ?_
      refine gf_Flows_weight (pc := 37) cx (hC 1 _ rfl v0) tw_198 dX7_lookAround_37 ?_
      refine gg_iload_n (pc := 40) cx 3 rfl dX7_lookAround_40 rfl ?_
      have q41 := h.1
      have h := h.2
      refine gg_iald (pc := 41) cx (hC 12 _ rfl v0) rfl q41 dX7_lookAround_41 ?_
      refine gg_goto (pc := 42) cx (tgt := 54) dX7_lookAround_42 (by decide) ?_
      refine gg_lv (lv' := [(0, .ref (gAd t 7 o0)), (2, .int x2), (3, .long y3), (5, .ref (gAd t 3 (12 * o0 + x1.toNatClampNeg)))]) [1, 3, 4, 0] rfl ?_
      exact wk_X7_lookAround_b54 cx hC hQ v0 (g_vN v0 q19) h
  · have h := g_it c9 h
    refine gg_iconst (pc := 12) cx (v := 0) dX7_lookAround_12 (by decide) ?_
    exact gg_zret (pc := 13) cx hQ rfl h dX7_lookAround_13
set_option maxRecDepth 100000 in
set_option maxHeartbeats 4000000 in
theorem wk_X7_enter_b193 {t : gT} {X : gX} (cx : g_Cx t X cX7_enter 13 RX7 (none)) (hC : g_hC t) {K : gM → Prop} (hQ : gXQ X = MQ (gXb X) (va_Qv K (g_B t) (g_A t)) (gXa X) (gXs X) rm_X7_enter.cells rm_X7_enter.slots (g_A t)) {os0 : Nat} {xs1 : Int32} {ys2 : Int64} {xs3 : Int32} {xs4 : Int32} {M : gM} (vs0 : os0 < 60) (h : wp_X7_enter_b193 K os0 xs1 ys2 xs3 xs4 M) : G t rm_X7_enter X 13 0 0 M [] [.int xs4, .int xs3, .long ys2, .int xs1, .ref (gAd t 3 os0)] 193 := by
  refine gg_callVv (pc := 193) cx cal_X3_insert calv_X3_insert (ct_X3_insert cx.tr hC vs0 h) tw_702 (hC 3 _ rfl vs0) rfl rfl rfl (st := []) rfl (Nat.le_of_ble_eq_true rfl) ⟨Nat.le_of_ble_eq_true rfl, Nat.le_of_ble_eq_true rfl⟩ ⟨Nat.le_of_ble_eq_true rfl, Nat.le_of_ble_eq_true rfl⟩ dX7_enter_193 (fun M193 h => ?_)
  exact gg_vret (pc := 196) cx hQ h dX7_enter_196
set_option maxRecDepth 100000 in
set_option maxHeartbeats 4000000 in
theorem wk_X7_enter_b169 {t : gT} {X : gX} (cx : g_Cx t X cX7_enter 13 RX7 (none)) (hC : g_hC t) {K : gM → Prop} (hQ : gXQ X = MQ (gXb X) (va_Qv K (g_B t) (g_A t)) (gXa X) (gXs X) rm_X7_enter.cells rm_X7_enter.slots (g_A t)) {o0 : Nat} {x1 : Int32} {x2 : Int32} {y9 : Int64} {x11 : Int32} {xs0 : Int32} {M : gM} (v0 : o0 < 5) (h : wp_X7_enter_b169 K o0 x1 x2 y9 x11 xs0 M) : G t rm_X7_enter X 13 0 0 M [(0, .ref (gAd t 7 o0)), (1, .int x1), (2, .int x2), (9, .long y9), (11, .int x11)] [.int xs0] 169 := by
  refine gg_istore (pc := 169) cx [(12, .int xs0), (0, .ref (gAd t 7 o0)), (1, .int x1), (2, .int x2), (9, .long y9), (11, .int x11)] dX7_enter_169 (by decide) rfl ?_
  refine gg_aload_n (pc := 171) cx 1 rfl dX7_enter_171 rfl ?_
  refine gf_World_nodes (pc := 172) cx (hC 7 _ rfl v0) tw_299 dX7_enter_172 ?_
  refine gg_iload_n (pc := 175) cx 2 rfl dX7_enter_175 rfl ?_
  have q176 := h.1
  have h := h.2
  refine gg_aald (pc := 176) cx (ca := 3) (hC 43 _ rfl v0) rfl rfl q176 rfl dX7_enter_176 ?_
  refine gg_iload_n (pc := 177) cx 3 rfl dX7_enter_177 rfl ?_
  refine gg_lload (pc := 178) cx 4 rfl dX7_enter_178 ?_
  refine gg_iload (pc := 180) cx 0 rfl dX7_enter_180 ?_
  refine gg_iload (pc := 182) cx 5 rfl dX7_enter_182 ?_
  refine gg_iconst (pc := 184) cx (v := 1) dX7_enter_184 (by decide) ?_
  refine gg_icmp_ne (pc := 185) cx (tgt := 192) dX7_enter_185 (by decide) (fun c185 => ?_) (fun c185 => ?_)
  · have h := g_if c185 h
    refine gg_iconst (pc := 192) cx (v := 0) dX7_enter_192 (by decide) ?_
    refine gg_lv (lv' := []) [] rfl ?_
    exact wk_X7_enter_b193 cx hC hQ (g_vN v0 q176) h
  · have h := g_it c185 h
    refine gg_iconst (pc := 188) cx (v := 1) dX7_enter_188 (by decide) ?_
    refine gg_goto (pc := 189) cx (tgt := 193) dX7_enter_189 (by decide) ?_
    refine gg_lv (lv' := []) [] rfl ?_
    exact wk_X7_enter_b193 cx hC hQ (g_vN v0 q176) h
set_option maxRecDepth 100000 in
set_option maxHeartbeats 4000000 in
theorem wk_X7_enter_b128 {t : gT} {X : gX} (cx : g_Cx t X cX7_enter 13 RX7 (none)) (hC : g_hC t) {K : gM → Prop} (hQ : gXQ X = MQ (gXb X) (va_Qv K (g_B t) (g_A t)) (gXa X) (gXs X) rm_X7_enter.cells rm_X7_enter.slots (g_A t)) {o0 : Nat} {x1 : Int32} {x2 : Int32} {x3 : Int32} {x6 : Int32} {y9 : Int64} {M : gM} (v0 : o0 < 5) (h : wp_X7_enter_b128 K o0 x1 x2 x3 x6 y9 M) : G t rm_X7_enter X 13 0 0 M [(0, .ref (gAd t 7 o0)), (1, .int x1), (2, .int x2), (3, .int x3), (6, .int x6), (9, .long y9)] [] 128 := by
  refine gg_aload_n (pc := 128) cx 0 rfl dX7_enter_128 rfl ?_
  refine gf_World_plan (pc := 129) cx (hC 7 _ rfl v0) tw_297 dX7_enter_129 ?_
  refine gf_Plan_tie (pc := 132) cx (hC 5 _ rfl (g_v56 v0)) tw_52 dX7_enter_132 ?_
  refine gg_iload_n (pc := 135) cx 1 rfl dX7_enter_135 rfl ?_
  have q136 := h.1
  have h := h.2
  refine gg_iald (pc := 136) cx (hC 34 _ rfl (g_v56 v0)) rfl q136 dX7_enter_136 ?_
  refine gg_topi (fun n137 en137 => ?_)
  have h := h n137 en137
  refine gg_istore (pc := 137) cx [(11, .int n137), (0, .ref (gAd t 7 o0)), (1, .int x1), (2, .int x2), (3, .int x3), (6, .int x6), (9, .long y9)] dX7_enter_137 (by decide) rfl ?_
  refine gg_iload (pc := 139) cx 0 rfl dX7_enter_139 ?_
  refine gg_iconst (pc := 141) cx (v := 2) dX7_enter_141 (by decide) ?_
  refine gg_icmp_ne (pc := 142) cx (tgt := 157) dX7_enter_142 (by decide) (fun c142 => ?_) (fun c142 => ?_)
  · have h := g_if c142 h
    refine gg_iload (pc := 157) cx 0 rfl dX7_enter_157 ?_
    refine gg_iconst (pc := 159) cx (v := 3) dX7_enter_159 (by decide) ?_
    refine gg_icmp_ne (pc := 160) cx (tgt := 168) dX7_enter_160 (by decide) (fun c160 => ?_) (fun c160 => ?_)
    · have h := g_if c160 h
      refine gg_iconst (pc := 168) cx (v := 0) dX7_enter_168 (by decide) ?_
      refine gg_lv (lv' := [(0, .ref (gAd t 7 o0)), (1, .int x1), (2, .int x2), (9, .long y9), (11, .int n137)]) [1, 2, 3, 6, 0] rfl ?_
      exact wk_X7_enter_b169 cx hC hQ v0 h
    · have h := g_it c160 h
      refine gg_iload (pc := 163) cx 5 rfl dX7_enter_163 ?_
      refine gg_goto (pc := 165) cx (tgt := 169) dX7_enter_165 (by decide) ?_
      refine gg_lv (lv' := [(0, .ref (gAd t 7 o0)), (1, .int x1), (2, .int x2), (9, .long y9), (11, .int n137)]) [1, 2, 3, 6, 0] rfl ?_
      exact wk_X7_enter_b169 cx hC hQ v0 h
  · have h := g_it c142 h
    refine gg_aload_n (pc := 145) cx 1 rfl dX7_enter_145 rfl ?_
    refine gf_World_packets (pc := 146) cx (hC 7 _ rfl v0) tw_301 dX7_enter_146 ?_
    refine gf_Packets_length (pc := 149) cx (hC 4 _ rfl v0) tw_165 dX7_enter_149 ?_
    refine gg_iload_n (pc := 152) cx 4 rfl dX7_enter_152 rfl ?_
    have q153 := h.1
    have h := h.2
    refine gg_iald (pc := 153) cx (hC 27 _ rfl v0) rfl q153 dX7_enter_153 ?_
    refine gg_goto (pc := 154) cx (tgt := 169) dX7_enter_154 (by decide) ?_
    refine gg_lv (lv' := [(0, .ref (gAd t 7 o0)), (1, .int x1), (2, .int x2), (9, .long y9), (11, .int n137)]) [1, 2, 3, 6, 0] rfl ?_
    exact wk_X7_enter_b169 cx hC hQ v0 h
set_option maxRecDepth 100000 in
set_option maxHeartbeats 4000000 in
theorem wk_X7_enter_b24 {t : gT} {X : gX} (cx : g_Cx t X cX7_enter 13 RX7 (none)) (hC : g_hC t) {K : gM → Prop} (hQ : gXQ X = MQ (gXb X) (va_Qv K (g_B t) (g_A t)) (gXa X) (gXs X) rm_X7_enter.cells rm_X7_enter.slots (g_A t)) {o0 : Nat} {x1 : Int32} {x2 : Int32} {x3 : Int32} {y4 : Int64} {xs0 : Int32} {M : gM} (v0 : o0 < 5) (h : wp_X7_enter_b24 K o0 x1 x2 x3 y4 xs0 M) : G t rm_X7_enter X 13 0 0 M [(0, .ref (gAd t 7 o0)), (1, .int x1), (2, .int x2), (3, .int x3), (4, .long y4)] [.int xs0] 24 := by
  refine gg_istore (pc := 24) cx [(6, .int xs0), (0, .ref (gAd t 7 o0)), (1, .int x1), (2, .int x2), (3, .int x3), (4, .long y4)] dX7_enter_24 (by decide) rfl ?_
  refine gg_aload_n (pc := 26) cx 1 rfl dX7_enter_26 rfl ?_
  refine gg_iload_n (pc := 27) cx 2 rfl dX7_enter_27 rfl ?_
  refine gg_iload (pc := 28) cx 0 rfl dX7_enter_28 ?_
  refine gg_lload (pc := 30) cx 5 rfl dX7_enter_30 ?_
  refine gg_callVi (pc := 32) cx cal_X7_lookAround calv_X7_lookAround (ct_X7_lookAround cx.tr hC v0 h) tw_675 (hC 7 _ rfl v0) rfl rfl rfl (st := []) rfl (Nat.le_of_ble_eq_true rfl) ⟨Nat.le_of_ble_eq_true rfl, Nat.le_of_ble_eq_true rfl⟩ ⟨Nat.le_of_ble_eq_true rfl, Nat.le_of_ble_eq_true rfl⟩ dX7_enter_32 (fun r32 M32 h => ?_)
  refine gg_if_ne (pc := 35) cx (tgt := 39) dX7_enter_35 (by decide) (fun c35 => ?_) (fun c35 => ?_)
  · have h := g_if c35 h
    refine gg_aload_n (pc := 39) cx 1 rfl dX7_enter_39 rfl ?_
    refine gf_World_plan (pc := 40) cx (hC 7 _ rfl v0) tw_297 dX7_enter_40 ?_
    refine gf_Plan_stateFrom (pc := 43) cx (hC 5 _ rfl (g_v56 v0)) tw_64 dX7_enter_43 ?_
    refine gg_iload_n (pc := 46) cx 2 rfl dX7_enter_46 rfl ?_
    have q47 := h.1
    have h := h.2
    refine gg_iald (pc := 47) cx (hC 38 _ rfl (g_v56 v0)) rfl q47 dX7_enter_47 ?_
    refine gg_topi (fun n48 en48 => ?_)
    have h := h n48 en48
    refine gg_istore (pc := 48) cx [(7, .int n48), (6, .int xs0), (0, .ref (gAd t 7 o0)), (1, .int x1), (2, .int x2), (3, .int x3), (4, .long y4)] dX7_enter_48 (by decide) rfl ?_
    refine gg_aload_n (pc := 50) cx 2 rfl dX7_enter_50 rfl ?_
    refine gf_World_plan (pc := 51) cx (hC 7 _ rfl v0) tw_297 dX7_enter_51 ?_
    refine gf_Plan_programEnd (pc := 54) cx (hC 5 _ rfl (g_v56 v0)) tw_68 dX7_enter_54 ?_
    refine gg_iload_n (pc := 57) cx 3 rfl dX7_enter_57 rfl ?_
    have q58 := h.1
    have h := h.2
    refine gg_iald (pc := 58) cx (hC 39 _ rfl (g_v56 v0)) rfl q58 dX7_enter_58 ?_
    refine gg_topi (fun n59 en59 => ?_)
    have h := h n59 en59
    refine gg_istore (pc := 59) cx [(8, .int n59), (7, .int n48), (6, .int xs0), (0, .ref (gAd t 7 o0)), (1, .int x1), (2, .int x2), (3, .int x3), (4, .long y4)] dX7_enter_59 (by decide) rfl ?_
    refine gg_aload_n (pc := 61) cx 3 rfl dX7_enter_61 rfl ?_
    refine gf_World_calculator (pc := 62) cx (hC 7 _ rfl v0) tw_307 dX7_enter_62 ?_
    refine gg_aload_n (pc := 65) cx 3 rfl dX7_enter_65 rfl ?_
    refine gf_World_plan (pc := 66) cx (hC 7 _ rfl v0) tw_297 dX7_enter_66 ?_
    refine gg_aload_n (pc := 69) cx 3 rfl dX7_enter_69 rfl ?_
    refine gf_World_plan (pc := 70) cx (hC 7 _ rfl v0) tw_297 dX7_enter_70 ?_
    refine gf_Plan_rankFrom (pc := 73) cx (hC 5 _ rfl (g_v56 v0)) tw_62 dX7_enter_73 ?_
    refine gg_iload_n (pc := 76) cx 4 rfl dX7_enter_76 rfl ?_
    have q77 := h.1
    have h := h.2
    refine gg_iald (pc := 77) cx (hC 37 _ rfl (g_v56 v0)) rfl q77 dX7_enter_77 ?_
    refine gg_iload (pc := 78) cx 1 rfl dX7_enter_78 ?_
    refine gg_callVl (pc := 80) cx cal_X0_valueOf calv_X0_valueOf (ct_X0_valueOf cx.tr hC (Nat.le_of_ble_eq_true rfl) (g_v56 v0) h) tw_691 (hC 0 _ rfl (Nat.le_of_ble_eq_true rfl)) rfl rfl rfl (st := []) rfl (Nat.le_of_ble_eq_true rfl) ⟨Nat.le_of_ble_eq_true rfl, Nat.le_of_ble_eq_true rfl⟩ ⟨Nat.le_of_ble_eq_true rfl, Nat.le_of_ble_eq_true rfl⟩ dX7_enter_80 (fun r80 M80 h => ?_)
    refine gg_lstore (pc := 83) cx [(9, .long r80), (8, .int n59), (7, .int n48), (6, .int xs0), (0, .ref (gAd t 7 o0)), (1, .int x1), (2, .int x2), (3, .int x3), (4, .long y4)] dX7_enter_83 (by decide) rfl ?_
    refine gg_iload (pc := 85) cx 2 rfl dX7_enter_85 ?_
    refine gg_iload (pc := 87) cx 1 rfl dX7_enter_87 ?_
    refine gg_icmp_ge (pc := 89) cx (tgt := 128) dX7_enter_89 (by decide) (fun c89 => ?_) (fun c89 => ?_)
    · have h := g_it c89 h
      refine gg_lv (lv' := [(0, .ref (gAd t 7 o0)), (1, .int x1), (2, .int x2), (3, .int x3), (6, .int xs0), (9, .long r80)]) [4, 5, 6, 7, 3, 0] rfl ?_
      exact wk_X7_enter_b128 cx hC hQ v0 h
    · have h := g_if c89 h
      refine gg_aload_n (pc := 92) cx 4 rfl dX7_enter_92 rfl ?_
      refine gf_World_calculator (pc := 93) cx (hC 7 _ rfl v0) tw_307 dX7_enter_93 ?_
      refine gg_lload (pc := 96) cx 0 rfl dX7_enter_96 ?_
      refine gg_callVv (pc := 98) cx cal_X0_setRank calv_X0_setRank (ct_X0_setRank cx.tr hC (Nat.le_of_ble_eq_true rfl) h) tw_698 (hC 0 _ rfl (Nat.le_of_ble_eq_true rfl)) rfl rfl rfl (st := []) rfl (Nat.le_of_ble_eq_true rfl) ⟨Nat.le_of_ble_eq_true rfl, Nat.le_of_ble_eq_true rfl⟩ ⟨Nat.le_of_ble_eq_true rfl, Nat.le_of_ble_eq_true rfl⟩ dX7_enter_98 (fun M98 h => ?_)
      refine gg_aload_n (pc := 101) cx 4 rfl dX7_enter_101 rfl ?_
      refine gf_World_nodes (pc := 102) cx (hC 7 _ rfl v0) tw_299 dX7_enter_102 ?_
      refine gg_iload_n (pc := 105) cx 5 rfl dX7_enter_105 rfl ?_
      have q106 := h.1
      have h := h.2
      refine gg_aald (pc := 106) cx (ca := 3) (hC 43 _ rfl v0) rfl rfl q106 rfl dX7_enter_106 ?_
      refine gf_Node_states (pc := 107) cx (hC 3 _ rfl (g_vN v0 q106)) tw_266 dX7_enter_107 ?_
      refine gg_iload (pc := 110) cx 3 rfl dX7_enter_110 ?_
      refine gg_aload_n (pc := 112) cx 4 rfl dX7_enter_112 rfl ?_
      refine gf_World_calculator (pc := 113) cx (hC 7 _ rfl v0) tw_307 dX7_enter_113 ?_
      refine gg_aload_n (pc := 116) cx 4 rfl dX7_enter_116 rfl ?_
      refine gf_World_plan (pc := 117) cx (hC 7 _ rfl v0) tw_297 dX7_enter_117 ?_
      refine gg_iload (pc := 120) cx 2 rfl dX7_enter_120 ?_
      refine gg_iload (pc := 122) cx 1 rfl dX7_enter_122 ?_
      refine gg_callVl (pc := 124) cx cal_X0_valueOf calv_X0_valueOf (ct_X0_valueOf cx.tr hC (Nat.le_of_ble_eq_true rfl) (g_v56 v0) h) tw_691 (hC 0 _ rfl (Nat.le_of_ble_eq_true rfl)) rfl rfl rfl (st := [.int xs0, .ref (gAd t 22 (12 * o0 + x1.toNatClampNeg))]) rfl (Nat.le_of_ble_eq_true rfl) ⟨Nat.le_of_ble_eq_true rfl, Nat.le_of_ble_eq_true rfl⟩ ⟨Nat.le_of_ble_eq_true rfl, Nat.le_of_ble_eq_true rfl⟩ dX7_enter_124 (fun r124 M124 h => ?_)
      have q127 := h.1
      have h := h.2
      refine gg_last (pc := 127) cx (hC 22 _ rfl (g_vN v0 q106)) (fun _ _ => rfl) q127 dX7_enter_127 ?_
      refine gg_mem (fun M127 eM127 => ?_)
      have h := h M127 eM127
      refine gg_lv (lv' := [(0, .ref (gAd t 7 o0)), (1, .int x1), (2, .int x2), (3, .int x3), (6, .int xs0), (9, .long r80)]) [4, 5, 6, 7, 3, 0] rfl ?_
      exact wk_X7_enter_b128 cx hC hQ v0 h
  · have h := g_it c35 h
    exact gg_vret (pc := 38) cx hQ h dX7_enter_38
theorem cal_X7_enter : g_Cal yX7_enter cX7_enter 13 (none) 4 := ⟨tw_5, tw_674, by decide, by decide, by decide +kernel⟩
theorem calv_X7_enter : g_CalV yX7_enter := ⟨tw_673, ts_15⟩
set_option maxRecDepth 100000 in
set_option maxHeartbeats 4000000 in
theorem ct_X7_enter {l : Launch} (hl : l.stackTraces = false) {t : gT} (hC : g_hC t) {o0 : Nat} {x1 : Int32} {x2 : Int32} {x3 : Int32} {y4 : Int64} (v0 : o0 < 5) {M : gM} {K : gM → Prop} (h : wp_X7_enter o0 x1 x2 x3 y4 M K) : Met l yX7_enter (g_y yX7_enter cX7_enter 13 (none)) rm_X7_enter (va_Pc [.ref (gAd t 7 o0), .int x1, .int x2, .int x3, .long y4] (g_Pre t M)) (va_Qv K (g_B t) (g_A t)) rm_X7_enter.cells rm_X7_enter.slots (g_A t) := by
  refine g_met hl rfl (Nat.le_of_ble_eq_true rfl) (fun X hlX cx hQ => ?_)
  subst hlX
  refine gg_aload_n (pc := 0) cx 0 rfl dX7_enter_0 rfl ?_
  refine gf_World_plan (pc := 1) cx (hC 7 _ rfl v0) tw_297 dX7_enter_1 ?_
  refine gg_iload_n (pc := 4) cx 1 rfl dX7_enter_4 rfl ?_
  refine gg_callVi (pc := 5) cx cal_X5_isLeaf calv_X5_isLeaf (ct_X5_isLeaf cx.tr hC (g_v56 v0) h) tw_620 (hC 5 _ rfl (g_v56 v0)) rfl rfl rfl (st := []) rfl (Nat.le_of_ble_eq_true rfl) ⟨Nat.le_of_ble_eq_true rfl, Nat.le_of_ble_eq_true rfl⟩ ⟨Nat.le_of_ble_eq_true rfl, Nat.le_of_ble_eq_true rfl⟩ dX7_enter_5 (fun r5 M5 h => ?_)
  refine gg_if_eq (pc := 8) cx (tgt := 23) dX7_enter_8 (by decide) (fun c8 => ?_) (fun c8 => ?_)
  · have h := g_it c8 h
    refine gg_iload_n (pc := 23) cx 2 rfl dX7_enter_23 rfl ?_
    exact wk_X7_enter_b24 cx hC hQ v0 h
  · have h := g_if c8 h
    refine gg_aload_n (pc := 11) cx 0 rfl dX7_enter_11 rfl ?_
    refine gf_World_packets (pc := 12) cx (hC 7 _ rfl v0) tw_301 dX7_enter_12 ?_
    refine gf_Packets_flow (pc := 15) cx (hC 4 _ rfl v0) tw_162 dX7_enter_15 ?_
    refine gg_iload_n (pc := 18) cx 3 rfl dX7_enter_18 rfl ?_
    have q19 := h.1
    have h := h.2
    refine gg_iald (pc := 19) cx (hC 26 _ rfl v0) rfl q19 dX7_enter_19 ?_
    refine gg_goto (pc := 20) cx (tgt := 24) dX7_enter_20 (by decide) ?_
    exact wk_X7_enter_b24 cx hC hQ v0 h
theorem cal_X7_unitsUp : g_Cal yX7_unitsUp cX7_unitsUp 2 (some .long) 2 := ⟨tw_5, tw_647, by decide, by decide, by decide +kernel⟩
set_option maxRecDepth 100000 in
set_option maxHeartbeats 4000000 in
theorem ct_X7_unitsUp {l : Launch} (hl : l.stackTraces = false) {t : gT} (hC : g_hC t) {x0 : Int32} {x1 : Int32}  {M : gM} {K : Int64 → gM → Prop} (h : wp_X7_unitsUp x0 x1 M K) : Met l yX7_unitsUp (g_y yX7_unitsUp cX7_unitsUp 2 (some .long)) rm_X7_unitsUp (va_Pc [.int x0, .int x1] (g_Pre t M)) (va_Ql K (g_B t) (g_A t)) rm_X7_unitsUp.cells rm_X7_unitsUp.slots (g_A t) := by
  refine g_met hl rfl (Nat.le_of_ble_eq_true rfl) (fun X hlX cx hQ => ?_)
  subst hlX
  refine gg_iload_n (pc := 0) cx 1 rfl dX7_unitsUp_0 rfl ?_
  refine gg_iconst (pc := 1) cx (v := 1) dX7_unitsUp_1 (by decide) ?_
  refine gg_icmp_ge (pc := 2) cx (tgt := 9) dX7_unitsUp_2 (by decide) (fun c2 => ?_) (fun c2 => ?_)
  · have h := g_it c2 h
    refine gg_iload_n (pc := 9) cx 0 rfl dX7_unitsUp_9 rfl ?_
    refine gg_i2l (pc := 10) cx dX7_unitsUp_10 ?_
    refine gg_ldc2 (pc := 11) cx (v := 1000) tw_648 dX7_unitsUp_11 ?_
    refine gg_lmul (pc := 14) cx dX7_unitsUp_14 ?_
    refine gg_iload_n (pc := 15) cx 1 rfl dX7_unitsUp_15 rfl ?_
    refine gg_i2l (pc := 16) cx dX7_unitsUp_16 ?_
    refine gg_ladd (pc := 17) cx dX7_unitsUp_17 ?_
    refine gg_lconst (pc := 18) cx (v := 1) dX7_unitsUp_18 (by decide) ?_
    refine gg_lsub (pc := 19) cx dX7_unitsUp_19 ?_
    refine gg_iload_n (pc := 20) cx 1 rfl dX7_unitsUp_20 rfl ?_
    refine gg_i2l (pc := 21) cx dX7_unitsUp_21 ?_
    refine gg_ldiv (pc := 22) cx dX7_unitsUp_22 h.1 ?_
    have h := h.2
    exact gg_lret (pc := 23) cx hQ h dX7_unitsUp_23
  · have h := g_if c2 h
    refine gg_lconst (pc := 5) cx (v := 0) dX7_unitsUp_5 (by decide) ?_
    refine gg_goto (pc := 6) cx (tgt := 23) dX7_unitsUp_6 (by decide) ?_
    exact gg_lret (pc := 23) cx hQ h dX7_unitsUp_23
theorem cal_X7_shape : g_Cal yX7_shape cX7_shape 8 (some .long) 3 := ⟨tw_5, tw_713, by decide, by decide, by decide +kernel⟩
theorem calv_X7_shape : g_CalV yX7_shape := ⟨tw_712, ts_18⟩
set_option maxRecDepth 100000 in
set_option maxHeartbeats 4000000 in
theorem ct_X7_shape {l : Launch} (hl : l.stackTraces = false) {t : gT} (hC : g_hC t) {o0 : Nat} {x1 : Int32} {x2 : Int32} {y3 : Int64} (v0 : o0 < 5) {M : gM} {K : Int64 → gM → Prop} (h : wp_X7_shape o0 x1 x2 y3 M K) : Met l yX7_shape (g_y yX7_shape cX7_shape 8 (some .long)) rm_X7_shape (va_Pc [.ref (gAd t 7 o0), .int x1, .int x2, .long y3] (g_Pre t M)) (va_Ql K (g_B t) (g_A t)) rm_X7_shape.cells rm_X7_shape.slots (g_A t) := by
  refine g_met hl rfl (Nat.le_of_ble_eq_true rfl) (fun X hlX cx hQ => ?_)
  subst hlX
  refine gg_aload_n (pc := 0) cx 0 rfl dX7_shape_0 rfl ?_
  refine gf_World_plan (pc := 1) cx (hC 7 _ rfl v0) tw_297 dX7_shape_1 ?_
  refine gf_Plan_rate (pc := 4) cx (hC 5 _ rfl (g_v56 v0)) tw_57 dX7_shape_4 ?_
  refine gg_iload_n (pc := 7) cx 1 rfl dX7_shape_7 rfl ?_
  have q8 := h.1
  have h := h.2
  refine gg_iald (pc := 8) cx (hC 35 _ rfl (g_v56 v0)) rfl q8 dX7_shape_8 ?_
  refine gg_topi (fun n9 en9 => ?_)
  have h := h n9 en9
  refine gg_istore (pc := 9) cx [(5, .int n9), (0, .ref (gAd t 7 o0)), (1, .int x1), (2, .int x2), (3, .long y3)] dX7_shape_9 (by decide) rfl ?_
  refine gg_iload (pc := 11) cx 0 rfl dX7_shape_11 ?_
  refine gg_iconst (pc := 13) cx (v := 1) dX7_shape_13 (by decide) ?_
  refine gg_icmp_ge (pc := 14) cx (tgt := 19) dX7_shape_14 (by decide) (fun c14 => ?_) (fun c14 => ?_)
  · have h := g_it c14 h
    refine gg_aload_n (pc := 19) cx 1 rfl dX7_shape_19 rfl ?_
    refine gf_World_nodes (pc := 20) cx (hC 7 _ rfl v0) tw_299 dX7_shape_20 ?_
    refine gg_iload_n (pc := 23) cx 2 rfl dX7_shape_23 rfl ?_
    have q24 := h.1
    have h := h.2
    refine gg_aald (pc := 24) cx (ca := 3) (hC 43 _ rfl v0) rfl rfl q24 rfl dX7_shape_24 ?_
    refine gf_Node_mark (pc := 25) cx (hC 3 _ rfl (g_vN v0 q24)) tw_264 dX7_shape_25 ?_
    refine gg_topl (fun n28 en28 => ?_)
    have h := h n28 en28
    refine gg_lstore (pc := 28) cx [(6, .long n28), (5, .int n9), (0, .ref (gAd t 7 o0)), (1, .int x1), (2, .int x2), (3, .long y3)] dX7_shape_28 (by decide) rfl ?_
    refine gg_aload_n (pc := 30) cx 2 rfl dX7_shape_30 rfl ?_
    refine gf_World_nodes (pc := 31) cx (hC 7 _ rfl v0) tw_299 dX7_shape_31 ?_
    refine gg_iload_n (pc := 34) cx 3 rfl dX7_shape_34 rfl ?_
    have q35 := h.1
    have h := h.2
    refine gg_aald (pc := 35) cx (ca := 3) (hC 43 _ rfl v0) rfl rfl q35 rfl dX7_shape_35 ?_
    refine gg_lload (pc := 36) cx 0 rfl dX7_shape_36 ?_
    refine gg_lload_n (pc := 38) cx 5 rfl dX7_shape_38 rfl ?_
    refine gg_mmaxL (pc := 39) cx tw_714 g_wmaxL ⟨Nat.le_of_ble_eq_true rfl, Nat.le_of_ble_eq_true rfl, Nat.le_of_ble_eq_true rfl, Nat.le_of_ble_eq_true rfl⟩ dX7_shape_39 ?_
    refine gg_iload_n (pc := 42) cx 4 rfl dX7_shape_42 rfl ?_
    refine gg_iload (pc := 43) cx 1 rfl dX7_shape_43 ?_
    refine gg_callSl (pc := 45) cx cal_X7_unitsUp tw_646 (ct_X7_unitsUp cx.tr hC  h) tw_645 rfl (st := [.long (if y3 < n28 then n28 else y3), .ref (gAd t 3 (12 * o0 + x1.toNatClampNeg))]) rfl (Nat.le_of_ble_eq_true rfl) ⟨Nat.le_of_ble_eq_true rfl, Nat.le_of_ble_eq_true rfl⟩ ⟨Nat.le_of_ble_eq_true rfl, Nat.le_of_ble_eq_true rfl⟩ dX7_shape_45 (fun r45 M45 h => ?_)
    refine gg_ladd (pc := 48) cx dX7_shape_48 ?_
    refine gp_Node_mark (pc := 49) cx (hC 3 _ rfl (g_vN v0 q35)) tw_264 dX7_shape_49 ?_
    refine gg_mem (fun M49 eM49 => ?_)
    have h := h M49 eM49
    refine gg_lload_n (pc := 52) cx 5 rfl dX7_shape_52 rfl ?_
    refine gg_lload (pc := 53) cx 0 rfl dX7_shape_53 ?_
    refine gg_aload_n (pc := 55) cx 2 rfl dX7_shape_55 rfl ?_
    refine gf_World_plan (pc := 56) cx (hC 7 _ rfl v0) tw_297 dX7_shape_56 ?_
    refine gf_Plan_burst (pc := 59) cx (hC 5 _ rfl (g_v56 v0)) tw_60 dX7_shape_59 ?_
    refine gg_iload_n (pc := 62) cx 3 rfl dX7_shape_62 rfl ?_
    have q63 := h.1
    have h := h.2
    refine gg_iald (pc := 63) cx (hC 36 _ rfl (g_v56 v0)) rfl q63 dX7_shape_63 ?_
    refine gg_i2l (pc := 64) cx dX7_shape_64 ?_
    refine gg_ldc2 (pc := 65) cx (v := 1000) tw_648 dX7_shape_65 ?_
    refine gg_lmul (pc := 68) cx dX7_shape_68 ?_
    refine gg_iload (pc := 69) cx 1 rfl dX7_shape_69 ?_
    refine gg_i2l (pc := 71) cx dX7_shape_71 ?_
    refine gg_ldiv (pc := 72) cx dX7_shape_72 h.1 ?_
    have h := h.2
    refine gg_lsub (pc := 73) cx dX7_shape_73 ?_
    refine gg_mmaxL (pc := 74) cx tw_714 g_wmaxL ⟨Nat.le_of_ble_eq_true rfl, Nat.le_of_ble_eq_true rfl, Nat.le_of_ble_eq_true rfl, Nat.le_of_ble_eq_true rfl⟩ dX7_shape_74 ?_
    exact gg_lret (pc := 77) cx hQ h dX7_shape_77
  · have h := g_if c14 h
    refine gg_lload_n (pc := 17) cx 4 rfl dX7_shape_17 rfl ?_
    exact gg_lret (pc := 18) cx hQ h dX7_shape_18
set_option maxRecDepth 100000 in
set_option maxHeartbeats 4000000 in
theorem wk_X7_climb_L57 {t : gT} {X : gX} (cx : g_Cx t X cX7_climb 11 RX7 (none)) (hC : g_hC t) {K : gM → Prop} (hQ : gXQ X = MQ (gXb X) (va_Qv K (g_B t) (g_A t)) (gXa X) (gXs X) rm_X7_climb.cells rm_X7_climb.slots (g_A t)) (f : Nat) : ∀ (o0 : Nat) (x3 : Int32) (y4 : Int64) (x6 : Int32) (x7 : Int32) (x8 : Int32) (M : gM), o0 < 5 → wp_X7_climb_L57 K f o0 x3 y4 x6 x7 x8 M → G t rm_X7_climb X 11 0 0 M [(0, .ref (gAd t 7 o0)), (3, .int x3), (4, .long y4), (6, .int x6), (7, .int x7), (8, .int x8)] [] 57 := by
  induction f with
  | zero => intro _ _ _ _ _ _ _ _ _; exact False.elim (by assumption)
  | succ f ih =>
    intro o0 x3 y4 x6 x7 x8 M v0 h
    refine gg_iload (pc := 57) cx 5 rfl dX7_climb_57 ?_
    refine gg_bipush (pc := 59) cx (v := 12) dX7_climb_59 (by decide) ?_
    refine gg_icmp_ge (pc := 61) cx (tgt := 149) dX7_climb_61 (by decide) (fun c61 => ?_) (fun c61 => ?_)
    · have h := g_it c61 h
      exact gg_vret (pc := 149) cx hQ h dX7_climb_149
    · have h := g_if c61 h
      refine gg_aload_n (pc := 64) cx 0 rfl dX7_climb_64 rfl ?_
      refine gf_World_plan (pc := 65) cx (hC 7 _ rfl v0) tw_297 dX7_climb_65 ?_
      refine gg_iload (pc := 68) cx 3 rfl dX7_climb_68 ?_
      refine gg_callVi (pc := 70) cx cal_X5_hasNode calv_X5_hasNode (ct_X5_hasNode cx.tr hC (g_v56 v0) h) tw_614 (hC 5 _ rfl (g_v56 v0)) rfl rfl rfl (st := []) rfl (Nat.le_of_ble_eq_true rfl) ⟨Nat.le_of_ble_eq_true rfl, Nat.le_of_ble_eq_true rfl⟩ ⟨Nat.le_of_ble_eq_true rfl, Nat.le_of_ble_eq_true rfl⟩ dX7_climb_70 (fun r70 M70 h => ?_)
      refine gg_if_eq (pc := 73) cx (tgt := 149) dX7_climb_73 (by decide) (fun c73 => ?_) (fun c73 => ?_)
      · have h := g_it c73 h
        exact gg_vret (pc := 149) cx hQ h dX7_climb_149
      · have h := g_if c73 h
        refine gg_aload_n (pc := 76) cx 0 rfl dX7_climb_76 rfl ?_
        refine gg_iload (pc := 77) cx 3 rfl dX7_climb_77 ?_
        refine gg_iload (pc := 79) cx 4 rfl dX7_climb_79 ?_
        refine gg_iload_n (pc := 81) cx 1 rfl dX7_climb_81 rfl ?_
        refine gg_lload (pc := 82) cx 2 rfl dX7_climb_82 ?_
        refine gg_callVv (pc := 84) cx cal_X7_enter calv_X7_enter (ct_X7_enter cx.tr hC v0 h) tw_671 (hC 7 _ rfl v0) rfl rfl rfl (st := []) rfl (Nat.le_of_ble_eq_true rfl) ⟨Nat.le_of_ble_eq_true rfl, Nat.le_of_ble_eq_true rfl⟩ ⟨Nat.le_of_ble_eq_true rfl, Nat.le_of_ble_eq_true rfl⟩ dX7_climb_84 (fun M84 h => ?_)
        refine gg_aload_n (pc := 87) cx 0 rfl dX7_climb_87 rfl ?_
        refine gg_iload (pc := 88) cx 3 rfl dX7_climb_88 ?_
        refine gg_aload_n (pc := 90) cx 0 rfl dX7_climb_90 rfl ?_
        refine gf_World_packets (pc := 91) cx (hC 7 _ rfl v0) tw_301 dX7_climb_91 ?_
        refine gf_Packets_length (pc := 94) cx (hC 4 _ rfl v0) tw_165 dX7_climb_94 ?_
        refine gg_iload_n (pc := 97) cx 1 rfl dX7_climb_97 rfl ?_
        have q98 := h.1
        have h := h.2
        refine gg_iald (pc := 98) cx (hC 27 _ rfl v0) rfl q98 dX7_climb_98 ?_
        refine gg_lload (pc := 99) cx 2 rfl dX7_climb_99 ?_
        refine gg_callVl (pc := 101) cx cal_X7_shape calv_X7_shape (ct_X7_shape cx.tr hC v0 h) tw_710 (hC 7 _ rfl v0) rfl rfl rfl (st := []) rfl (Nat.le_of_ble_eq_true rfl) ⟨Nat.le_of_ble_eq_true rfl, Nat.le_of_ble_eq_true rfl⟩ ⟨Nat.le_of_ble_eq_true rfl, Nat.le_of_ble_eq_true rfl⟩ dX7_climb_101 (fun r101 M101 h => ?_)
        refine gg_lstore (pc := 104) cx [(9, .long r101), (0, .ref (gAd t 7 o0)), (3, .int x3), (4, .long y4), (6, .int x6), (7, .int x7), (8, .int x8)] dX7_climb_104 (by decide) rfl ?_
        refine gg_lload (pc := 106) cx 0 rfl dX7_climb_106 ?_
        refine gg_lload (pc := 108) cx 3 rfl dX7_climb_108 ?_
        refine gg_lcmp_le (pc := 110) cx (tgt := 127) dX7_climb_110 dX7_climb_111 (by decide) (fun c110 => ?_) (fun c110 => ?_)
        · have h := g_it c110 h
          refine gg_iload (pc := 127) cx 4 rfl dX7_climb_127 ?_
          refine gg_istore (pc := 129) cx [(7, .int x6), (9, .long r101), (0, .ref (gAd t 7 o0)), (3, .int x3), (4, .long y4), (6, .int x6), (8, .int x8)] dX7_climb_129 (by decide) rfl ?_
          refine gg_aload_n (pc := 131) cx 2 rfl dX7_climb_131 rfl ?_
          refine gf_World_plan (pc := 132) cx (hC 7 _ rfl v0) tw_297 dX7_climb_132 ?_
          refine gf_Plan_parent (pc := 135) cx (hC 5 _ rfl (g_v56 v0)) tw_48 dX7_climb_135 ?_
          refine gg_iload (pc := 138) cx 5 rfl dX7_climb_138 ?_
          have q140 := h.1
          have h := h.2
          refine gg_iald (pc := 140) cx (hC 32 _ rfl (g_v56 v0)) rfl q140 dX7_climb_140 ?_
          refine gg_topi (fun n141 en141 => ?_)
          have h := h n141 en141
          refine gg_istore (pc := 141) cx [(6, .int n141), (7, .int x6), (9, .long r101), (0, .ref (gAd t 7 o0)), (3, .int x3), (4, .long y4), (8, .int x8)] dX7_climb_141 (by decide) rfl ?_
          obtain ⟨n143, en143⟩ : ∃ z : Int32, z = x8 + Int32.ofInt (1) := ⟨_, rfl⟩
          have h := h n143 en143
          refine gg_iinc (pc := 143) cx 6 [(8, .int n143), (6, .int n141), (7, .int x6), (9, .long r101), (0, .ref (gAd t 7 o0)), (3, .int x3), (4, .long y4)] dX7_climb_143 rfl en143.symm (by decide) rfl ?_
          refine gg_goto (pc := 146) cx (tgt := 57) dX7_climb_146 (by decide) ?_
          refine gg_lv (lv' := [(0, .ref (gAd t 7 o0)), (3, .int x3), (4, .long y4), (6, .int n141), (7, .int x6), (8, .int n143)]) [4, 5, 6, 1, 2, 0] rfl ?_
          exact ih o0 x3 y4 n141 x6 n143 M101 v0 h
        · have h := g_if c110 h
          refine gg_aload_n (pc := 114) cx 1 rfl dX7_climb_114 rfl ?_
          refine gf_World_line (pc := 115) cx (hC 7 _ rfl v0) tw_305 dX7_climb_115 ?_
          refine gg_iload (pc := 118) cx 4 rfl dX7_climb_118 ?_
          refine gg_iload_n (pc := 120) cx 2 rfl dX7_climb_120 rfl ?_
          refine gg_lload (pc := 121) cx 0 rfl dX7_climb_121 ?_
          refine gg_callVv (pc := 123) cx cal_X2_add calv_X2_add (ct_X2_add cx.tr hC v0 h) tw_715 (hC 2 _ rfl v0) rfl rfl rfl (st := []) rfl (Nat.le_of_ble_eq_true rfl) ⟨Nat.le_of_ble_eq_true rfl, Nat.le_of_ble_eq_true rfl⟩ ⟨Nat.le_of_ble_eq_true rfl, Nat.le_of_ble_eq_true rfl⟩ dX7_climb_123 (fun M123 h => ?_)
          exact gg_vret (pc := 126) cx hQ h dX7_climb_126
theorem cal_X7_climb : g_Cal yX7_climb cX7_climb 11 (none) 4 := ⟨tw_5, tw_666, by decide, by decide, by decide +kernel⟩
theorem calv_X7_climb : g_CalV yX7_climb := ⟨tw_665, ts_14⟩
set_option maxRecDepth 100000 in
set_option maxHeartbeats 4000000 in
theorem ct_X7_climb {l : Launch} (hl : l.stackTraces = false) {t : gT} (hC : g_hC t) {o0 : Nat} {x1 : Int32} {x2 : Int32} {x3 : Int32} {y4 : Int64} (v0 : o0 < 5) {M : gM} {K : gM → Prop} (h : wp_X7_climb o0 x1 x2 x3 y4 M K) : Met l yX7_climb (g_y yX7_climb cX7_climb 11 (none)) rm_X7_climb (va_Pc [.ref (gAd t 7 o0), .int x1, .int x2, .int x3, .long y4] (g_Pre t M)) (va_Qv K (g_B t) (g_A t)) rm_X7_climb.cells rm_X7_climb.slots (g_A t) := by
  refine g_met hl rfl (Nat.le_of_ble_eq_true rfl) (fun X hlX cx hQ => ?_)
  subst hlX
  refine gg_aload_n (pc := 0) cx 0 rfl dX7_climb_0 rfl ?_
  refine gf_World_packets (pc := 1) cx (hC 7 _ rfl v0) tw_301 dX7_climb_1 ?_
  refine gg_iload_n (pc := 4) cx 3 rfl dX7_climb_4 rfl ?_
  refine gg_callVi (pc := 5) cx cal_X4_has calv_X4_has (ct_X4_has cx.tr hC v0 h) tw_625 (hC 4 _ rfl v0) rfl rfl rfl (st := []) rfl (Nat.le_of_ble_eq_true rfl) ⟨Nat.le_of_ble_eq_true rfl, Nat.le_of_ble_eq_true rfl⟩ ⟨Nat.le_of_ble_eq_true rfl, Nat.le_of_ble_eq_true rfl⟩ dX7_climb_5 (fun r5 M5 h => ?_)
  refine gg_if_ne (pc := 8) cx (tgt := 12) dX7_climb_8 (by decide) (fun c8 => ?_) (fun c8 => ?_)
  · have h := g_if c8 h
    refine gg_aload_n (pc := 12) cx 0 rfl dX7_climb_12 rfl ?_
    refine gf_World_calculator (pc := 13) cx (hC 7 _ rfl v0) tw_307 dX7_climb_13 ?_
    refine gg_aload_n (pc := 16) cx 0 rfl dX7_climb_16 rfl ?_
    refine gf_World_packets (pc := 17) cx (hC 7 _ rfl v0) tw_301 dX7_climb_17 ?_
    refine gf_Packets_priority (pc := 20) cx (hC 4 _ rfl v0) tw_167 dX7_climb_20 ?_
    refine gg_iload_n (pc := 23) cx 3 rfl dX7_climb_23 rfl ?_
    have q24 := h.1
    have h := h.2
    refine gg_iald (pc := 24) cx (hC 28 _ rfl v0) rfl q24 dX7_climb_24 ?_
    refine gg_i2l (pc := 25) cx dX7_climb_25 ?_
    refine gg_aload_n (pc := 26) cx 0 rfl dX7_climb_26 rfl ?_
    refine gf_World_packets (pc := 27) cx (hC 7 _ rfl v0) tw_301 dX7_climb_27 ?_
    refine gf_Packets_length (pc := 30) cx (hC 4 _ rfl v0) tw_165 dX7_climb_30 ?_
    refine gg_iload_n (pc := 33) cx 3 rfl dX7_climb_33 rfl ?_
    have q34 := h.1
    have h := h.2
    refine gg_iald (pc := 34) cx (hC 27 _ rfl v0) rfl q34 dX7_climb_34 ?_
    refine gg_i2l (pc := 35) cx dX7_climb_35 ?_
    refine gg_aload_n (pc := 36) cx 0 rfl dX7_climb_36 rfl ?_
    refine gf_World_packets (pc := 37) cx (hC 7 _ rfl v0) tw_301 dX7_climb_37 ?_
    refine gf_Packets_deadline (pc := 40) cx (hC 4 _ rfl v0) tw_171 dX7_climb_40 ?_
    refine gg_iload_n (pc := 43) cx 3 rfl dX7_climb_43 rfl ?_
    have q44 := h.1
    have h := h.2
    refine gg_lald (pc := 44) cx (hC 30 _ rfl v0) rfl q44 dX7_climb_44 ?_
    refine gg_callVv (pc := 45) cx cal_X0_setPacket calv_X0_setPacket (ct_X0_setPacket cx.tr hC (Nat.le_of_ble_eq_true rfl) h) tw_667 (hC 0 _ rfl (Nat.le_of_ble_eq_true rfl)) rfl rfl rfl (st := []) rfl (Nat.le_of_ble_eq_true rfl) ⟨Nat.le_of_ble_eq_true rfl, Nat.le_of_ble_eq_true rfl⟩ ⟨Nat.le_of_ble_eq_true rfl, Nat.le_of_ble_eq_true rfl⟩ dX7_climb_45 (fun M45 h => ?_)
    refine gg_iload_n (pc := 48) cx 1 rfl dX7_climb_48 rfl ?_
    refine gg_istore (pc := 49) cx [(6, .int x1), (0, .ref (gAd t 7 o0)), (1, .int x1), (2, .int x2), (3, .int x3), (4, .long y4)] dX7_climb_49 (by decide) rfl ?_
    refine gg_iload_n (pc := 51) cx 3 rfl dX7_climb_51 rfl ?_
    refine gg_istore (pc := 52) cx [(7, .int x2), (6, .int x1), (0, .ref (gAd t 7 o0)), (1, .int x1), (2, .int x2), (3, .int x3), (4, .long y4)] dX7_climb_52 (by decide) rfl ?_
    refine gg_iconst (pc := 54) cx (v := 0) dX7_climb_54 (by decide) ?_
    refine gg_istore (pc := 55) cx [(8, .int 0), (7, .int x2), (6, .int x1), (0, .ref (gAd t 7 o0)), (1, .int x1), (2, .int x2), (3, .int x3), (4, .long y4)] dX7_climb_55 (by decide) rfl ?_
    refine gg_lv (lv' := [(0, .ref (gAd t 7 o0)), (3, .int x3), (4, .long y4), (6, .int x1), (7, .int x2), (8, .int 0)]) [3, 6, 7, 2, 1, 0] rfl ?_
    obtain ⟨f57, h⟩ := h
    exact wk_X7_climb_L57 cx hC hQ f57 o0 x3 y4 x1 x2 0 M45 v0 h
  · have h := g_it c8 h
    exact gg_vret (pc := 11) cx hQ h dX7_climb_11
theorem cal_X7_arrive : g_Cal yX7_arrive cX7_arrive 6 (some .int) 4 := ⟨tw_5, tw_973, by decide, by decide, by decide +kernel⟩
theorem calv_X7_arrive : g_CalV yX7_arrive := ⟨tw_971, tw_972⟩
set_option maxRecDepth 100000 in
set_option maxHeartbeats 4000000 in
theorem ct_X7_arrive {l : Launch} (hl : l.stackTraces = false) {t : gT} (hC : g_hC t) {o0 : Nat} {x1 : Int32} {x2 : Int32} {x3 : Int32} {x4 : Int32} (v0 : o0 < 5) {M : gM} {K : Int32 → gM → Prop} (h : wp_X7_arrive o0 x1 x2 x3 x4 M K) : Met l yX7_arrive (g_y yX7_arrive cX7_arrive 6 (some .int)) rm_X7_arrive (va_Pc [.ref (gAd t 7 o0), .int x1, .int x2, .int x3, .int x4] (g_Pre t M)) (va_Qi K (g_B t) (g_A t)) rm_X7_arrive.cells rm_X7_arrive.slots (g_A t) := by
  refine g_met hl rfl (Nat.le_of_ble_eq_true rfl) (fun X hlX cx hQ => ?_)
  subst hlX
  refine gg_aload_n (pc := 0) cx 0 rfl dX7_arrive_0 rfl ?_
  refine gf_World_packets (pc := 1) cx (hC 7 _ rfl v0) tw_301 dX7_arrive_1 ?_
  refine gg_iload_n (pc := 4) cx 1 rfl dX7_arrive_4 rfl ?_
  refine gg_iload_n (pc := 5) cx 2 rfl dX7_arrive_5 rfl ?_
  refine gg_iload_n (pc := 6) cx 3 rfl dX7_arrive_6 rfl ?_
  refine gg_aload_n (pc := 7) cx 0 rfl dX7_arrive_7 rfl ?_
  refine gf_World_time (pc := 8) cx (hC 7 _ rfl v0) tw_293 dX7_arrive_8 ?_
  refine gg_aload_n (pc := 11) cx 0 rfl dX7_arrive_11 rfl ?_
  refine gf_World_time (pc := 12) cx (hC 7 _ rfl v0) tw_293 dX7_arrive_12 ?_
  refine gg_iload (pc := 15) cx 4 rfl dX7_arrive_15 ?_
  refine gg_i2l (pc := 17) cx dX7_arrive_17 ?_
  refine gg_ladd (pc := 18) cx dX7_arrive_18 ?_
  refine gg_callVi (pc := 19) cx cal_X4_add calv_X4_add (ct_X4_add cx.tr hC v0 h) tw_974 (hC 4 _ rfl v0) rfl rfl rfl (st := []) rfl (Nat.le_of_ble_eq_true rfl) ⟨Nat.le_of_ble_eq_true rfl, Nat.le_of_ble_eq_true rfl⟩ ⟨Nat.le_of_ble_eq_true rfl, Nat.le_of_ble_eq_true rfl⟩ dX7_arrive_19 (fun r19 M19 h => ?_)
  refine gg_istore (pc := 22) cx [(5, .int r19), (0, .ref (gAd t 7 o0)), (1, .int x1), (2, .int x2), (3, .int x3), (4, .int x4)] dX7_arrive_22 (by decide) rfl ?_
  refine gg_aload_n (pc := 24) cx 1 rfl dX7_arrive_24 rfl ?_
  refine gg_aload_n (pc := 25) cx 1 rfl dX7_arrive_25 rfl ?_
  refine gg_iload_n (pc := 26) cx 2 rfl dX7_arrive_26 rfl ?_
  refine gg_callVi (pc := 27) cx cal_X7_leafFor calv_X7_leafFor (ct_X7_leafFor cx.tr hC v0 h) tw_979 (hC 7 _ rfl v0) rfl rfl rfl (st := [.ref (gAd t 7 o0)]) rfl (Nat.le_of_ble_eq_true rfl) ⟨Nat.le_of_ble_eq_true rfl, Nat.le_of_ble_eq_true rfl⟩ ⟨Nat.le_of_ble_eq_true rfl, Nat.le_of_ble_eq_true rfl⟩ dX7_arrive_27 (fun r27 M27 h => ?_)
  refine gg_iload (pc := 30) cx 0 rfl dX7_arrive_30 ?_
  refine gg_iload (pc := 32) cx 0 rfl dX7_arrive_32 ?_
  refine gg_aload_n (pc := 34) cx 1 rfl dX7_arrive_34 rfl ?_
  refine gf_World_time (pc := 35) cx (hC 7 _ rfl v0) tw_293 dX7_arrive_35 ?_
  refine gg_callVv (pc := 38) cx cal_X7_climb calv_X7_climb (ct_X7_climb cx.tr hC v0 h) tw_663 (hC 7 _ rfl v0) rfl rfl rfl (st := []) rfl (Nat.le_of_ble_eq_true rfl) ⟨Nat.le_of_ble_eq_true rfl, Nat.le_of_ble_eq_true rfl⟩ ⟨Nat.le_of_ble_eq_true rfl, Nat.le_of_ble_eq_true rfl⟩ dX7_arrive_38 (fun M38 h => ?_)
  refine gg_iload (pc := 41) cx 0 rfl dX7_arrive_41 ?_
  exact gg_iret (pc := 43) cx hQ h dX7_arrive_43
set_option maxRecDepth 100000 in
set_option maxHeartbeats 4000000 in
theorem wk_X7_leave_L4 {t : gT} {X : gX} (cx : g_Cx t X cX7_leave 4 RX7 (some .int)) (hC : g_hC t) {K : Int32 → gM → Prop} (hQ : gXQ X = MQ (gXb X) (va_Qi K (g_B t) (g_A t)) (gXa X) (gXs X) rm_X7_leave.cells rm_X7_leave.slots (g_A t)) (f : Nat) : ∀ (o0 : Nat) (x1 : Int32) (x2 : Int32) (M : gM), o0 < 5 → wp_X7_leave_L4 K f o0 x1 x2 M → G t rm_X7_leave X 4 0 0 M [(0, .ref (gAd t 7 o0)), (1, .int x1), (2, .int x2)] [] 4 := by
  induction f with
  | zero => intro _ _ _ _ _ _; exact False.elim (by assumption)
  | succ f ih =>
    intro o0 x1 x2 M v0 h
    refine gg_iload_n (pc := 4) cx 2 rfl dX7_leave_4 rfl ?_
    refine gg_bipush (pc := 5) cx (v := 12) dX7_leave_5 (by decide) ?_
    refine gg_icmp_ge (pc := 7) cx (tgt := 56) dX7_leave_7 (by decide) (fun c7 => ?_) (fun c7 => ?_)
    · have h := g_it c7 h
      refine gg_iconst (pc := 56) cx (v := (-1)) dX7_leave_56 (by decide) ?_
      exact gg_iret (pc := 57) cx hQ h dX7_leave_57
    · have h := g_if c7 h
      refine gg_aload_n (pc := 10) cx 0 rfl dX7_leave_10 rfl ?_
      refine gf_World_plan (pc := 11) cx (hC 7 _ rfl v0) tw_297 dX7_leave_11 ?_
      refine gg_iload_n (pc := 14) cx 1 rfl dX7_leave_14 rfl ?_
      refine gg_callVi (pc := 15) cx cal_X5_hasNode calv_X5_hasNode (ct_X5_hasNode cx.tr hC (g_v56 v0) h) tw_614 (hC 5 _ rfl (g_v56 v0)) rfl rfl rfl (st := []) rfl (Nat.le_of_ble_eq_true rfl) ⟨Nat.le_of_ble_eq_true rfl, Nat.le_of_ble_eq_true rfl⟩ ⟨Nat.le_of_ble_eq_true rfl, Nat.le_of_ble_eq_true rfl⟩ dX7_leave_15 (fun r15 M15 h => ?_)
      refine gg_if_eq (pc := 18) cx (tgt := 56) dX7_leave_18 (by decide) (fun c18 => ?_) (fun c18 => ?_)
      · have h := g_it c18 h
        refine gg_iconst (pc := 56) cx (v := (-1)) dX7_leave_56 (by decide) ?_
        exact gg_iret (pc := 57) cx hQ h dX7_leave_57
      · have h := g_if c18 h
        refine gg_aload_n (pc := 21) cx 0 rfl dX7_leave_21 rfl ?_
        refine gf_World_nodes (pc := 22) cx (hC 7 _ rfl v0) tw_299 dX7_leave_22 ?_
        refine gg_iload_n (pc := 25) cx 1 rfl dX7_leave_25 rfl ?_
        have q26 := h.1
        have h := h.2
        refine gg_aald (pc := 26) cx (ca := 3) (hC 43 _ rfl v0) rfl rfl q26 rfl dX7_leave_26 ?_
        refine gg_callVi (pc := 27) cx cal_X3_removeFirst calv_X3_removeFirst (ct_X3_removeFirst cx.tr hC (g_vN v0 q26) h) tw_615 (hC 3 _ rfl (g_vN v0 q26)) rfl rfl rfl (st := []) rfl (Nat.le_of_ble_eq_true rfl) ⟨Nat.le_of_ble_eq_true rfl, Nat.le_of_ble_eq_true rfl⟩ ⟨Nat.le_of_ble_eq_true rfl, Nat.le_of_ble_eq_true rfl⟩ dX7_leave_27 (fun r27 M27 h => ?_)
        refine gg_istore_n (pc := 30) cx [(3, .int r27), (0, .ref (gAd t 7 o0)), (1, .int x1), (2, .int x2)] dX7_leave_30 rfl (by decide) rfl ?_
        refine gg_iload_n (pc := 31) cx 0 rfl dX7_leave_31 rfl ?_
        refine gg_if_lt (pc := 32) cx (tgt := 46) dX7_leave_32 (by decide) (fun c32 => ?_) (fun c32 => ?_)
        · have h := g_it c32 h
          refine gg_iload_n (pc := 46) cx 0 rfl dX7_leave_46 rfl ?_
          exact gg_iret (pc := 47) cx hQ h dX7_leave_47
        · have h := g_if c32 h
          refine gg_aload_n (pc := 35) cx 1 rfl dX7_leave_35 rfl ?_
          refine gf_World_plan (pc := 36) cx (hC 7 _ rfl v0) tw_297 dX7_leave_36 ?_
          refine gg_iload_n (pc := 39) cx 2 rfl dX7_leave_39 rfl ?_
          refine gg_callVi (pc := 40) cx cal_X5_isLeaf calv_X5_isLeaf (ct_X5_isLeaf cx.tr hC (g_v56 v0) h) tw_620 (hC 5 _ rfl (g_v56 v0)) rfl rfl rfl (st := []) rfl (Nat.le_of_ble_eq_true rfl) ⟨Nat.le_of_ble_eq_true rfl, Nat.le_of_ble_eq_true rfl⟩ ⟨Nat.le_of_ble_eq_true rfl, Nat.le_of_ble_eq_true rfl⟩ dX7_leave_40 (fun r40 M40 h => ?_)
          refine gg_if_eq (pc := 43) cx (tgt := 48) dX7_leave_43 (by decide) (fun c43 => ?_) (fun c43 => ?_)
          · have h := g_it c43 h
            refine gg_iload_n (pc := 48) cx 0 rfl dX7_leave_48 rfl ?_
            refine gg_istore_n (pc := 49) cx [(1, .int r27), (3, .int r27), (0, .ref (gAd t 7 o0)), (2, .int x2)] dX7_leave_49 rfl (by decide) rfl ?_
            obtain ⟨n50, en50⟩ : ∃ z : Int32, z = x2 + Int32.ofInt (1) := ⟨_, rfl⟩
            have h := h n50 en50
            refine gg_iinc (pc := 50) cx 3 [(2, .int n50), (1, .int r27), (3, .int r27), (0, .ref (gAd t 7 o0))] dX7_leave_50 rfl en50.symm (by decide) rfl ?_
            refine gg_goto (pc := 53) cx (tgt := 4) dX7_leave_53 (by decide) ?_
            refine gg_lv (lv' := [(0, .ref (gAd t 7 o0)), (1, .int r27), (2, .int n50)]) [3, 1, 0] rfl ?_
            exact ih o0 r27 n50 M40 v0 h
          · have h := g_if c43 h
            refine gg_iload_n (pc := 46) cx 0 rfl dX7_leave_46 rfl ?_
            exact gg_iret (pc := 47) cx hQ h dX7_leave_47
theorem cal_X7_leave : g_Cal yX7_leave cX7_leave 4 (some .int) 0 := ⟨tw_5, tw_613, by decide, by decide, by decide +kernel⟩
theorem calv_X7_leave : g_CalV yX7_leave := ⟨tw_611, tw_612⟩
set_option maxRecDepth 100000 in
set_option maxHeartbeats 4000000 in
theorem ct_X7_leave {l : Launch} (hl : l.stackTraces = false) {t : gT} (hC : g_hC t) {o0 : Nat} (v0 : o0 < 5) {M : gM} {K : Int32 → gM → Prop} (h : wp_X7_leave o0 M K) : Met l yX7_leave (g_y yX7_leave cX7_leave 4 (some .int)) rm_X7_leave (va_Pc [.ref (gAd t 7 o0)] (g_Pre t M)) (va_Qi K (g_B t) (g_A t)) rm_X7_leave.cells rm_X7_leave.slots (g_A t) := by
  refine g_met hl rfl (Nat.le_of_ble_eq_true rfl) (fun X hlX cx hQ => ?_)
  subst hlX
  refine gg_iconst (pc := 0) cx (v := 0) dX7_leave_0 (by decide) ?_
  refine gg_istore_n (pc := 1) cx [(1, .int 0), (0, .ref (gAd t 7 o0))] dX7_leave_1 rfl (by decide) rfl ?_
  refine gg_iconst (pc := 2) cx (v := 0) dX7_leave_2 (by decide) ?_
  refine gg_istore_n (pc := 3) cx [(2, .int 0), (1, .int 0), (0, .ref (gAd t 7 o0))] dX7_leave_3 rfl (by decide) rfl ?_
  refine gg_lv (lv' := [(0, .ref (gAd t 7 o0)), (1, .int 0), (2, .int 0)]) [2, 1, 0] rfl ?_
  obtain ⟨f4, h⟩ := h
  exact wk_X7_leave_L4 cx hC hQ f4 o0 0 0 M v0 h
set_option maxRecDepth 100000 in
set_option maxHeartbeats 4000000 in
theorem wk_X7_depart_b54 {t : gT} {X : gX} (cx : g_Cx t X cX7_depart 7 RX7 (none)) (hC : g_hC t) {K : gM → Prop} (hQ : gXQ X = MQ (gXb X) (va_Qv K (g_B t) (g_A t)) (gXa X) (gXs X) rm_X7_depart.cells rm_X7_depart.slots (g_A t)) {o0 : Nat} {x1 : Int32} {y4 : Int64} {xs0 : Int32} {M : gM} (v0 : o0 < 5) (h : wp_X7_depart_b54 K o0 x1 y4 xs0 M) : G t rm_X7_depart X 7 0 0 M [(0, .ref (gAd t 7 o0)), (1, .int x1), (4, .long y4)] [.int xs0] 54 := by
  refine gg_istore (pc := 54) cx [(6, .int xs0), (0, .ref (gAd t 7 o0)), (1, .int x1), (4, .long y4)] dX7_depart_54 (by decide) rfl ?_
  refine gg_aload_n (pc := 56) cx 1 rfl dX7_depart_56 rfl ?_
  refine gf_World_flows (pc := 57) cx (hC 7 _ rfl v0) tw_303 dX7_depart_57 ?_
  refine gg_aload_n (pc := 60) cx 1 rfl dX7_depart_60 rfl ?_
  refine gf_World_packets (pc := 61) cx (hC 7 _ rfl v0) tw_301 dX7_depart_61 ?_
  refine gf_Packets_flow (pc := 64) cx (hC 4 _ rfl v0) tw_162 dX7_depart_64 ?_
  refine gg_iload_n (pc := 67) cx 2 rfl dX7_depart_67 rfl ?_
  have q68 := h.1
  have h := h.2
  refine gg_iald (pc := 68) cx (hC 26 _ rfl v0) rfl q68 dX7_depart_68 ?_
  refine gg_aload_n (pc := 69) cx 1 rfl dX7_depart_69 rfl ?_
  refine gf_World_packets (pc := 70) cx (hC 7 _ rfl v0) tw_301 dX7_depart_70 ?_
  refine gf_Packets_length (pc := 73) cx (hC 4 _ rfl v0) tw_165 dX7_depart_73 ?_
  refine gg_iload_n (pc := 76) cx 2 rfl dX7_depart_76 rfl ?_
  have q77 := h.1
  have h := h.2
  refine gg_iald (pc := 77) cx (hC 27 _ rfl v0) rfl q77 dX7_depart_77 ?_
  refine gg_lload (pc := 78) cx 3 rfl dX7_depart_78 ?_
  refine gg_iload (pc := 80) cx 0 rfl dX7_depart_80 ?_
  refine gg_callVv (pc := 82) cx cal_X1_count calv_X1_count (ct_X1_count cx.tr hC v0 h) tw_629 (hC 1 _ rfl v0) rfl rfl rfl (st := []) rfl (Nat.le_of_ble_eq_true rfl) ⟨Nat.le_of_ble_eq_true rfl, Nat.le_of_ble_eq_true rfl⟩ ⟨Nat.le_of_ble_eq_true rfl, Nat.le_of_ble_eq_true rfl⟩ dX7_depart_82 (fun M82 h => ?_)
  exact gg_vret (pc := 85) cx hQ h dX7_depart_85
theorem cal_X7_depart : g_Cal yX7_depart cX7_depart 7 (none) 2 := ⟨tw_5, tw_624, by decide, by decide, by decide +kernel⟩
theorem calv_X7_depart : g_CalV yX7_depart := ⟨tw_622, tw_623⟩
set_option maxRecDepth 100000 in
set_option maxHeartbeats 4000000 in
theorem ct_X7_depart {l : Launch} (hl : l.stackTraces = false) {t : gT} (hC : g_hC t) {o0 : Nat} {x1 : Int32} {y2 : Int64} (v0 : o0 < 5) {M : gM} {K : gM → Prop} (h : wp_X7_depart o0 x1 y2 M K) : Met l yX7_depart (g_y yX7_depart cX7_depart 7 (none)) rm_X7_depart (va_Pc [.ref (gAd t 7 o0), .int x1, .long y2] (g_Pre t M)) (va_Qv K (g_B t) (g_A t)) rm_X7_depart.cells rm_X7_depart.slots (g_A t) := by
  refine g_met hl rfl (Nat.le_of_ble_eq_true rfl) (fun X hlX cx hQ => ?_)
  subst hlX
  refine gg_aload_n (pc := 0) cx 0 rfl dX7_depart_0 rfl ?_
  refine gf_World_packets (pc := 1) cx (hC 7 _ rfl v0) tw_301 dX7_depart_1 ?_
  refine gg_iload_n (pc := 4) cx 1 rfl dX7_depart_4 rfl ?_
  refine gg_callVi (pc := 5) cx cal_X4_has calv_X4_has (ct_X4_has cx.tr hC v0 h) tw_625 (hC 4 _ rfl v0) rfl rfl rfl (st := []) rfl (Nat.le_of_ble_eq_true rfl) ⟨Nat.le_of_ble_eq_true rfl, Nat.le_of_ble_eq_true rfl⟩ ⟨Nat.le_of_ble_eq_true rfl, Nat.le_of_ble_eq_true rfl⟩ dX7_depart_5 (fun r5 M5 h => ?_)
  refine gg_if_ne (pc := 8) cx (tgt := 12) dX7_depart_8 (by decide) (fun c8 => ?_) (fun c8 => ?_)
  · have h := g_if c8 h
    refine gg_aload_n (pc := 12) cx 0 rfl dX7_depart_12 rfl ?_
    refine gf_World_packets (pc := 13) cx (hC 7 _ rfl v0) tw_301 dX7_depart_13 ?_
    refine gf_Packets_departure (pc := 16) cx (hC 4 _ rfl v0) tw_174 dX7_depart_16 ?_
    refine gg_iload_n (pc := 19) cx 1 rfl dX7_depart_19 rfl ?_
    refine gg_lload_n (pc := 20) cx 2 rfl dX7_depart_20 rfl ?_
    have q21 := h.1
    have h := h.2
    refine gg_last (pc := 21) cx (hC 31 _ rfl v0) (fun _ _ => rfl) q21 dX7_depart_21 ?_
    refine gg_mem (fun M21 eM21 => ?_)
    have h := h M21 eM21
    refine gg_lload_n (pc := 22) cx 2 rfl dX7_depart_22 rfl ?_
    refine gg_aload_n (pc := 23) cx 0 rfl dX7_depart_23 rfl ?_
    refine gf_World_packets (pc := 24) cx (hC 7 _ rfl v0) tw_301 dX7_depart_24 ?_
    refine gf_Packets_arrival (pc := 27) cx (hC 4 _ rfl v0) tw_169 dX7_depart_27 ?_
    refine gg_iload_n (pc := 30) cx 1 rfl dX7_depart_30 rfl ?_
    have q31 := h.1
    have h := h.2
    refine gg_lald (pc := 31) cx (hC 29 _ rfl v0) rfl q31 dX7_depart_31 ?_
    refine gg_lsub (pc := 32) cx dX7_depart_32 ?_
    refine gg_topl (fun n33 en33 => ?_)
    have h := h n33 en33
    refine gg_lstore (pc := 33) cx [(4, .long n33), (0, .ref (gAd t 7 o0)), (1, .int x1), (2, .long y2)] dX7_depart_33 (by decide) rfl ?_
    refine gg_lload_n (pc := 35) cx 3 rfl dX7_depart_35 rfl ?_
    refine gg_aload_n (pc := 36) cx 1 rfl dX7_depart_36 rfl ?_
    refine gf_World_packets (pc := 37) cx (hC 7 _ rfl v0) tw_301 dX7_depart_37 ?_
    refine gf_Packets_deadline (pc := 40) cx (hC 4 _ rfl v0) tw_171 dX7_depart_40 ?_
    refine gg_iload_n (pc := 43) cx 2 rfl dX7_depart_43 rfl ?_
    have q44 := h.1
    have h := h.2
    refine gg_lald (pc := 44) cx (hC 30 _ rfl v0) rfl q44 dX7_depart_44 ?_
    refine gg_lcmp_le (pc := 45) cx (tgt := 53) dX7_depart_45 dX7_depart_46 (by decide) (fun c45 => ?_) (fun c45 => ?_)
    · have h := g_it c45 h
      refine gg_iconst (pc := 53) cx (v := 0) dX7_depart_53 (by decide) ?_
      refine gg_lv (lv' := [(0, .ref (gAd t 7 o0)), (1, .int x1), (4, .long n33)]) [1, 2, 0] rfl ?_
      exact wk_X7_depart_b54 cx hC hQ v0 h
    · have h := g_if c45 h
      refine gg_iconst (pc := 49) cx (v := 1) dX7_depart_49 (by decide) ?_
      refine gg_goto (pc := 50) cx (tgt := 54) dX7_depart_50 (by decide) ?_
      refine gg_lv (lv' := [(0, .ref (gAd t 7 o0)), (1, .int x1), (4, .long n33)]) [1, 2, 0] rfl ?_
      exact wk_X7_depart_b54 cx hC hQ v0 h
  · have h := g_it c8 h
    exact gg_vret (pc := 11) cx hQ h dX7_depart_11
set_option maxRecDepth 100000 in
set_option maxHeartbeats 4000000 in
theorem wk_X7_passUntil_b130 {t : gT} {X : gX} (cx : g_Cx t X cX7_passUntil 9 RX7 (some .int)) (hC : g_hC t) {K : Int32 → gM → Prop} (hQ : gXQ X = MQ (gXb X) (va_Qi K (g_B t) (g_A t)) (gXa X) (gXs X) rm_X7_passUntil.cells rm_X7_passUntil.slots (g_A t)) {o0 : Nat} {y1 : Int64} {x3 : Int32} {M : gM} (v0 : o0 < 5) (h : wp_X7_passUntil_b130 K o0 y1 x3 M) : G t rm_X7_passUntil X 9 0 0 M [(0, .ref (gAd t 7 o0)), (1, .long y1), (3, .int x3)] [] 130 := by
  refine gg_aload_n (pc := 130) cx 0 rfl dX7_passUntil_130 rfl ?_
  refine gg_aload_n (pc := 131) cx 0 rfl dX7_passUntil_131 rfl ?_
  refine gf_World_time (pc := 132) cx (hC 7 _ rfl v0) tw_293 dX7_passUntil_132 ?_
  refine gg_lload_n (pc := 135) cx 1 rfl dX7_passUntil_135 rfl ?_
  refine gg_mmaxL (pc := 136) cx tw_714 g_wmaxL ⟨Nat.le_of_ble_eq_true rfl, Nat.le_of_ble_eq_true rfl, Nat.le_of_ble_eq_true rfl, Nat.le_of_ble_eq_true rfl⟩ dX7_passUntil_136 ?_
  refine gp_World_time (pc := 139) cx (hC 7 _ rfl v0) tw_293 dX7_passUntil_139 ?_
  refine gg_mem (fun M139 eM139 => ?_)
  have h := h M139 eM139
  refine gg_iload_n (pc := 142) cx 2 rfl dX7_passUntil_142 rfl ?_
  exact gg_iret (pc := 143) cx hQ h dX7_passUntil_143
set_option maxRecDepth 100000 in
set_option maxHeartbeats 4000000 in
theorem wk_X7_passUntil_b115 {t : gT} {X : gX} (cx : g_Cx t X cX7_passUntil 9 RX7 (some .int)) (hC : g_hC t) {K : Int32 → gM → Prop} (hQ : gXQ X = MQ (gXb X) (va_Qi K (g_B t) (g_A t)) (gXa X) (gXs X) rm_X7_passUntil.cells rm_X7_passUntil.slots (g_A t)) {R11 : Nat → Int64 → Int32 → Int32 → gM → Prop} (hR11 : ∀ (o0 : Nat) (y1 : Int64) (x3 : Int32) (x4 : Int32) (M : gM), o0 < 5 → R11 o0 y1 x3 x4 M → G t rm_X7_passUntil X 9 0 0 M [(0, .ref (gAd t 7 o0)), (1, .long y1), (3, .int x3), (4, .int x4)] [] 11) {o0 : Nat} {y1 : Int64} {x3 : Int32} {M : gM} (v0 : o0 < 5) (h : wp_X7_passUntil_b115 R11 K o0 y1 x3 M) : G t rm_X7_passUntil X 9 0 0 M [(0, .ref (gAd t 7 o0)), (1, .long y1), (3, .int x3)] [] 115 := by
  obtain ⟨n115, en115⟩ : ∃ z : Int32, z = x3 + Int32.ofInt (1) := ⟨_, rfl⟩
  have h := h n115 en115
  refine gg_iinc (pc := 115) cx 2 [(3, .int n115), (0, .ref (gAd t 7 o0)), (1, .long y1)] dX7_passUntil_115 rfl en115.symm (by decide) rfl ?_
  refine gg_aload_n (pc := 118) cx 1 rfl dX7_passUntil_118 rfl ?_
  refine gf_World_line (pc := 119) cx (hC 7 _ rfl v0) tw_305 dX7_passUntil_119 ?_
  refine gg_callVi (pc := 122) cx cal_X2_earliest calv_X2_earliest (ct_X2_earliest cx.tr hC v0 h) tw_654 (hC 2 _ rfl v0) rfl rfl rfl (st := []) rfl (Nat.le_of_ble_eq_true rfl) ⟨Nat.le_of_ble_eq_true rfl, Nat.le_of_ble_eq_true rfl⟩ ⟨Nat.le_of_ble_eq_true rfl, Nat.le_of_ble_eq_true rfl⟩ dX7_passUntil_122 (fun r122 M122 h => ?_)
  refine gg_istore (pc := 125) cx [(4, .int r122), (3, .int n115), (0, .ref (gAd t 7 o0)), (1, .long y1)] dX7_passUntil_125 (by decide) rfl ?_
  refine gg_goto (pc := 127) cx (tgt := 11) dX7_passUntil_127 (by decide) ?_
  refine gg_lv (lv' := [(0, .ref (gAd t 7 o0)), (1, .long y1), (3, .int n115), (4, .int r122)]) [2, 3, 1, 0] rfl ?_
  exact hR11 o0 y1 n115 r122 M122 v0 h
set_option maxRecDepth 100000 in
set_option maxHeartbeats 4000000 in
theorem wk_X7_passUntil_L11 {t : gT} {X : gX} (cx : g_Cx t X cX7_passUntil 9 RX7 (some .int)) (hC : g_hC t) {K : Int32 → gM → Prop} (hQ : gXQ X = MQ (gXb X) (va_Qi K (g_B t) (g_A t)) (gXa X) (gXs X) rm_X7_passUntil.cells rm_X7_passUntil.slots (g_A t)) (f : Nat) : ∀ (o0 : Nat) (y1 : Int64) (x3 : Int32) (x4 : Int32) (M : gM), o0 < 5 → wp_X7_passUntil_L11 K f o0 y1 x3 x4 M → G t rm_X7_passUntil X 9 0 0 M [(0, .ref (gAd t 7 o0)), (1, .long y1), (3, .int x3), (4, .int x4)] [] 11 := by
  induction f with
  | zero => intro _ _ _ _ _ _ _; exact False.elim (by assumption)
  | succ f ih =>
    intro o0 y1 x3 x4 M v0 h
    refine gg_iload (pc := 11) cx 3 rfl dX7_passUntil_11 ?_
    refine gg_if_lt (pc := 13) cx (tgt := 130) dX7_passUntil_13 (by decide) (fun c13 => ?_) (fun c13 => ?_)
    · have h := g_it c13 h
      refine gg_lv (lv' := [(0, .ref (gAd t 7 o0)), (1, .long y1), (3, .int x3)]) [0, 1, 2] rfl ?_
      exact wk_X7_passUntil_b130 cx hC hQ v0 h
    · have h := g_if c13 h
      refine gg_aload_n (pc := 16) cx 0 rfl dX7_passUntil_16 rfl ?_
      refine gf_World_line (pc := 17) cx (hC 7 _ rfl v0) tw_305 dX7_passUntil_17 ?_
      refine gf_Line_release (pc := 20) cx (hC 2 _ rfl v0) tw_242 dX7_passUntil_20 ?_
      refine gg_iload (pc := 23) cx 3 rfl dX7_passUntil_23 ?_
      have q25 := h.1
      have h := h.2
      refine gg_lald (pc := 25) cx (hC 21 _ rfl v0) rfl q25 dX7_passUntil_25 ?_
      refine gg_lload_n (pc := 26) cx 1 rfl dX7_passUntil_26 rfl ?_
      refine gg_lcmp_gt (pc := 27) cx (tgt := 130) dX7_passUntil_27 dX7_passUntil_28 (by decide) (fun c27 => ?_) (fun c27 => ?_)
      · have h := g_it c27 h
        refine gg_lv (lv' := [(0, .ref (gAd t 7 o0)), (1, .long y1), (3, .int x3)]) [0, 1, 2] rfl ?_
        exact wk_X7_passUntil_b130 cx hC hQ v0 h
      · have h := g_if c27 h
        refine gg_iload_n (pc := 31) cx 2 rfl dX7_passUntil_31 rfl ?_
        refine gg_sipush (pc := 32) cx (v := 768) dX7_passUntil_32 (by decide) ?_
        refine gg_icmp_ge (pc := 35) cx (tgt := 130) dX7_passUntil_35 (by decide) (fun c35 => ?_) (fun c35 => ?_)
        · have h := g_it c35 h
          refine gg_lv (lv' := [(0, .ref (gAd t 7 o0)), (1, .long y1), (3, .int x3)]) [0, 1, 2] rfl ?_
          exact wk_X7_passUntil_b130 cx hC hQ v0 h
        · have h := g_if c35 h
          refine gg_aload_n (pc := 38) cx 0 rfl dX7_passUntil_38 rfl ?_
          refine gf_World_line (pc := 39) cx (hC 7 _ rfl v0) tw_305 dX7_passUntil_39 ?_
          refine gf_Line_node (pc := 42) cx (hC 2 _ rfl v0) tw_238 dX7_passUntil_42 ?_
          refine gg_iload (pc := 45) cx 3 rfl dX7_passUntil_45 ?_
          have q47 := h.1
          have h := h.2
          refine gg_iald (pc := 47) cx (hC 19 _ rfl v0) rfl q47 dX7_passUntil_47 ?_
          refine gg_topi (fun n48 en48 => ?_)
          have h := h n48 en48
          refine gg_istore (pc := 48) cx [(5, .int n48), (0, .ref (gAd t 7 o0)), (1, .long y1), (3, .int x3), (4, .int x4)] dX7_passUntil_48 (by decide) rfl ?_
          refine gg_aload_n (pc := 50) cx 1 rfl dX7_passUntil_50 rfl ?_
          refine gf_World_line (pc := 51) cx (hC 7 _ rfl v0) tw_305 dX7_passUntil_51 ?_
          refine gf_Line_packet (pc := 54) cx (hC 2 _ rfl v0) tw_240 dX7_passUntil_54 ?_
          refine gg_iload (pc := 57) cx 4 rfl dX7_passUntil_57 ?_
          have q59 := h.1
          have h := h.2
          refine gg_iald (pc := 59) cx (hC 20 _ rfl v0) rfl q59 dX7_passUntil_59 ?_
          refine gg_topi (fun n60 en60 => ?_)
          have h := h n60 en60
          refine gg_istore (pc := 60) cx [(6, .int n60), (5, .int n48), (0, .ref (gAd t 7 o0)), (1, .long y1), (3, .int x3), (4, .int x4)] dX7_passUntil_60 (by decide) rfl ?_
          refine gg_aload_n (pc := 62) cx 2 rfl dX7_passUntil_62 rfl ?_
          refine gf_World_line (pc := 63) cx (hC 7 _ rfl v0) tw_305 dX7_passUntil_63 ?_
          refine gf_Line_release (pc := 66) cx (hC 2 _ rfl v0) tw_242 dX7_passUntil_66 ?_
          refine gg_iload (pc := 69) cx 5 rfl dX7_passUntil_69 ?_
          have q71 := h.1
          have h := h.2
          refine gg_lald (pc := 71) cx (hC 21 _ rfl v0) rfl q71 dX7_passUntil_71 ?_
          refine gg_topl (fun n72 en72 => ?_)
          have h := h n72 en72
          refine gg_lstore (pc := 72) cx [(7, .long n72), (6, .int n60), (5, .int n48), (0, .ref (gAd t 7 o0)), (1, .long y1), (3, .int x3), (4, .int x4)] dX7_passUntil_72 (by decide) rfl ?_
          refine gg_aload_n (pc := 74) cx 3 rfl dX7_passUntil_74 rfl ?_
          refine gf_World_line (pc := 75) cx (hC 7 _ rfl v0) tw_305 dX7_passUntil_75 ?_
          refine gg_iload (pc := 78) cx 6 rfl dX7_passUntil_78 ?_
          refine gg_callVv (pc := 80) cx cal_X2_remove calv_X2_remove (ct_X2_remove cx.tr hC v0 h) tw_658 (hC 2 _ rfl v0) rfl rfl rfl (st := []) rfl (Nat.le_of_ble_eq_true rfl) ⟨Nat.le_of_ble_eq_true rfl, Nat.le_of_ble_eq_true rfl⟩ ⟨Nat.le_of_ble_eq_true rfl, Nat.le_of_ble_eq_true rfl⟩ dX7_passUntil_80 (fun M80 h => ?_)
          refine gg_aload_n (pc := 83) cx 3 rfl dX7_passUntil_83 rfl ?_
          refine gf_World_plan (pc := 84) cx (hC 7 _ rfl v0) tw_297 dX7_passUntil_84 ?_
          refine gg_iload (pc := 87) cx 2 rfl dX7_passUntil_87 ?_
          refine gg_callVi (pc := 89) cx cal_X5_hasNode calv_X5_hasNode (ct_X5_hasNode cx.tr hC (g_v56 v0) h) tw_614 (hC 5 _ rfl (g_v56 v0)) rfl rfl rfl (st := []) rfl (Nat.le_of_ble_eq_true rfl) ⟨Nat.le_of_ble_eq_true rfl, Nat.le_of_ble_eq_true rfl⟩ ⟨Nat.le_of_ble_eq_true rfl, Nat.le_of_ble_eq_true rfl⟩ dX7_passUntil_89 (fun r89 M89 h => ?_)
          refine gg_if_eq (pc := 92) cx (tgt := 115) dX7_passUntil_92 (by decide) (fun c92 => ?_) (fun c92 => ?_)
          · have h := g_it c92 h
            refine gg_lv (lv' := [(0, .ref (gAd t 7 o0)), (1, .long y1), (3, .int x3)]) [3, 4, 5] rfl ?_
            exact wk_X7_passUntil_b115 cx hC hQ ih v0 h
          · have h := g_if c92 h
            refine gg_aload_n (pc := 95) cx 3 rfl dX7_passUntil_95 rfl ?_
            refine gg_aload_n (pc := 96) cx 3 rfl dX7_passUntil_96 rfl ?_
            refine gf_World_plan (pc := 97) cx (hC 7 _ rfl v0) tw_297 dX7_passUntil_97 ?_
            refine gf_Plan_parent (pc := 100) cx (hC 5 _ rfl (g_v56 v0)) tw_48 dX7_passUntil_100 ?_
            refine gg_iload (pc := 103) cx 2 rfl dX7_passUntil_103 ?_
            have q105 := h.1
            have h := h.2
            refine gg_iald (pc := 105) cx (hC 32 _ rfl (g_v56 v0)) rfl q105 dX7_passUntil_105 ?_
            refine gg_iload (pc := 106) cx 2 rfl dX7_passUntil_106 ?_
            refine gg_iload (pc := 108) cx 1 rfl dX7_passUntil_108 ?_
            refine gg_lload (pc := 110) cx 0 rfl dX7_passUntil_110 ?_
            refine gg_callVv (pc := 112) cx cal_X7_climb calv_X7_climb (ct_X7_climb cx.tr hC v0 h) tw_663 (hC 7 _ rfl v0) rfl rfl rfl (st := []) rfl (Nat.le_of_ble_eq_true rfl) ⟨Nat.le_of_ble_eq_true rfl, Nat.le_of_ble_eq_true rfl⟩ ⟨Nat.le_of_ble_eq_true rfl, Nat.le_of_ble_eq_true rfl⟩ dX7_passUntil_112 (fun M112 h => ?_)
            refine gg_lv (lv' := [(0, .ref (gAd t 7 o0)), (1, .long y1), (3, .int x3)]) [3, 4, 5] rfl ?_
            exact wk_X7_passUntil_b115 cx hC hQ ih v0 h
theorem cal_X7_passUntil : g_Cal yX7_passUntil cX7_passUntil 9 (some .int) 1 := ⟨tw_5, tw_653, by decide, by decide, by decide +kernel⟩
theorem calv_X7_passUntil : g_CalV yX7_passUntil := ⟨tw_651, tw_652⟩
set_option maxRecDepth 100000 in
set_option maxHeartbeats 4000000 in
theorem ct_X7_passUntil {l : Launch} (hl : l.stackTraces = false) {t : gT} (hC : g_hC t) {o0 : Nat} {y1 : Int64} (v0 : o0 < 5) {M : gM} {K : Int32 → gM → Prop} (h : wp_X7_passUntil o0 y1 M K) : Met l yX7_passUntil (g_y yX7_passUntil cX7_passUntil 9 (some .int)) rm_X7_passUntil (va_Pc [.ref (gAd t 7 o0), .long y1] (g_Pre t M)) (va_Qi K (g_B t) (g_A t)) rm_X7_passUntil.cells rm_X7_passUntil.slots (g_A t) := by
  refine g_met hl rfl (Nat.le_of_ble_eq_true rfl) (fun X hlX cx hQ => ?_)
  subst hlX
  refine gg_iconst (pc := 0) cx (v := 0) dX7_passUntil_0 (by decide) ?_
  refine gg_istore_n (pc := 1) cx [(3, .int 0), (0, .ref (gAd t 7 o0)), (1, .long y1)] dX7_passUntil_1 rfl (by decide) rfl ?_
  refine gg_aload_n (pc := 2) cx 1 rfl dX7_passUntil_2 rfl ?_
  refine gf_World_line (pc := 3) cx (hC 7 _ rfl v0) tw_305 dX7_passUntil_3 ?_
  refine gg_callVi (pc := 6) cx cal_X2_earliest calv_X2_earliest (ct_X2_earliest cx.tr hC v0 h) tw_654 (hC 2 _ rfl v0) rfl rfl rfl (st := []) rfl (Nat.le_of_ble_eq_true rfl) ⟨Nat.le_of_ble_eq_true rfl, Nat.le_of_ble_eq_true rfl⟩ ⟨Nat.le_of_ble_eq_true rfl, Nat.le_of_ble_eq_true rfl⟩ dX7_passUntil_6 (fun r6 M6 h => ?_)
  refine gg_istore (pc := 9) cx [(4, .int r6), (3, .int 0), (0, .ref (gAd t 7 o0)), (1, .long y1)] dX7_passUntil_9 (by decide) rfl ?_
  refine gg_lv (lv' := [(0, .ref (gAd t 7 o0)), (1, .long y1), (3, .int 0), (4, .int r6)]) [2, 3, 1, 0] rfl ?_
  obtain ⟨f11, h⟩ := h
  exact wk_X7_passUntil_L11 cx hC hQ f11 o0 y1 0 r6 M6 v0 h
theorem cal_X7_send : g_Cal yX7_send cX7_send 4 (some .int) 0 := ⟨tw_5, tw_643, by decide, by decide, by decide +kernel⟩
theorem calv_X7_send : g_CalV yX7_send := ⟨tw_641, tw_642⟩
set_option maxRecDepth 100000 in
set_option maxHeartbeats 4000000 in
theorem ct_X7_send {l : Launch} (hl : l.stackTraces = false) {t : gT} (hC : g_hC t) {o0 : Nat} (v0 : o0 < 5) {M : gM} {K : Int32 → gM → Prop} (h : wp_X7_send o0 M K) : Met l yX7_send (g_y yX7_send cX7_send 4 (some .int)) rm_X7_send (va_Pc [.ref (gAd t 7 o0)] (g_Pre t M)) (va_Qi K (g_B t) (g_A t)) rm_X7_send.cells rm_X7_send.slots (g_A t) := by
  refine g_met hl rfl (Nat.le_of_ble_eq_true rfl) (fun X hlX cx hQ => ?_)
  subst hlX
  refine gg_aload_n (pc := 0) cx 0 rfl dX7_send_0 rfl ?_
  refine gg_callVi (pc := 1) cx cal_X7_leave calv_X7_leave (ct_X7_leave cx.tr hC v0 h) tw_644 (hC 7 _ rfl v0) rfl rfl rfl (st := []) rfl (Nat.le_of_ble_eq_true rfl) ⟨Nat.le_of_ble_eq_true rfl, Nat.le_of_ble_eq_true rfl⟩ ⟨Nat.le_of_ble_eq_true rfl, Nat.le_of_ble_eq_true rfl⟩ dX7_send_1 (fun r1 M1 h => ?_)
  refine gg_istore_n (pc := 4) cx [(1, .int r1), (0, .ref (gAd t 7 o0))] dX7_send_4 rfl (by decide) rfl ?_
  refine gg_aload_n (pc := 5) cx 1 rfl dX7_send_5 rfl ?_
  refine gf_World_packets (pc := 6) cx (hC 7 _ rfl v0) tw_301 dX7_send_6 ?_
  refine gg_iload_n (pc := 9) cx 0 rfl dX7_send_9 rfl ?_
  refine gg_callVi (pc := 10) cx cal_X4_has calv_X4_has (ct_X4_has cx.tr hC v0 h) tw_625 (hC 4 _ rfl v0) rfl rfl rfl (st := []) rfl (Nat.le_of_ble_eq_true rfl) ⟨Nat.le_of_ble_eq_true rfl, Nat.le_of_ble_eq_true rfl⟩ ⟨Nat.le_of_ble_eq_true rfl, Nat.le_of_ble_eq_true rfl⟩ dX7_send_10 (fun r10 M10 h => ?_)
  refine gg_if_eq (pc := 13) cx (tgt := 50) dX7_send_13 (by decide) (fun c13 => ?_) (fun c13 => ?_)
  · have h := g_it c13 h
    refine gg_iload_n (pc := 50) cx 0 rfl dX7_send_50 rfl ?_
    exact gg_iret (pc := 51) cx hQ h dX7_send_51
  · have h := g_if c13 h
    refine gg_aload_n (pc := 16) cx 1 rfl dX7_send_16 rfl ?_
    refine gf_World_time (pc := 17) cx (hC 7 _ rfl v0) tw_293 dX7_send_17 ?_
    refine gg_aload_n (pc := 20) cx 1 rfl dX7_send_20 rfl ?_
    refine gf_World_packets (pc := 21) cx (hC 7 _ rfl v0) tw_301 dX7_send_21 ?_
    refine gf_Packets_length (pc := 24) cx (hC 4 _ rfl v0) tw_165 dX7_send_24 ?_
    refine gg_iload_n (pc := 27) cx 0 rfl dX7_send_27 rfl ?_
    have q28 := h.1
    have h := h.2
    refine gg_iald (pc := 28) cx (hC 27 _ rfl v0) rfl q28 dX7_send_28 ?_
    refine gg_aload_n (pc := 29) cx 1 rfl dX7_send_29 rfl ?_
    refine gf_World_linkRate (pc := 30) cx (hC 7 _ rfl v0) tw_295 dX7_send_30 ?_
    refine gg_callSl (pc := 33) cx cal_X7_unitsUp tw_646 (ct_X7_unitsUp cx.tr hC  h) tw_645 rfl (st := [.long (M10.2 7 o0 0)]) rfl (Nat.le_of_ble_eq_true rfl) ⟨Nat.le_of_ble_eq_true rfl, Nat.le_of_ble_eq_true rfl⟩ ⟨Nat.le_of_ble_eq_true rfl, Nat.le_of_ble_eq_true rfl⟩ dX7_send_33 (fun r33 M33 h => ?_)
    refine gg_ladd (pc := 36) cx dX7_send_36 ?_
    refine gg_topl (fun n37 en37 => ?_)
    have h := h n37 en37
    refine gg_lstore_n (pc := 37) cx [(2, .long n37), (1, .int r1), (0, .ref (gAd t 7 o0))] dX7_send_37 rfl (by decide) rfl ?_
    refine gg_aload_n (pc := 38) cx 2 rfl dX7_send_38 rfl ?_
    refine gg_iload_n (pc := 39) cx 1 rfl dX7_send_39 rfl ?_
    refine gg_lload_n (pc := 40) cx 0 rfl dX7_send_40 rfl ?_
    refine gg_callVv (pc := 41) cx cal_X7_depart calv_X7_depart (ct_X7_depart cx.tr hC v0 h) tw_649 (hC 7 _ rfl v0) rfl rfl rfl (st := []) rfl (Nat.le_of_ble_eq_true rfl) ⟨Nat.le_of_ble_eq_true rfl, Nat.le_of_ble_eq_true rfl⟩ ⟨Nat.le_of_ble_eq_true rfl, Nat.le_of_ble_eq_true rfl⟩ dX7_send_41 (fun M41 h => ?_)
    refine gg_aload_n (pc := 44) cx 2 rfl dX7_send_44 rfl ?_
    refine gg_lload_n (pc := 45) cx 0 rfl dX7_send_45 rfl ?_
    refine gg_callVi (pc := 46) cx cal_X7_passUntil calv_X7_passUntil (ct_X7_passUntil cx.tr hC v0 h) tw_650 (hC 7 _ rfl v0) rfl rfl rfl (st := []) rfl (Nat.le_of_ble_eq_true rfl) ⟨Nat.le_of_ble_eq_true rfl, Nat.le_of_ble_eq_true rfl⟩ ⟨Nat.le_of_ble_eq_true rfl, Nat.le_of_ble_eq_true rfl⟩ dX7_send_46 (fun r46 M46 h => ?_)
    refine gg_pop (pc := 49) cx dX7_send_49 rfl ?_
    refine gg_iload_n (pc := 50) cx 1 rfl dX7_send_50 rfl ?_
    exact gg_iret (pc := 51) cx hQ h dX7_send_51
theorem cal_X7_rankOfArrival : g_Cal yX7_rankOfArrival cX7_rankOfArrival 6 (some .long) 4 := ⟨tw_5, tw_1044, by decide, by decide, by decide +kernel⟩
theorem calv_X7_rankOfArrival : g_CalV yX7_rankOfArrival := ⟨tw_1042, tw_1043⟩
set_option maxRecDepth 100000 in
set_option maxHeartbeats 4000000 in
theorem ct_X7_rankOfArrival {l : Launch} (hl : l.stackTraces = false) {t : gT} (hC : g_hC t) {o0 : Nat} {x1 : Int32} {x2 : Int32} {x3 : Int32} {x4 : Int32} (v0 : o0 < 5) {M : gM} {K : Int64 → gM → Prop} (h : wp_X7_rankOfArrival o0 x1 x2 x3 x4 M K) : Met l yX7_rankOfArrival (g_y yX7_rankOfArrival cX7_rankOfArrival 6 (some .long)) rm_X7_rankOfArrival (va_Pc [.ref (gAd t 7 o0), .int x1, .int x2, .int x3, .int x4] (g_Pre t M)) (va_Ql K (g_B t) (g_A t)) rm_X7_rankOfArrival.cells rm_X7_rankOfArrival.slots (g_A t) := by
  refine g_met hl rfl (Nat.le_of_ble_eq_true rfl) (fun X hlX cx hQ => ?_)
  subst hlX
  refine gg_aload_n (pc := 0) cx 0 rfl dX7_rankOfArrival_0 rfl ?_
  refine gg_iload_n (pc := 1) cx 1 rfl dX7_rankOfArrival_1 rfl ?_
  refine gg_callVi (pc := 2) cx cal_X7_leafFor calv_X7_leafFor (ct_X7_leafFor cx.tr hC v0 h) tw_979 (hC 7 _ rfl v0) rfl rfl rfl (st := []) rfl (Nat.le_of_ble_eq_true rfl) ⟨Nat.le_of_ble_eq_true rfl, Nat.le_of_ble_eq_true rfl⟩ ⟨Nat.le_of_ble_eq_true rfl, Nat.le_of_ble_eq_true rfl⟩ dX7_rankOfArrival_2 (fun r2 M2 h => ?_)
  refine gg_istore (pc := 5) cx [(5, .int r2), (0, .ref (gAd t 7 o0)), (1, .int x1), (2, .int x2), (3, .int x3), (4, .int x4)] dX7_rankOfArrival_5 (by decide) rfl ?_
  refine gg_aload_n (pc := 7) cx 1 rfl dX7_rankOfArrival_7 rfl ?_
  refine gf_World_calculator (pc := 8) cx (hC 7 _ rfl v0) tw_307 dX7_rankOfArrival_8 ?_
  refine gg_iload_n (pc := 11) cx 4 rfl dX7_rankOfArrival_11 rfl ?_
  refine gg_i2l (pc := 12) cx dX7_rankOfArrival_12 ?_
  refine gg_iload_n (pc := 13) cx 3 rfl dX7_rankOfArrival_13 rfl ?_
  refine gg_i2l (pc := 14) cx dX7_rankOfArrival_14 ?_
  refine gg_aload_n (pc := 15) cx 1 rfl dX7_rankOfArrival_15 rfl ?_
  refine gf_World_time (pc := 16) cx (hC 7 _ rfl v0) tw_293 dX7_rankOfArrival_16 ?_
  refine gg_iload (pc := 19) cx 5 rfl dX7_rankOfArrival_19 ?_
  refine gg_i2l (pc := 21) cx dX7_rankOfArrival_21 ?_
  refine gg_ladd (pc := 22) cx dX7_rankOfArrival_22 ?_
  refine gg_callVv (pc := 23) cx cal_X0_setPacket calv_X0_setPacket (ct_X0_setPacket cx.tr hC (Nat.le_of_ble_eq_true rfl) h) tw_667 (hC 0 _ rfl (Nat.le_of_ble_eq_true rfl)) rfl rfl rfl (st := []) rfl (Nat.le_of_ble_eq_true rfl) ⟨Nat.le_of_ble_eq_true rfl, Nat.le_of_ble_eq_true rfl⟩ ⟨Nat.le_of_ble_eq_true rfl, Nat.le_of_ble_eq_true rfl⟩ dX7_rankOfArrival_23 (fun M23 h => ?_)
  refine gg_aload_n (pc := 26) cx 1 rfl dX7_rankOfArrival_26 rfl ?_
  refine gg_iload (pc := 27) cx 0 rfl dX7_rankOfArrival_27 ?_
  refine gg_iload_n (pc := 29) cx 2 rfl dX7_rankOfArrival_29 rfl ?_
  refine gg_aload_n (pc := 30) cx 1 rfl dX7_rankOfArrival_30 rfl ?_
  refine gf_World_time (pc := 31) cx (hC 7 _ rfl v0) tw_293 dX7_rankOfArrival_31 ?_
  refine gg_callVi (pc := 34) cx cal_X7_lookAround calv_X7_lookAround (ct_X7_lookAround cx.tr hC v0 h) tw_675 (hC 7 _ rfl v0) rfl rfl rfl (st := []) rfl (Nat.le_of_ble_eq_true rfl) ⟨Nat.le_of_ble_eq_true rfl, Nat.le_of_ble_eq_true rfl⟩ ⟨Nat.le_of_ble_eq_true rfl, Nat.le_of_ble_eq_true rfl⟩ dX7_rankOfArrival_34 (fun r34 M34 h => ?_)
  refine gg_if_ne (pc := 37) cx (tgt := 42) dX7_rankOfArrival_37 (by decide) (fun c37 => ?_) (fun c37 => ?_)
  · have h := g_if c37 h
    refine gg_aload_n (pc := 42) cx 1 rfl dX7_rankOfArrival_42 rfl ?_
    refine gf_World_calculator (pc := 43) cx (hC 7 _ rfl v0) tw_307 dX7_rankOfArrival_43 ?_
    refine gg_aload_n (pc := 46) cx 1 rfl dX7_rankOfArrival_46 rfl ?_
    refine gf_World_plan (pc := 47) cx (hC 7 _ rfl v0) tw_297 dX7_rankOfArrival_47 ?_
    refine gg_aload_n (pc := 50) cx 1 rfl dX7_rankOfArrival_50 rfl ?_
    refine gf_World_plan (pc := 51) cx (hC 7 _ rfl v0) tw_297 dX7_rankOfArrival_51 ?_
    refine gf_Plan_rankFrom (pc := 54) cx (hC 5 _ rfl (g_v56 v0)) tw_62 dX7_rankOfArrival_54 ?_
    refine gg_iload (pc := 57) cx 0 rfl dX7_rankOfArrival_57 ?_
    have q59 := h.1
    have h := h.2
    refine gg_iald (pc := 59) cx (hC 37 _ rfl (g_v56 v0)) rfl q59 dX7_rankOfArrival_59 ?_
    refine gg_aload_n (pc := 60) cx 1 rfl dX7_rankOfArrival_60 rfl ?_
    refine gf_World_plan (pc := 61) cx (hC 7 _ rfl v0) tw_297 dX7_rankOfArrival_61 ?_
    refine gf_Plan_stateFrom (pc := 64) cx (hC 5 _ rfl (g_v56 v0)) tw_64 dX7_rankOfArrival_64 ?_
    refine gg_iload (pc := 67) cx 0 rfl dX7_rankOfArrival_67 ?_
    have q69 := h.1
    have h := h.2
    refine gg_iald (pc := 69) cx (hC 38 _ rfl (g_v56 v0)) rfl q69 dX7_rankOfArrival_69 ?_
    refine gg_callVl (pc := 70) cx cal_X0_valueOf calv_X0_valueOf (ct_X0_valueOf cx.tr hC (Nat.le_of_ble_eq_true rfl) (g_v56 v0) h) tw_691 (hC 0 _ rfl (Nat.le_of_ble_eq_true rfl)) rfl rfl rfl (st := []) rfl (Nat.le_of_ble_eq_true rfl) ⟨Nat.le_of_ble_eq_true rfl, Nat.le_of_ble_eq_true rfl⟩ ⟨Nat.le_of_ble_eq_true rfl, Nat.le_of_ble_eq_true rfl⟩ dX7_rankOfArrival_70 (fun r70 M70 h => ?_)
    exact gg_lret (pc := 73) cx hQ h dX7_rankOfArrival_73
  · have h := g_it c37 h
    refine gg_lconst (pc := 40) cx (v := 0) dX7_rankOfArrival_40 (by decide) ?_
    exact gg_lret (pc := 41) cx hQ h dX7_rankOfArrival_41
set_option maxRecDepth 100000 in
set_option maxHeartbeats 4000000 in
theorem wk_X7_copyFrom_L62 {t : gT} {X : gX} (cx : g_Cx t X cX7_copyFrom 3 RX7 (none)) (hC : g_hC t) {K : gM → Prop} (hQ : gXQ X = MQ (gXb X) (va_Qv K (g_B t) (g_A t)) (gXa X) (gXs X) rm_X7_copyFrom.cells rm_X7_copyFrom.slots (g_A t)) (f : Nat) : ∀ (o0 : Nat) (o1 : Nat) (x2 : Int32) (M : gM), o0 < 5 → o1 < 5 → wp_X7_copyFrom_L62 K f o0 o1 x2 M → G t rm_X7_copyFrom X 3 0 0 M [(0, .ref (gAd t 7 o0)), (1, .ref (gAd t 7 o1)), (2, .int x2)] [] 62 := by
  induction f with
  | zero => intro _ _ _ _ _ _ _; exact False.elim (by assumption)
  | succ f ih =>
    intro o0 o1 x2 M v0 v1 h
    refine gg_iload_n (pc := 62) cx 2 rfl dX7_copyFrom_62 rfl ?_
    refine gg_aload_n (pc := 63) cx 0 rfl dX7_copyFrom_63 rfl ?_
    refine gf_World_nodes (pc := 64) cx (hC 7 _ rfl v0) tw_299 dX7_copyFrom_64 ?_
    refine gg_alen (pc := 67) cx (ca := 3) (v := 12) (hC 43 _ rfl v0) rfl rfl rfl dX7_copyFrom_67 ?_
    refine gg_icmp_ge (pc := 68) cx (tgt := 92) dX7_copyFrom_68 (by decide) (fun c68 => ?_) (fun c68 => ?_)
    · have h := g_it c68 h
      exact gg_vret (pc := 92) cx hQ h dX7_copyFrom_92
    · have h := g_if c68 h
      refine gg_aload_n (pc := 71) cx 0 rfl dX7_copyFrom_71 rfl ?_
      refine gf_World_nodes (pc := 72) cx (hC 7 _ rfl v0) tw_299 dX7_copyFrom_72 ?_
      refine gg_iload_n (pc := 75) cx 2 rfl dX7_copyFrom_75 rfl ?_
      have q76 := h.1
      have h := h.2
      refine gg_aald (pc := 76) cx (ca := 3) (hC 43 _ rfl v0) rfl rfl q76 rfl dX7_copyFrom_76 ?_
      refine gg_aload_n (pc := 77) cx 1 rfl dX7_copyFrom_77 rfl ?_
      refine gf_World_nodes (pc := 78) cx (hC 7 _ rfl v1) tw_299 dX7_copyFrom_78 ?_
      refine gg_iload_n (pc := 81) cx 2 rfl dX7_copyFrom_81 rfl ?_
      have q82 := h.1
      have h := h.2
      refine gg_aald (pc := 82) cx (ca := 3) (hC 43 _ rfl v1) rfl rfl q82 rfl dX7_copyFrom_82 ?_
      refine gg_callVv (pc := 83) cx cal_X3_copyFrom calv_X3_copyFrom (ct_X3_copyFrom cx.tr hC (g_vN v0 q76) (g_vN v1 q82) h) tw_1073 (hC 3 _ rfl (g_vN v0 q76)) rfl rfl rfl (st := []) rfl (Nat.le_of_ble_eq_true rfl) ⟨Nat.le_of_ble_eq_true rfl, Nat.le_of_ble_eq_true rfl⟩ ⟨Nat.le_of_ble_eq_true rfl, Nat.le_of_ble_eq_true rfl⟩ dX7_copyFrom_83 (fun M83 h => ?_)
      obtain ⟨n86, en86⟩ : ∃ z : Int32, z = x2 + Int32.ofInt (1) := ⟨_, rfl⟩
      have h := h n86 en86
      refine gg_iinc (pc := 86) cx 2 [(2, .int n86), (0, .ref (gAd t 7 o0)), (1, .ref (gAd t 7 o1))] dX7_copyFrom_86 rfl en86.symm (by decide) rfl ?_
      refine gg_goto (pc := 89) cx (tgt := 62) dX7_copyFrom_89 (by decide) ?_
      refine gg_lv (lv' := [(0, .ref (gAd t 7 o0)), (1, .ref (gAd t 7 o1)), (2, .int n86)]) [1, 2, 0] rfl ?_
      exact ih o0 o1 n86 M83 v0 v1 h
theorem cal_X7_copyFrom : g_Cal yX7_copyFrom cX7_copyFrom 3 (none) 1 := ⟨tw_5, tw_1056, by decide, by decide, by decide +kernel⟩
theorem calv_X7_copyFrom : g_CalV yX7_copyFrom := ⟨tw_1054, tw_1055⟩
set_option maxRecDepth 100000 in
set_option maxHeartbeats 4000000 in
theorem ct_X7_copyFrom {l : Launch} (hl : l.stackTraces = false) {t : gT} (hC : g_hC t) {o0 : Nat} {o1 : Nat} (v0 : o0 < 5) (v1 : o1 < 5) {M : gM} {K : gM → Prop} (h : wp_X7_copyFrom o0 o1 M K) : Met l yX7_copyFrom (g_y yX7_copyFrom cX7_copyFrom 3 (none)) rm_X7_copyFrom (va_Pc [.ref (gAd t 7 o0), .ref (gAd t 7 o1)] (g_Pre t M)) (va_Qv K (g_B t) (g_A t)) rm_X7_copyFrom.cells rm_X7_copyFrom.slots (g_A t) := by
  refine g_met hl rfl (Nat.le_of_ble_eq_true rfl) (fun X hlX cx hQ => ?_)
  subst hlX
  refine gg_aload_n (pc := 0) cx 0 rfl dX7_copyFrom_0 rfl ?_
  refine gg_aload_n (pc := 1) cx 1 rfl dX7_copyFrom_1 rfl ?_
  refine gf_World_time (pc := 2) cx (hC 7 _ rfl v1) tw_293 dX7_copyFrom_2 ?_
  refine gp_World_time (pc := 5) cx (hC 7 _ rfl v0) tw_293 dX7_copyFrom_5 ?_
  refine gg_mem (fun M5 eM5 => ?_)
  have h := h M5 eM5
  refine gg_aload_n (pc := 8) cx 0 rfl dX7_copyFrom_8 rfl ?_
  refine gg_aload_n (pc := 9) cx 1 rfl dX7_copyFrom_9 rfl ?_
  refine gf_World_linkRate (pc := 10) cx (hC 7 _ rfl v1) tw_295 dX7_copyFrom_10 ?_
  refine gp_World_linkRate (pc := 13) cx (hC 7 _ rfl v0) tw_295 dX7_copyFrom_13 ?_
  refine gg_mem (fun M13 eM13 => ?_)
  have h := h M13 eM13
  refine gg_aload_n (pc := 16) cx 0 rfl dX7_copyFrom_16 rfl ?_
  refine gf_World_plan (pc := 17) cx (hC 7 _ rfl v0) tw_297 dX7_copyFrom_17 ?_
  refine gg_aload_n (pc := 20) cx 1 rfl dX7_copyFrom_20 rfl ?_
  refine gf_World_plan (pc := 21) cx (hC 7 _ rfl v1) tw_297 dX7_copyFrom_21 ?_
  refine gg_callVv (pc := 24) cx cal_X5_copyFrom calv_X5_copyFrom (ct_X5_copyFrom cx.tr hC (g_v56 v0) (g_v56 v1) h) tw_533 (hC 5 _ rfl (g_v56 v0)) rfl rfl rfl (st := []) rfl (Nat.le_of_ble_eq_true rfl) ⟨Nat.le_of_ble_eq_true rfl, Nat.le_of_ble_eq_true rfl⟩ ⟨Nat.le_of_ble_eq_true rfl, Nat.le_of_ble_eq_true rfl⟩ dX7_copyFrom_24 (fun M24 h => ?_)
  refine gg_aload_n (pc := 27) cx 0 rfl dX7_copyFrom_27 rfl ?_
  refine gf_World_packets (pc := 28) cx (hC 7 _ rfl v0) tw_301 dX7_copyFrom_28 ?_
  refine gg_aload_n (pc := 31) cx 1 rfl dX7_copyFrom_31 rfl ?_
  refine gf_World_packets (pc := 32) cx (hC 7 _ rfl v1) tw_301 dX7_copyFrom_32 ?_
  refine gg_callVv (pc := 35) cx cal_X4_copyFrom calv_X4_copyFrom (ct_X4_copyFrom cx.tr hC v0 v1 h) tw_1057 (hC 4 _ rfl v0) rfl rfl rfl (st := []) rfl (Nat.le_of_ble_eq_true rfl) ⟨Nat.le_of_ble_eq_true rfl, Nat.le_of_ble_eq_true rfl⟩ ⟨Nat.le_of_ble_eq_true rfl, Nat.le_of_ble_eq_true rfl⟩ dX7_copyFrom_35 (fun M35 h => ?_)
  refine gg_aload_n (pc := 38) cx 0 rfl dX7_copyFrom_38 rfl ?_
  refine gf_World_flows (pc := 39) cx (hC 7 _ rfl v0) tw_303 dX7_copyFrom_39 ?_
  refine gg_aload_n (pc := 42) cx 1 rfl dX7_copyFrom_42 rfl ?_
  refine gf_World_flows (pc := 43) cx (hC 7 _ rfl v1) tw_303 dX7_copyFrom_43 ?_
  refine gg_callVv (pc := 46) cx cal_X1_copyFrom calv_X1_copyFrom (ct_X1_copyFrom cx.tr hC v0 v1 h) tw_1064 (hC 1 _ rfl v0) rfl rfl rfl (st := []) rfl (Nat.le_of_ble_eq_true rfl) ⟨Nat.le_of_ble_eq_true rfl, Nat.le_of_ble_eq_true rfl⟩ ⟨Nat.le_of_ble_eq_true rfl, Nat.le_of_ble_eq_true rfl⟩ dX7_copyFrom_46 (fun M46 h => ?_)
  refine gg_aload_n (pc := 49) cx 0 rfl dX7_copyFrom_49 rfl ?_
  refine gf_World_line (pc := 50) cx (hC 7 _ rfl v0) tw_305 dX7_copyFrom_50 ?_
  refine gg_aload_n (pc := 53) cx 1 rfl dX7_copyFrom_53 rfl ?_
  refine gf_World_line (pc := 54) cx (hC 7 _ rfl v1) tw_305 dX7_copyFrom_54 ?_
  refine gg_callVv (pc := 57) cx cal_X2_copyFrom calv_X2_copyFrom (ct_X2_copyFrom cx.tr hC v0 v1 h) tw_1069 (hC 2 _ rfl v0) rfl rfl rfl (st := []) rfl (Nat.le_of_ble_eq_true rfl) ⟨Nat.le_of_ble_eq_true rfl, Nat.le_of_ble_eq_true rfl⟩ ⟨Nat.le_of_ble_eq_true rfl, Nat.le_of_ble_eq_true rfl⟩ dX7_copyFrom_57 (fun M57 h => ?_)
  refine gg_iconst (pc := 60) cx (v := 0) dX7_copyFrom_60 (by decide) ?_
  refine gg_istore_n (pc := 61) cx [(2, .int 0), (0, .ref (gAd t 7 o0)), (1, .ref (gAd t 7 o1))] dX7_copyFrom_61 rfl (by decide) rfl ?_
  refine gg_lv (lv' := [(0, .ref (gAd t 7 o0)), (1, .ref (gAd t 7 o1)), (2, .int 0)]) [1, 2, 0] rfl ?_
  obtain ⟨f62, h⟩ := h
  exact wk_X7_copyFrom_L62 cx hC hQ f62 o0 o1 0 M57 v0 v1 h
