theorem g_tout_L_law {x : Int32} (h0 : ¬ x = 0) (h1 : ¬ x = 1) (h2 : ¬ x = 2) (h3 : ¬ x = 3) (h4 : ¬ x = 4) (h5 : ¬ x = 5) (h6 : ¬ x = 6) (h7 : ¬ x = 7) (h8 : ¬ x = 8) (h9 : ¬ x = 9) (h10 : ¬ x = 10) (h11 : ¬ x = 11) (h12 : ¬ x = 12) (h13 : ¬ x = 13) (h14 : ¬ x = 14) (h15 : ¬ x = 15) (h16 : ¬ x = 16) (h17 : ¬ x = 17) (h18 : ¬ x = 18) (h19 : ¬ x = 19) (h20 : ¬ x = 20) (h21 : ¬ x = 21) (h22 : ¬ x = 22) (h23 : ¬ x = 23) (h24 : ¬ x = 24) (h25 : ¬ x = 25) (h26 : ¬ x = 26) (h27 : ¬ x = 27) (h28 : ¬ x = 28) (h29 : ¬ x = 29) (h30 : ¬ x = 30) (h31 : ¬ x = 31) (h32 : ¬ x = 32) (h33 : ¬ x = 33) (h34 : ¬ x = 34) (h35 : ¬ x = 35) (h36 : ¬ x = 36) (h37 : ¬ x = 37) (h38 : ¬ x = 38) (h39 : ¬ x = 39) (h40 : ¬ x = 40) (h41 : ¬ x = 41) (h42 : ¬ x = 42) : x.toInt < 0 ∨ 42 < x.toInt := by
  have e0 : ¬ x.toInt = 0 := fun q => h0 (Int32.toInt_inj.mp (by rw [q]; rfl))
  have e1 : ¬ x.toInt = 1 := fun q => h1 (Int32.toInt_inj.mp (by rw [q]; rfl))
  have e2 : ¬ x.toInt = 2 := fun q => h2 (Int32.toInt_inj.mp (by rw [q]; rfl))
  have e3 : ¬ x.toInt = 3 := fun q => h3 (Int32.toInt_inj.mp (by rw [q]; rfl))
  have e4 : ¬ x.toInt = 4 := fun q => h4 (Int32.toInt_inj.mp (by rw [q]; rfl))
  have e5 : ¬ x.toInt = 5 := fun q => h5 (Int32.toInt_inj.mp (by rw [q]; rfl))
  have e6 : ¬ x.toInt = 6 := fun q => h6 (Int32.toInt_inj.mp (by rw [q]; rfl))
  have e7 : ¬ x.toInt = 7 := fun q => h7 (Int32.toInt_inj.mp (by rw [q]; rfl))
  have e8 : ¬ x.toInt = 8 := fun q => h8 (Int32.toInt_inj.mp (by rw [q]; rfl))
  have e9 : ¬ x.toInt = 9 := fun q => h9 (Int32.toInt_inj.mp (by rw [q]; rfl))
  have e10 : ¬ x.toInt = 10 := fun q => h10 (Int32.toInt_inj.mp (by rw [q]; rfl))
  have e11 : ¬ x.toInt = 11 := fun q => h11 (Int32.toInt_inj.mp (by rw [q]; rfl))
  have e12 : ¬ x.toInt = 12 := fun q => h12 (Int32.toInt_inj.mp (by rw [q]; rfl))
  have e13 : ¬ x.toInt = 13 := fun q => h13 (Int32.toInt_inj.mp (by rw [q]; rfl))
  have e14 : ¬ x.toInt = 14 := fun q => h14 (Int32.toInt_inj.mp (by rw [q]; rfl))
  have e15 : ¬ x.toInt = 15 := fun q => h15 (Int32.toInt_inj.mp (by rw [q]; rfl))
  have e16 : ¬ x.toInt = 16 := fun q => h16 (Int32.toInt_inj.mp (by rw [q]; rfl))
  have e17 : ¬ x.toInt = 17 := fun q => h17 (Int32.toInt_inj.mp (by rw [q]; rfl))
  have e18 : ¬ x.toInt = 18 := fun q => h18 (Int32.toInt_inj.mp (by rw [q]; rfl))
  have e19 : ¬ x.toInt = 19 := fun q => h19 (Int32.toInt_inj.mp (by rw [q]; rfl))
  have e20 : ¬ x.toInt = 20 := fun q => h20 (Int32.toInt_inj.mp (by rw [q]; rfl))
  have e21 : ¬ x.toInt = 21 := fun q => h21 (Int32.toInt_inj.mp (by rw [q]; rfl))
  have e22 : ¬ x.toInt = 22 := fun q => h22 (Int32.toInt_inj.mp (by rw [q]; rfl))
  have e23 : ¬ x.toInt = 23 := fun q => h23 (Int32.toInt_inj.mp (by rw [q]; rfl))
  have e24 : ¬ x.toInt = 24 := fun q => h24 (Int32.toInt_inj.mp (by rw [q]; rfl))
  have e25 : ¬ x.toInt = 25 := fun q => h25 (Int32.toInt_inj.mp (by rw [q]; rfl))
  have e26 : ¬ x.toInt = 26 := fun q => h26 (Int32.toInt_inj.mp (by rw [q]; rfl))
  have e27 : ¬ x.toInt = 27 := fun q => h27 (Int32.toInt_inj.mp (by rw [q]; rfl))
  have e28 : ¬ x.toInt = 28 := fun q => h28 (Int32.toInt_inj.mp (by rw [q]; rfl))
  have e29 : ¬ x.toInt = 29 := fun q => h29 (Int32.toInt_inj.mp (by rw [q]; rfl))
  have e30 : ¬ x.toInt = 30 := fun q => h30 (Int32.toInt_inj.mp (by rw [q]; rfl))
  have e31 : ¬ x.toInt = 31 := fun q => h31 (Int32.toInt_inj.mp (by rw [q]; rfl))
  have e32 : ¬ x.toInt = 32 := fun q => h32 (Int32.toInt_inj.mp (by rw [q]; rfl))
  have e33 : ¬ x.toInt = 33 := fun q => h33 (Int32.toInt_inj.mp (by rw [q]; rfl))
  have e34 : ¬ x.toInt = 34 := fun q => h34 (Int32.toInt_inj.mp (by rw [q]; rfl))
  have e35 : ¬ x.toInt = 35 := fun q => h35 (Int32.toInt_inj.mp (by rw [q]; rfl))
  have e36 : ¬ x.toInt = 36 := fun q => h36 (Int32.toInt_inj.mp (by rw [q]; rfl))
  have e37 : ¬ x.toInt = 37 := fun q => h37 (Int32.toInt_inj.mp (by rw [q]; rfl))
  have e38 : ¬ x.toInt = 38 := fun q => h38 (Int32.toInt_inj.mp (by rw [q]; rfl))
  have e39 : ¬ x.toInt = 39 := fun q => h39 (Int32.toInt_inj.mp (by rw [q]; rfl))
  have e40 : ¬ x.toInt = 40 := fun q => h40 (Int32.toInt_inj.mp (by rw [q]; rfl))
  have e41 : ¬ x.toInt = 41 := fun q => h41 (Int32.toInt_inj.mp (by rw [q]; rfl))
  have e42 : ¬ x.toInt = 42 := fun q => h42 (Int32.toInt_inj.mp (by rw [q]; rfl))
  omega
theorem gg_lawret {t : gT} {X : gX} {k n : Nat} {M : gM} {lv : List (Nat × Value)} {pc : Nat} {r : Int32} {b : Nat} (cx : g_Cx t X code 8 RL (some .boolean)) (hQ : gXQ X = lw_Z (gXb X) (gXa X) (gXs X)) (ha : gXa X = #[Value.ref b]) (hB : (gXs X).heap.size ≤ gBs t) (hk : k ≤ 601024) (hn : n ≤ 7293000) (h : r = 1) (d : decode code pc = .ok (.ireturn, 1)) : G t room_1 X 8 k n M lv [.int r] pc := fun H locs ls a b' c => by
  subst h
  rw [hQ, ha]
  exact va_forget (fun q hq => Nat.le_trans hB (b'.2.2 q hq)) (W.widen hk hn (lw_ret cx.x cx.b cx.r cx.lk d))
set_option maxRecDepth 100000 in
set_option maxHeartbeats 40000000 in
theorem wk_L_law_L33 {t : gT} {X : gX} (cx : g_Cx t X code 8 RL (some .boolean)) (hC : g_hC t) (hM : g_hM t) (hO : g_hO t) {b : Nat} (hQ : gXQ X = lw_Z (gXb X) (gXa X) (gXs X)) (ha : gXa X = #[Value.ref b]) (hB : (gXs X).heap.size ≤ gBs t) (f : Nat) : ∀ (k n : Nat) (o1 : Nat) (o2 : Nat) (o3 : Nat) (x4 : Int32) (M : gM), k + 64 * f ≤ 600000 → n + 512 * f ≤ 7290000 → o1 < 1 → o2 < 1 → o3 < 1 → wp_L_law_L33 t f o1 o2 o3 x4 M → G t room_1 X 8 k n M [(0, .ref (gScB t)), (1, .ref (gAd t 8 o1)), (2, .ref (gAd t 9 o2)), (3, .ref (gAd t 59 o3)), (4, .int x4)] [] 33 := by
  induction f with
  | zero => intro _ _ _ _ _ _ _ _ _ _ _ _ _; exact False.elim (by assumption)
  | succ f ih =>
    intro k n o1 o2 o3 x4 M hkf hnf v1 v2 v3 h
    refine gg_iload (pc := 33) cx 4 rfl dL_law_33 ?_
    refine gg_aload_n (pc := 35) cx 0 rfl dL_law_35 rfl ?_
    refine gg_slen (pc := 36) cx dL_law_36 ?_
    refine gg_iconst (pc := 37) cx (v := 5) dL_law_37 (by decide) ?_
    refine gg_isub (pc := 38) cx dL_law_38 ?_
    refine gg_icmp_gt (pc := 39) cx (tgt := 2322) dL_law_39 (by decide) (fun c39 => ?_) (fun c39 => ?_)
    · have h := g_it c39 h
      refine gg_iconst (pc := 2322) cx (v := 1) dL_law_2322 (by decide) ?_
      exact gg_lawret (pc := 2323) cx hQ ha hB (by (try simp only [Nat.add_zero]); omega) (by (try simp only [Nat.add_zero]); omega) h dL_law_2323
    · have h := g_if c39 h
      refine gg_aload_n (pc := 42) cx 0 rfl dL_law_42 rfl ?_
      refine gg_iload (pc := 43) cx 4 rfl dL_law_43 ?_
      have q45 := h.1
      have h := h.2
      refine gg_sld (pc := 45) cx q45 dL_law_45 ?_
      refine gg_bipush (pc := 46) cx (v := 63) dL_law_46 (by decide) ?_
      refine gg_iand (pc := 48) cx dL_law_48 ?_
      by_cases c49_0 : ((gScX t x4.toNatClampNeg) &&& 63) = 0
      · have h := g_it c49_0 h
        refine gg_swv c49_0 ?_
        refine gg_tableIn (pc := 49) cx (off := 187) (tgt := 236) dL_law_49 (by decide) (by decide) rfl (by decide) ?_
        refine gg_aload_n (pc := 236) cx 1 rfl dL_law_236 rfl ?_
        refine gg_aload_n (pc := 237) cx 0 rfl dL_law_237 rfl ?_
        refine gg_iload (pc := 238) cx 4 rfl dL_law_238 ?_
        refine gg_iconst (pc := 240) cx (v := 1) dL_law_240 (by decide) ?_
        refine gg_iadd (pc := 241) cx dL_law_241 ?_
        have q242 := h.1
        have h := h.2
        refine gg_sld (pc := 242) cx q242 dL_law_242 ?_
        refine gg_aload_n (pc := 243) cx 3 rfl dL_law_243 rfl ?_
        refine gg_callSWi (pc := 244) cx cal_L_type tw_758 (ct_L_type cx.tr hC hM hO v1 v3 h) tw_757 rfl (st := []) rfl (Nat.le_of_ble_eq_true rfl) ⟨Nat.le_of_ble_eq_true rfl, Nat.le_of_ble_eq_true rfl⟩ ⟨by show _ ≤ 601024; (try simp only [rm_L_type]); omega, by show _ ≤ 7293000; (try simp only [rm_L_type]); omega⟩ dL_law_244 (fun r244 M244 h => ?_)
        refine gg_istore (pc := 247) cx [(5, .int r244), (0, .ref (gScB t)), (1, .ref (gAd t 8 o1)), (2, .ref (gAd t 9 o2)), (3, .ref (gAd t 59 o3)), (4, .int x4)] dL_law_247 (by decide) rfl ?_
        refine gg_aload_n (pc := 249) cx 3 rfl dL_law_249 rfl ?_
        refine gg_aload_n (pc := 250) cx 1 rfl dL_law_250 rfl ?_
        refine gg_iload (pc := 251) cx 5 rfl dL_law_251 ?_
        refine gg_iconst (pc := 253) cx (v := 1) dL_law_253 (by decide) ?_
        refine gg_iadd (pc := 254) cx dL_law_254 ?_
        have q255 := h.1
        have h := h.2
        refine gg_sld (pc := 255) cx q255 dL_law_255 ?_
        refine gg_callVi (pc := 256) cx cal_X9_type calv_X9_type (ct_X9_type cx.tr hM v2 h) tw_1371 (hM 9 _ rfl v2) rfl rfl rfl (st := []) rfl (Nat.le_of_ble_eq_true rfl) ⟨Nat.le_of_ble_eq_true rfl, Nat.le_of_ble_eq_true rfl⟩ ⟨by show _ ≤ 601024; (try simp only [rm_L_type, rm_X9_type]); omega, by show _ ≤ 7293000; (try simp only [rm_L_type, rm_X9_type]); omega⟩ dL_law_256 (fun r256 M256 h => ?_)
        refine gg_istore (pc := 259) cx [(6, .int r256), (5, .int r244), (0, .ref (gScB t)), (1, .ref (gAd t 8 o1)), (2, .ref (gAd t 9 o2)), (3, .ref (gAd t 59 o3)), (4, .int x4)] dL_law_259 (by decide) rfl ?_
        refine gg_aload_n (pc := 261) cx 4 rfl dL_law_261 rfl ?_
        refine gg_callVi (pc := 262) cx cal_X9_thrown calv_X9_thrown (ct_X9_thrown cx.tr hM v2 h) tw_1367 (hM 9 _ rfl v2) rfl rfl rfl (st := []) rfl (Nat.le_of_ble_eq_true rfl) ⟨Nat.le_of_ble_eq_true rfl, Nat.le_of_ble_eq_true rfl⟩ ⟨by show _ ≤ 601024; (try simp only [rm_L_type, rm_X9_type, rm_X9_thrown]); omega, by show _ ≤ 7293000; (try simp only [rm_L_type, rm_X9_type, rm_X9_thrown]); omega⟩ dL_law_262 (fun r262 M262 h => ?_)
        refine gg_iload (pc := 265) cx 1 rfl dL_law_265 ?_
        refine gg_icmp_eq (pc := 267) cx (tgt := 272) dL_law_267 (by decide) (fun c267 => ?_) (fun c267 => ?_)
        · have h := g_it c267 h
          refine gg_iload (pc := 272) cx 1 rfl dL_law_272 ?_
          refine gg_if_ne (pc := 274) cx (tgt := 289) dL_law_274 (by decide) (fun c274 => ?_) (fun c274 => ?_)
          · have h := g_if c274 h
            refine gg_goto (pc := 289) cx (tgt := 2316) dL_law_289 (by decide) ?_
            obtain ⟨n2316, en2316⟩ : ∃ z : Int32, z = x4 + Int32.ofInt (5) := ⟨_, rfl⟩
            have h := h n2316 en2316
            refine gg_iinc (pc := 2316) cx 6 [(4, .int n2316), (6, .int r256), (5, .int r244), (0, .ref (gScB t)), (1, .ref (gAd t 8 o1)), (2, .ref (gAd t 9 o2)), (3, .ref (gAd t 59 o3))] dL_law_2316 rfl en2316.symm (by decide) rfl ?_
            refine gg_goto (pc := 2319) cx (tgt := 33) dL_law_2319 (by decide) ?_
            refine gg_lv (lv' := [(0, .ref (gScB t)), (1, .ref (gAd t 8 o1)), (2, .ref (gAd t 9 o2)), (3, .ref (gAd t 59 o3)), (4, .int n2316)]) [3, 4, 5, 6, 0] rfl ?_
            refine gg_wide (k' := k + 64) (n' := n + 512) (by (try simp only [rm_L_type, rm_X9_type, rm_X9_thrown]); omega) (by (try simp only [rm_L_type, rm_X9_type, rm_X9_thrown]); omega) ?_
            exact ih (k + 64) (n + 512) o1 o2 o3 n2316 M262 (by omega) (by omega) v1 v2 v3 h
          · have h := g_it c274 h
            refine gg_aload_n (pc := 277) cx 5 rfl dL_law_277 rfl ?_
            refine gg_iconst (pc := 278) cx (v := 0) dL_law_278 (by decide) ?_
            have q279 := h.1
            have h := h.2
            refine gg_lald (pc := 279) cx (hO 59 _ rfl v3) rfl q279 dL_law_279 ?_
            refine gg_iload (pc := 280) cx 0 rfl dL_law_280 ?_
            refine gg_i2l (pc := 282) cx dL_law_282 ?_
            refine gg_lcmp_eq (pc := 283) cx (tgt := 289) dL_law_283 dL_law_284 (by decide) (fun c283 => ?_) (fun c283 => ?_)
            · have h := g_it c283 h
              refine gg_goto (pc := 289) cx (tgt := 2316) dL_law_289 (by decide) ?_
              obtain ⟨n2316, en2316⟩ : ∃ z : Int32, z = x4 + Int32.ofInt (5) := ⟨_, rfl⟩
              have h := h n2316 en2316
              refine gg_iinc (pc := 2316) cx 6 [(4, .int n2316), (6, .int r256), (5, .int r244), (0, .ref (gScB t)), (1, .ref (gAd t 8 o1)), (2, .ref (gAd t 9 o2)), (3, .ref (gAd t 59 o3))] dL_law_2316 rfl en2316.symm (by decide) rfl ?_
              refine gg_goto (pc := 2319) cx (tgt := 33) dL_law_2319 (by decide) ?_
              refine gg_lv (lv' := [(0, .ref (gScB t)), (1, .ref (gAd t 8 o1)), (2, .ref (gAd t 9 o2)), (3, .ref (gAd t 59 o3)), (4, .int n2316)]) [3, 4, 5, 6, 0] rfl ?_
              refine gg_wide (k' := k + 64) (n' := n + 512) (by (try simp only [rm_L_type, rm_X9_type, rm_X9_thrown]); omega) (by (try simp only [rm_L_type, rm_X9_type, rm_X9_thrown]); omega) ?_
              exact ih (k + 64) (n + 512) o1 o2 o3 n2316 M262 (by omega) (by omega) v1 v2 v3 h
            · have h := g_if c283 h
              refine gg_iconst (pc := 287) cx (v := 0) dL_law_287 (by decide) ?_
              exact gg_lawret (pc := 288) cx hQ ha hB (by (try simp only [rm_L_type, rm_X9_type, rm_X9_thrown]); omega) (by (try simp only [rm_L_type, rm_X9_type, rm_X9_thrown]); omega) h dL_law_288
        · have h := g_if c267 h
          refine gg_iconst (pc := 270) cx (v := 0) dL_law_270 (by decide) ?_
          exact gg_lawret (pc := 271) cx hQ ha hB (by (try simp only [rm_L_type, rm_X9_type, rm_X9_thrown]); omega) (by (try simp only [rm_L_type, rm_X9_type, rm_X9_thrown]); omega) h dL_law_271
      have h := g_if c49_0 h
      by_cases c49_1 : ((gScX t x4.toNatClampNeg) &&& 63) = 1
      · have h := g_it c49_1 h
        refine gg_swv c49_1 ?_
        refine gg_tableIn (pc := 49) cx (off := 243) (tgt := 292) dL_law_49 (by decide) (by decide) rfl (by decide) ?_
        refine gg_aload_n (pc := 292) cx 1 rfl dL_law_292 rfl ?_
        refine gg_callVi (pc := 293) cx cal_X8_clearText calv_X8_clearText (ct_X8_clearText cx.tr hC v1 h) tw_582 (hC 8 _ rfl v1) rfl rfl rfl (st := []) rfl (Nat.le_of_ble_eq_true rfl) ⟨Nat.le_of_ble_eq_true rfl, Nat.le_of_ble_eq_true rfl⟩ ⟨by show _ ≤ 601024; (try simp only [rm_X8_clearText]); omega, by show _ ≤ 7293000; (try simp only [rm_X8_clearText]); omega⟩ dL_law_293 (fun r293 M293 h => ?_)
        refine gg_aload_n (pc := 296) cx 2 rfl dL_law_296 rfl ?_
        refine gg_callVi (pc := 297) cx cal_X9_clearText calv_X9_clearText (ct_X9_clearText cx.tr hM v2 h) tw_1381 (hM 9 _ rfl v2) rfl rfl rfl (st := [.int r293]) rfl (Nat.le_of_ble_eq_true rfl) ⟨Nat.le_of_ble_eq_true rfl, Nat.le_of_ble_eq_true rfl⟩ ⟨by show _ ≤ 601024; (try simp only [rm_X8_clearText, rm_X9_clearText]); omega, by show _ ≤ 7293000; (try simp only [rm_X8_clearText, rm_X9_clearText]); omega⟩ dL_law_297 (fun r297 M297 h => ?_)
        refine gg_icmp_eq (pc := 300) cx (tgt := 2316) dL_law_300 (by decide) (fun c300 => ?_) (fun c300 => ?_)
        · have h := g_it c300 h
          obtain ⟨n2316, en2316⟩ : ∃ z : Int32, z = x4 + Int32.ofInt (5) := ⟨_, rfl⟩
          have h := h n2316 en2316
          refine gg_iinc (pc := 2316) cx 4 [(4, .int n2316), (0, .ref (gScB t)), (1, .ref (gAd t 8 o1)), (2, .ref (gAd t 9 o2)), (3, .ref (gAd t 59 o3))] dL_law_2316 rfl en2316.symm (by decide) rfl ?_
          refine gg_goto (pc := 2319) cx (tgt := 33) dL_law_2319 (by decide) ?_
          refine gg_lv (lv' := [(0, .ref (gScB t)), (1, .ref (gAd t 8 o1)), (2, .ref (gAd t 9 o2)), (3, .ref (gAd t 59 o3)), (4, .int n2316)]) [1, 2, 3, 4, 0] rfl ?_
          refine gg_wide (k' := k + 64) (n' := n + 512) (by (try simp only [rm_X8_clearText, rm_X9_clearText]); omega) (by (try simp only [rm_X8_clearText, rm_X9_clearText]); omega) ?_
          exact ih (k + 64) (n + 512) o1 o2 o3 n2316 M297 (by omega) (by omega) v1 v2 v3 h
        · have h := g_if c300 h
          refine gg_iconst (pc := 303) cx (v := 0) dL_law_303 (by decide) ?_
          exact gg_lawret (pc := 304) cx hQ ha hB (by (try simp only [rm_X8_clearText, rm_X9_clearText]); omega) (by (try simp only [rm_X8_clearText, rm_X9_clearText]); omega) h dL_law_304
      have h := g_if c49_1 h
      by_cases c49_2 : ((gScX t x4.toNatClampNeg) &&& 63) = 2
      · have h := g_it c49_2 h
        refine gg_swv c49_2 ?_
        refine gg_tableIn (pc := 49) cx (off := 256) (tgt := 305) dL_law_49 (by decide) (by decide) rfl (by decide) ?_
        refine gg_aload_n (pc := 305) cx 1 rfl dL_law_305 rfl ?_
        refine gg_callVi (pc := 306) cx cal_X8_loadTree calv_X8_loadTree (ct_X8_loadTree cx.tr hC v1 h) tw_586 (hC 8 _ rfl v1) rfl rfl rfl (st := []) rfl (Nat.le_of_ble_eq_true rfl) ⟨Nat.le_of_ble_eq_true rfl, Nat.le_of_ble_eq_true rfl⟩ ⟨by show _ ≤ 601024; (try simp only [rm_X8_loadTree]); omega, by show _ ≤ 7293000; (try simp only [rm_X8_loadTree]); omega⟩ dL_law_306 (fun r306 M306 h => ?_)
        refine gg_aload_n (pc := 309) cx 2 rfl dL_law_309 rfl ?_
        refine gg_callVi (pc := 310) cx cal_X9_loadTree calv_X9_loadTree (ct_X9_loadTree cx.tr hM v2 h) tw_1385 (hM 9 _ rfl v2) rfl rfl rfl (st := [.int r306]) rfl (Nat.le_of_ble_eq_true rfl) ⟨Nat.le_of_ble_eq_true rfl, Nat.le_of_ble_eq_true rfl⟩ ⟨by show _ ≤ 601024; (try simp only [rm_X8_loadTree, rm_X9_loadTree]); omega, by show _ ≤ 7293000; (try simp only [rm_X8_loadTree, rm_X9_loadTree]); omega⟩ dL_law_310 (fun r310 M310 h => ?_)
        refine gg_icmp_eq (pc := 313) cx (tgt := 2316) dL_law_313 (by decide) (fun c313 => ?_) (fun c313 => ?_)
        · have h := g_it c313 h
          obtain ⟨n2316, en2316⟩ : ∃ z : Int32, z = x4 + Int32.ofInt (5) := ⟨_, rfl⟩
          have h := h n2316 en2316
          refine gg_iinc (pc := 2316) cx 4 [(4, .int n2316), (0, .ref (gScB t)), (1, .ref (gAd t 8 o1)), (2, .ref (gAd t 9 o2)), (3, .ref (gAd t 59 o3))] dL_law_2316 rfl en2316.symm (by decide) rfl ?_
          refine gg_goto (pc := 2319) cx (tgt := 33) dL_law_2319 (by decide) ?_
          refine gg_lv (lv' := [(0, .ref (gScB t)), (1, .ref (gAd t 8 o1)), (2, .ref (gAd t 9 o2)), (3, .ref (gAd t 59 o3)), (4, .int n2316)]) [1, 2, 3, 4, 0] rfl ?_
          refine gg_wide (k' := k + 64) (n' := n + 512) (by (try simp only [rm_X8_loadTree, rm_X9_loadTree]); omega) (by (try simp only [rm_X8_loadTree, rm_X9_loadTree]); omega) ?_
          exact ih (k + 64) (n + 512) o1 o2 o3 n2316 M310 (by omega) (by omega) v1 v2 v3 h
        · have h := g_if c313 h
          refine gg_iconst (pc := 316) cx (v := 0) dL_law_316 (by decide) ?_
          exact gg_lawret (pc := 317) cx hQ ha hB (by (try simp only [rm_X8_loadTree, rm_X9_loadTree]); omega) (by (try simp only [rm_X8_loadTree, rm_X9_loadTree]); omega) h dL_law_317
      have h := g_if c49_2 h
      by_cases c49_3 : ((gScX t x4.toNatClampNeg) &&& 63) = 3
      · have h := g_it c49_3 h
        refine gg_swv c49_3 ?_
        refine gg_tableIn (pc := 49) cx (off := 269) (tgt := 318) dL_law_49 (by decide) (by decide) rfl (by decide) ?_
        refine gg_aload_n (pc := 318) cx 1 rfl dL_law_318 rfl ?_
        refine gg_aload_n (pc := 319) cx 0 rfl dL_law_319 rfl ?_
        refine gg_iload (pc := 320) cx 4 rfl dL_law_320 ?_
        refine gg_iconst (pc := 322) cx (v := 1) dL_law_322 (by decide) ?_
        refine gg_iadd (pc := 323) cx dL_law_323 ?_
        have q324 := h.1
        have h := h.2
        refine gg_sld (pc := 324) cx q324 dL_law_324 ?_
        refine gg_aload_n (pc := 325) cx 3 rfl dL_law_325 rfl ?_
        refine gg_callSWi (pc := 326) cx cal_L_loadTemplate tw_850 (ct_L_loadTemplate cx.tr hC hM hO v1 v3 h) tw_849 rfl (st := []) rfl (Nat.le_of_ble_eq_true rfl) ⟨Nat.le_of_ble_eq_true rfl, Nat.le_of_ble_eq_true rfl⟩ ⟨by show _ ≤ 601024; (try simp only [rm_L_loadTemplate]); omega, by show _ ≤ 7293000; (try simp only [rm_L_loadTemplate]); omega⟩ dL_law_326 (fun r326 M326 h => ?_)
        refine gg_istore (pc := 329) cx [(5, .int r326), (0, .ref (gScB t)), (1, .ref (gAd t 8 o1)), (2, .ref (gAd t 9 o2)), (3, .ref (gAd t 59 o3)), (4, .int x4)] dL_law_329 (by decide) rfl ?_
        refine gg_aload_n (pc := 331) cx 3 rfl dL_law_331 rfl ?_
        refine gg_aload_n (pc := 332) cx 1 rfl dL_law_332 rfl ?_
        refine gg_iload (pc := 333) cx 5 rfl dL_law_333 ?_
        refine gg_iconst (pc := 335) cx (v := 1) dL_law_335 (by decide) ?_
        refine gg_iadd (pc := 336) cx dL_law_336 ?_
        have q337 := h.1
        have h := h.2
        refine gg_sld (pc := 337) cx q337 dL_law_337 ?_
        refine gg_callVi (pc := 338) cx cal_X9_loadTemplate calv_X9_loadTemplate (ct_X9_loadTemplate cx.tr hM v2 h) tw_1393 (hM 9 _ rfl v2) rfl rfl rfl (st := []) rfl (Nat.le_of_ble_eq_true rfl) ⟨Nat.le_of_ble_eq_true rfl, Nat.le_of_ble_eq_true rfl⟩ ⟨by show _ ≤ 601024; (try simp only [rm_L_loadTemplate, rm_X9_loadTemplate]); omega, by show _ ≤ 7293000; (try simp only [rm_L_loadTemplate, rm_X9_loadTemplate]); omega⟩ dL_law_338 (fun r338 M338 h => ?_)
        refine gg_istore (pc := 341) cx [(6, .int r338), (5, .int r326), (0, .ref (gScB t)), (1, .ref (gAd t 8 o1)), (2, .ref (gAd t 9 o2)), (3, .ref (gAd t 59 o3)), (4, .int x4)] dL_law_341 (by decide) rfl ?_
        refine gg_aload_n (pc := 343) cx 4 rfl dL_law_343 rfl ?_
        refine gg_callVi (pc := 344) cx cal_X9_thrown calv_X9_thrown (ct_X9_thrown cx.tr hM v2 h) tw_1367 (hM 9 _ rfl v2) rfl rfl rfl (st := []) rfl (Nat.le_of_ble_eq_true rfl) ⟨Nat.le_of_ble_eq_true rfl, Nat.le_of_ble_eq_true rfl⟩ ⟨by show _ ≤ 601024; (try simp only [rm_L_loadTemplate, rm_X9_loadTemplate, rm_X9_thrown]); omega, by show _ ≤ 7293000; (try simp only [rm_L_loadTemplate, rm_X9_loadTemplate, rm_X9_thrown]); omega⟩ dL_law_344 (fun r344 M344 h => ?_)
        refine gg_iload (pc := 347) cx 1 rfl dL_law_347 ?_
        refine gg_icmp_eq (pc := 349) cx (tgt := 354) dL_law_349 (by decide) (fun c349 => ?_) (fun c349 => ?_)
        · have h := g_it c349 h
          refine gg_iload (pc := 354) cx 1 rfl dL_law_354 ?_
          refine gg_if_ne (pc := 356) cx (tgt := 371) dL_law_356 (by decide) (fun c356 => ?_) (fun c356 => ?_)
          · have h := g_if c356 h
            refine gg_goto (pc := 371) cx (tgt := 2316) dL_law_371 (by decide) ?_
            obtain ⟨n2316, en2316⟩ : ∃ z : Int32, z = x4 + Int32.ofInt (5) := ⟨_, rfl⟩
            have h := h n2316 en2316
            refine gg_iinc (pc := 2316) cx 6 [(4, .int n2316), (6, .int r338), (5, .int r326), (0, .ref (gScB t)), (1, .ref (gAd t 8 o1)), (2, .ref (gAd t 9 o2)), (3, .ref (gAd t 59 o3))] dL_law_2316 rfl en2316.symm (by decide) rfl ?_
            refine gg_goto (pc := 2319) cx (tgt := 33) dL_law_2319 (by decide) ?_
            refine gg_lv (lv' := [(0, .ref (gScB t)), (1, .ref (gAd t 8 o1)), (2, .ref (gAd t 9 o2)), (3, .ref (gAd t 59 o3)), (4, .int n2316)]) [3, 4, 5, 6, 0] rfl ?_
            refine gg_wide (k' := k + 64) (n' := n + 512) (by (try simp only [rm_L_loadTemplate, rm_X9_loadTemplate, rm_X9_thrown]); omega) (by (try simp only [rm_L_loadTemplate, rm_X9_loadTemplate, rm_X9_thrown]); omega) ?_
            exact ih (k + 64) (n + 512) o1 o2 o3 n2316 M344 (by omega) (by omega) v1 v2 v3 h
          · have h := g_it c356 h
            refine gg_aload_n (pc := 359) cx 5 rfl dL_law_359 rfl ?_
            refine gg_iconst (pc := 360) cx (v := 0) dL_law_360 (by decide) ?_
            have q361 := h.1
            have h := h.2
            refine gg_lald (pc := 361) cx (hO 59 _ rfl v3) rfl q361 dL_law_361 ?_
            refine gg_iload (pc := 362) cx 0 rfl dL_law_362 ?_
            refine gg_i2l (pc := 364) cx dL_law_364 ?_
            refine gg_lcmp_eq (pc := 365) cx (tgt := 371) dL_law_365 dL_law_366 (by decide) (fun c365 => ?_) (fun c365 => ?_)
            · have h := g_it c365 h
              refine gg_goto (pc := 371) cx (tgt := 2316) dL_law_371 (by decide) ?_
              obtain ⟨n2316, en2316⟩ : ∃ z : Int32, z = x4 + Int32.ofInt (5) := ⟨_, rfl⟩
              have h := h n2316 en2316
              refine gg_iinc (pc := 2316) cx 6 [(4, .int n2316), (6, .int r338), (5, .int r326), (0, .ref (gScB t)), (1, .ref (gAd t 8 o1)), (2, .ref (gAd t 9 o2)), (3, .ref (gAd t 59 o3))] dL_law_2316 rfl en2316.symm (by decide) rfl ?_
              refine gg_goto (pc := 2319) cx (tgt := 33) dL_law_2319 (by decide) ?_
              refine gg_lv (lv' := [(0, .ref (gScB t)), (1, .ref (gAd t 8 o1)), (2, .ref (gAd t 9 o2)), (3, .ref (gAd t 59 o3)), (4, .int n2316)]) [3, 4, 5, 6, 0] rfl ?_
              refine gg_wide (k' := k + 64) (n' := n + 512) (by (try simp only [rm_L_loadTemplate, rm_X9_loadTemplate, rm_X9_thrown]); omega) (by (try simp only [rm_L_loadTemplate, rm_X9_loadTemplate, rm_X9_thrown]); omega) ?_
              exact ih (k + 64) (n + 512) o1 o2 o3 n2316 M344 (by omega) (by omega) v1 v2 v3 h
            · have h := g_if c365 h
              refine gg_iconst (pc := 369) cx (v := 0) dL_law_369 (by decide) ?_
              exact gg_lawret (pc := 370) cx hQ ha hB (by (try simp only [rm_L_loadTemplate, rm_X9_loadTemplate, rm_X9_thrown]); omega) (by (try simp only [rm_L_loadTemplate, rm_X9_loadTemplate, rm_X9_thrown]); omega) h dL_law_370
        · have h := g_if c349 h
          refine gg_iconst (pc := 352) cx (v := 0) dL_law_352 (by decide) ?_
          exact gg_lawret (pc := 353) cx hQ ha hB (by (try simp only [rm_L_loadTemplate, rm_X9_loadTemplate, rm_X9_thrown]); omega) (by (try simp only [rm_L_loadTemplate, rm_X9_loadTemplate, rm_X9_thrown]); omega) h dL_law_353
      have h := g_if c49_3 h
      by_cases c49_4 : ((gScX t x4.toNatClampNeg) &&& 63) = 4
      · have h := g_it c49_4 h
        refine gg_swv c49_4 ?_
        refine gg_tableIn (pc := 49) cx (off := 325) (tgt := 374) dL_law_49 (by decide) (by decide) rfl (by decide) ?_
        refine gg_aload_n (pc := 374) cx 1 rfl dL_law_374 rfl ?_
        refine gg_aload_n (pc := 375) cx 0 rfl dL_law_375 rfl ?_
        refine gg_iload (pc := 376) cx 4 rfl dL_law_376 ?_
        refine gg_iconst (pc := 378) cx (v := 1) dL_law_378 (by decide) ?_
        refine gg_iadd (pc := 379) cx dL_law_379 ?_
        have q380 := h.1
        have h := h.2
        refine gg_sld (pc := 380) cx q380 dL_law_380 ?_
        refine gg_aload_n (pc := 381) cx 3 rfl dL_law_381 rfl ?_
        refine gg_callSWi (pc := 382) cx cal_L_errorPosition tw_858 (ct_L_errorPosition cx.tr hC hM hO v1 v3 h) tw_857 rfl (st := []) rfl (Nat.le_of_ble_eq_true rfl) ⟨Nat.le_of_ble_eq_true rfl, Nat.le_of_ble_eq_true rfl⟩ ⟨by show _ ≤ 601024; (try simp only [rm_L_errorPosition]); omega, by show _ ≤ 7293000; (try simp only [rm_L_errorPosition]); omega⟩ dL_law_382 (fun r382 M382 h => ?_)
        refine gg_istore (pc := 385) cx [(5, .int r382), (0, .ref (gScB t)), (1, .ref (gAd t 8 o1)), (2, .ref (gAd t 9 o2)), (3, .ref (gAd t 59 o3)), (4, .int x4)] dL_law_385 (by decide) rfl ?_
        refine gg_aload_n (pc := 387) cx 3 rfl dL_law_387 rfl ?_
        refine gg_aload_n (pc := 388) cx 1 rfl dL_law_388 rfl ?_
        refine gg_iload (pc := 389) cx 5 rfl dL_law_389 ?_
        refine gg_iconst (pc := 391) cx (v := 1) dL_law_391 (by decide) ?_
        refine gg_iadd (pc := 392) cx dL_law_392 ?_
        have q393 := h.1
        have h := h.2
        refine gg_sld (pc := 393) cx q393 dL_law_393 ?_
        refine gg_callVi (pc := 394) cx cal_X9_errorPosition calv_X9_errorPosition (ct_X9_errorPosition cx.tr hM v2 h) tw_1398 (hM 9 _ rfl v2) rfl rfl rfl (st := []) rfl (Nat.le_of_ble_eq_true rfl) ⟨Nat.le_of_ble_eq_true rfl, Nat.le_of_ble_eq_true rfl⟩ ⟨by show _ ≤ 601024; (try simp only [rm_L_errorPosition, rm_X9_errorPosition]); omega, by show _ ≤ 7293000; (try simp only [rm_L_errorPosition, rm_X9_errorPosition]); omega⟩ dL_law_394 (fun r394 M394 h => ?_)
        refine gg_istore (pc := 397) cx [(6, .int r394), (5, .int r382), (0, .ref (gScB t)), (1, .ref (gAd t 8 o1)), (2, .ref (gAd t 9 o2)), (3, .ref (gAd t 59 o3)), (4, .int x4)] dL_law_397 (by decide) rfl ?_
        refine gg_aload_n (pc := 399) cx 4 rfl dL_law_399 rfl ?_
        refine gg_callVi (pc := 400) cx cal_X9_thrown calv_X9_thrown (ct_X9_thrown cx.tr hM v2 h) tw_1367 (hM 9 _ rfl v2) rfl rfl rfl (st := []) rfl (Nat.le_of_ble_eq_true rfl) ⟨Nat.le_of_ble_eq_true rfl, Nat.le_of_ble_eq_true rfl⟩ ⟨by show _ ≤ 601024; (try simp only [rm_L_errorPosition, rm_X9_errorPosition, rm_X9_thrown]); omega, by show _ ≤ 7293000; (try simp only [rm_L_errorPosition, rm_X9_errorPosition, rm_X9_thrown]); omega⟩ dL_law_400 (fun r400 M400 h => ?_)
        refine gg_iload (pc := 403) cx 1 rfl dL_law_403 ?_
        refine gg_icmp_eq (pc := 405) cx (tgt := 410) dL_law_405 (by decide) (fun c405 => ?_) (fun c405 => ?_)
        · have h := g_it c405 h
          refine gg_iload (pc := 410) cx 1 rfl dL_law_410 ?_
          refine gg_if_ne (pc := 412) cx (tgt := 427) dL_law_412 (by decide) (fun c412 => ?_) (fun c412 => ?_)
          · have h := g_if c412 h
            refine gg_goto (pc := 427) cx (tgt := 2316) dL_law_427 (by decide) ?_
            obtain ⟨n2316, en2316⟩ : ∃ z : Int32, z = x4 + Int32.ofInt (5) := ⟨_, rfl⟩
            have h := h n2316 en2316
            refine gg_iinc (pc := 2316) cx 6 [(4, .int n2316), (6, .int r394), (5, .int r382), (0, .ref (gScB t)), (1, .ref (gAd t 8 o1)), (2, .ref (gAd t 9 o2)), (3, .ref (gAd t 59 o3))] dL_law_2316 rfl en2316.symm (by decide) rfl ?_
            refine gg_goto (pc := 2319) cx (tgt := 33) dL_law_2319 (by decide) ?_
            refine gg_lv (lv' := [(0, .ref (gScB t)), (1, .ref (gAd t 8 o1)), (2, .ref (gAd t 9 o2)), (3, .ref (gAd t 59 o3)), (4, .int n2316)]) [3, 4, 5, 6, 0] rfl ?_
            refine gg_wide (k' := k + 64) (n' := n + 512) (by (try simp only [rm_L_errorPosition, rm_X9_errorPosition, rm_X9_thrown]); omega) (by (try simp only [rm_L_errorPosition, rm_X9_errorPosition, rm_X9_thrown]); omega) ?_
            exact ih (k + 64) (n + 512) o1 o2 o3 n2316 M400 (by omega) (by omega) v1 v2 v3 h
          · have h := g_it c412 h
            refine gg_aload_n (pc := 415) cx 5 rfl dL_law_415 rfl ?_
            refine gg_iconst (pc := 416) cx (v := 0) dL_law_416 (by decide) ?_
            have q417 := h.1
            have h := h.2
            refine gg_lald (pc := 417) cx (hO 59 _ rfl v3) rfl q417 dL_law_417 ?_
            refine gg_iload (pc := 418) cx 0 rfl dL_law_418 ?_
            refine gg_i2l (pc := 420) cx dL_law_420 ?_
            refine gg_lcmp_eq (pc := 421) cx (tgt := 427) dL_law_421 dL_law_422 (by decide) (fun c421 => ?_) (fun c421 => ?_)
            · have h := g_it c421 h
              refine gg_goto (pc := 427) cx (tgt := 2316) dL_law_427 (by decide) ?_
              obtain ⟨n2316, en2316⟩ : ∃ z : Int32, z = x4 + Int32.ofInt (5) := ⟨_, rfl⟩
              have h := h n2316 en2316
              refine gg_iinc (pc := 2316) cx 6 [(4, .int n2316), (6, .int r394), (5, .int r382), (0, .ref (gScB t)), (1, .ref (gAd t 8 o1)), (2, .ref (gAd t 9 o2)), (3, .ref (gAd t 59 o3))] dL_law_2316 rfl en2316.symm (by decide) rfl ?_
              refine gg_goto (pc := 2319) cx (tgt := 33) dL_law_2319 (by decide) ?_
              refine gg_lv (lv' := [(0, .ref (gScB t)), (1, .ref (gAd t 8 o1)), (2, .ref (gAd t 9 o2)), (3, .ref (gAd t 59 o3)), (4, .int n2316)]) [3, 4, 5, 6, 0] rfl ?_
              refine gg_wide (k' := k + 64) (n' := n + 512) (by (try simp only [rm_L_errorPosition, rm_X9_errorPosition, rm_X9_thrown]); omega) (by (try simp only [rm_L_errorPosition, rm_X9_errorPosition, rm_X9_thrown]); omega) ?_
              exact ih (k + 64) (n + 512) o1 o2 o3 n2316 M400 (by omega) (by omega) v1 v2 v3 h
            · have h := g_if c421 h
              refine gg_iconst (pc := 425) cx (v := 0) dL_law_425 (by decide) ?_
              exact gg_lawret (pc := 426) cx hQ ha hB (by (try simp only [rm_L_errorPosition, rm_X9_errorPosition, rm_X9_thrown]); omega) (by (try simp only [rm_L_errorPosition, rm_X9_errorPosition, rm_X9_thrown]); omega) h dL_law_426
        · have h := g_if c405 h
          refine gg_iconst (pc := 408) cx (v := 0) dL_law_408 (by decide) ?_
          exact gg_lawret (pc := 409) cx hQ ha hB (by (try simp only [rm_L_errorPosition, rm_X9_errorPosition, rm_X9_thrown]); omega) (by (try simp only [rm_L_errorPosition, rm_X9_errorPosition, rm_X9_thrown]); omega) h dL_law_409
      have h := g_if c49_4 h
      by_cases c49_5 : ((gScX t x4.toNatClampNeg) &&& 63) = 5
      · have h := g_it c49_5 h
        refine gg_swv c49_5 ?_
        refine gg_tableIn (pc := 49) cx (off := 381) (tgt := 430) dL_law_49 (by decide) (by decide) rfl (by decide) ?_
        refine gg_aload_n (pc := 430) cx 1 rfl dL_law_430 rfl ?_
        refine gg_callVi (pc := 431) cx cal_X8_nodes calv_X8_nodes (ct_X8_nodes cx.tr hC v1 h) tw_602 (hC 8 _ rfl v1) rfl rfl rfl (st := []) rfl (Nat.le_of_ble_eq_true rfl) ⟨Nat.le_of_ble_eq_true rfl, Nat.le_of_ble_eq_true rfl⟩ ⟨by show _ ≤ 601024; (try simp only [rm_X8_nodes]); omega, by show _ ≤ 7293000; (try simp only [rm_X8_nodes]); omega⟩ dL_law_431 (fun r431 M431 h => ?_)
        refine gg_aload_n (pc := 434) cx 2 rfl dL_law_434 rfl ?_
        refine gg_callVi (pc := 435) cx cal_X9_nodes calv_X9_nodes (ct_X9_nodes cx.tr hM v2 h) tw_1402 (hM 9 _ rfl v2) rfl rfl rfl (st := [.int r431]) rfl (Nat.le_of_ble_eq_true rfl) ⟨Nat.le_of_ble_eq_true rfl, Nat.le_of_ble_eq_true rfl⟩ ⟨by show _ ≤ 601024; (try simp only [rm_X8_nodes, rm_X9_nodes]); omega, by show _ ≤ 7293000; (try simp only [rm_X8_nodes, rm_X9_nodes]); omega⟩ dL_law_435 (fun r435 M435 h => ?_)
        refine gg_icmp_eq (pc := 438) cx (tgt := 2316) dL_law_438 (by decide) (fun c438 => ?_) (fun c438 => ?_)
        · have h := g_it c438 h
          obtain ⟨n2316, en2316⟩ : ∃ z : Int32, z = x4 + Int32.ofInt (5) := ⟨_, rfl⟩
          have h := h n2316 en2316
          refine gg_iinc (pc := 2316) cx 4 [(4, .int n2316), (0, .ref (gScB t)), (1, .ref (gAd t 8 o1)), (2, .ref (gAd t 9 o2)), (3, .ref (gAd t 59 o3))] dL_law_2316 rfl en2316.symm (by decide) rfl ?_
          refine gg_goto (pc := 2319) cx (tgt := 33) dL_law_2319 (by decide) ?_
          refine gg_lv (lv' := [(0, .ref (gScB t)), (1, .ref (gAd t 8 o1)), (2, .ref (gAd t 9 o2)), (3, .ref (gAd t 59 o3)), (4, .int n2316)]) [1, 2, 3, 4, 0] rfl ?_
          refine gg_wide (k' := k + 64) (n' := n + 512) (by (try simp only [rm_X8_nodes, rm_X9_nodes]); omega) (by (try simp only [rm_X8_nodes, rm_X9_nodes]); omega) ?_
          exact ih (k + 64) (n + 512) o1 o2 o3 n2316 M435 (by omega) (by omega) v1 v2 v3 h
        · have h := g_if c438 h
          refine gg_iconst (pc := 441) cx (v := 0) dL_law_441 (by decide) ?_
          exact gg_lawret (pc := 442) cx hQ ha hB (by (try simp only [rm_X8_nodes, rm_X9_nodes]); omega) (by (try simp only [rm_X8_nodes, rm_X9_nodes]); omega) h dL_law_442
      have h := g_if c49_5 h
      by_cases c49_6 : ((gScX t x4.toNatClampNeg) &&& 63) = 6
      · have h := g_it c49_6 h
        refine gg_swv c49_6 ?_
        refine gg_tableIn (pc := 49) cx (off := 394) (tgt := 443) dL_law_49 (by decide) (by decide) rfl (by decide) ?_
        refine gg_aload_n (pc := 443) cx 1 rfl dL_law_443 rfl ?_
        refine gg_aload_n (pc := 444) cx 0 rfl dL_law_444 rfl ?_
        refine gg_iload (pc := 445) cx 4 rfl dL_law_445 ?_
        refine gg_iconst (pc := 447) cx (v := 1) dL_law_447 (by decide) ?_
        refine gg_iadd (pc := 448) cx dL_law_448 ?_
        have q449 := h.1
        have h := h.2
        refine gg_sld (pc := 449) cx q449 dL_law_449 ?_
        refine gg_aload_n (pc := 450) cx 3 rfl dL_law_450 rfl ?_
        refine gg_callSWi (pc := 451) cx cal_L_parentOf tw_882 (ct_L_parentOf cx.tr hC hM hO v1 v3 h) tw_881 rfl (st := []) rfl (Nat.le_of_ble_eq_true rfl) ⟨Nat.le_of_ble_eq_true rfl, Nat.le_of_ble_eq_true rfl⟩ ⟨by show _ ≤ 601024; (try simp only [rm_L_parentOf]); omega, by show _ ≤ 7293000; (try simp only [rm_L_parentOf]); omega⟩ dL_law_451 (fun r451 M451 h => ?_)
        refine gg_istore (pc := 454) cx [(5, .int r451), (0, .ref (gScB t)), (1, .ref (gAd t 8 o1)), (2, .ref (gAd t 9 o2)), (3, .ref (gAd t 59 o3)), (4, .int x4)] dL_law_454 (by decide) rfl ?_
        refine gg_aload_n (pc := 456) cx 3 rfl dL_law_456 rfl ?_
        refine gg_aload_n (pc := 457) cx 1 rfl dL_law_457 rfl ?_
        refine gg_iload (pc := 458) cx 5 rfl dL_law_458 ?_
        refine gg_iconst (pc := 460) cx (v := 1) dL_law_460 (by decide) ?_
        refine gg_iadd (pc := 461) cx dL_law_461 ?_
        have q462 := h.1
        have h := h.2
        refine gg_sld (pc := 462) cx q462 dL_law_462 ?_
        refine gg_callVi (pc := 463) cx cal_X9_parentOf calv_X9_parentOf (ct_X9_parentOf cx.tr hM v2 h) tw_1406 (hM 9 _ rfl v2) rfl rfl rfl (st := []) rfl (Nat.le_of_ble_eq_true rfl) ⟨Nat.le_of_ble_eq_true rfl, Nat.le_of_ble_eq_true rfl⟩ ⟨by show _ ≤ 601024; (try simp only [rm_L_parentOf, rm_X9_parentOf]); omega, by show _ ≤ 7293000; (try simp only [rm_L_parentOf, rm_X9_parentOf]); omega⟩ dL_law_463 (fun r463 M463 h => ?_)
        refine gg_istore (pc := 466) cx [(6, .int r463), (5, .int r451), (0, .ref (gScB t)), (1, .ref (gAd t 8 o1)), (2, .ref (gAd t 9 o2)), (3, .ref (gAd t 59 o3)), (4, .int x4)] dL_law_466 (by decide) rfl ?_
        refine gg_aload_n (pc := 468) cx 4 rfl dL_law_468 rfl ?_
        refine gg_callVi (pc := 469) cx cal_X9_thrown calv_X9_thrown (ct_X9_thrown cx.tr hM v2 h) tw_1367 (hM 9 _ rfl v2) rfl rfl rfl (st := []) rfl (Nat.le_of_ble_eq_true rfl) ⟨Nat.le_of_ble_eq_true rfl, Nat.le_of_ble_eq_true rfl⟩ ⟨by show _ ≤ 601024; (try simp only [rm_L_parentOf, rm_X9_parentOf, rm_X9_thrown]); omega, by show _ ≤ 7293000; (try simp only [rm_L_parentOf, rm_X9_parentOf, rm_X9_thrown]); omega⟩ dL_law_469 (fun r469 M469 h => ?_)
        refine gg_iload (pc := 472) cx 1 rfl dL_law_472 ?_
        refine gg_icmp_eq (pc := 474) cx (tgt := 479) dL_law_474 (by decide) (fun c474 => ?_) (fun c474 => ?_)
        · have h := g_it c474 h
          refine gg_iload (pc := 479) cx 1 rfl dL_law_479 ?_
          refine gg_if_ne (pc := 481) cx (tgt := 496) dL_law_481 (by decide) (fun c481 => ?_) (fun c481 => ?_)
          · have h := g_if c481 h
            refine gg_goto (pc := 496) cx (tgt := 2316) dL_law_496 (by decide) ?_
            obtain ⟨n2316, en2316⟩ : ∃ z : Int32, z = x4 + Int32.ofInt (5) := ⟨_, rfl⟩
            have h := h n2316 en2316
            refine gg_iinc (pc := 2316) cx 6 [(4, .int n2316), (6, .int r463), (5, .int r451), (0, .ref (gScB t)), (1, .ref (gAd t 8 o1)), (2, .ref (gAd t 9 o2)), (3, .ref (gAd t 59 o3))] dL_law_2316 rfl en2316.symm (by decide) rfl ?_
            refine gg_goto (pc := 2319) cx (tgt := 33) dL_law_2319 (by decide) ?_
            refine gg_lv (lv' := [(0, .ref (gScB t)), (1, .ref (gAd t 8 o1)), (2, .ref (gAd t 9 o2)), (3, .ref (gAd t 59 o3)), (4, .int n2316)]) [3, 4, 5, 6, 0] rfl ?_
            refine gg_wide (k' := k + 64) (n' := n + 512) (by (try simp only [rm_L_parentOf, rm_X9_parentOf, rm_X9_thrown]); omega) (by (try simp only [rm_L_parentOf, rm_X9_parentOf, rm_X9_thrown]); omega) ?_
            exact ih (k + 64) (n + 512) o1 o2 o3 n2316 M469 (by omega) (by omega) v1 v2 v3 h
          · have h := g_it c481 h
            refine gg_aload_n (pc := 484) cx 5 rfl dL_law_484 rfl ?_
            refine gg_iconst (pc := 485) cx (v := 0) dL_law_485 (by decide) ?_
            have q486 := h.1
            have h := h.2
            refine gg_lald (pc := 486) cx (hO 59 _ rfl v3) rfl q486 dL_law_486 ?_
            refine gg_iload (pc := 487) cx 0 rfl dL_law_487 ?_
            refine gg_i2l (pc := 489) cx dL_law_489 ?_
            refine gg_lcmp_eq (pc := 490) cx (tgt := 496) dL_law_490 dL_law_491 (by decide) (fun c490 => ?_) (fun c490 => ?_)
            · have h := g_it c490 h
              refine gg_goto (pc := 496) cx (tgt := 2316) dL_law_496 (by decide) ?_
              obtain ⟨n2316, en2316⟩ : ∃ z : Int32, z = x4 + Int32.ofInt (5) := ⟨_, rfl⟩
              have h := h n2316 en2316
              refine gg_iinc (pc := 2316) cx 6 [(4, .int n2316), (6, .int r463), (5, .int r451), (0, .ref (gScB t)), (1, .ref (gAd t 8 o1)), (2, .ref (gAd t 9 o2)), (3, .ref (gAd t 59 o3))] dL_law_2316 rfl en2316.symm (by decide) rfl ?_
              refine gg_goto (pc := 2319) cx (tgt := 33) dL_law_2319 (by decide) ?_
              refine gg_lv (lv' := [(0, .ref (gScB t)), (1, .ref (gAd t 8 o1)), (2, .ref (gAd t 9 o2)), (3, .ref (gAd t 59 o3)), (4, .int n2316)]) [3, 4, 5, 6, 0] rfl ?_
              refine gg_wide (k' := k + 64) (n' := n + 512) (by (try simp only [rm_L_parentOf, rm_X9_parentOf, rm_X9_thrown]); omega) (by (try simp only [rm_L_parentOf, rm_X9_parentOf, rm_X9_thrown]); omega) ?_
              exact ih (k + 64) (n + 512) o1 o2 o3 n2316 M469 (by omega) (by omega) v1 v2 v3 h
            · have h := g_if c490 h
              refine gg_iconst (pc := 494) cx (v := 0) dL_law_494 (by decide) ?_
              exact gg_lawret (pc := 495) cx hQ ha hB (by (try simp only [rm_L_parentOf, rm_X9_parentOf, rm_X9_thrown]); omega) (by (try simp only [rm_L_parentOf, rm_X9_parentOf, rm_X9_thrown]); omega) h dL_law_495
        · have h := g_if c474 h
          refine gg_iconst (pc := 477) cx (v := 0) dL_law_477 (by decide) ?_
          exact gg_lawret (pc := 478) cx hQ ha hB (by (try simp only [rm_L_parentOf, rm_X9_parentOf, rm_X9_thrown]); omega) (by (try simp only [rm_L_parentOf, rm_X9_parentOf, rm_X9_thrown]); omega) h dL_law_478
      have h := g_if c49_6 h
      by_cases c49_7 : ((gScX t x4.toNatClampNeg) &&& 63) = 7
      · have h := g_it c49_7 h
        refine gg_swv c49_7 ?_
        refine gg_tableIn (pc := 49) cx (off := 450) (tgt := 499) dL_law_49 (by decide) (by decide) rfl (by decide) ?_
        refine gg_aload_n (pc := 499) cx 1 rfl dL_law_499 rfl ?_
        refine gg_aload_n (pc := 500) cx 0 rfl dL_law_500 rfl ?_
        refine gg_iload (pc := 501) cx 4 rfl dL_law_501 ?_
        refine gg_iconst (pc := 503) cx (v := 1) dL_law_503 (by decide) ?_
        refine gg_iadd (pc := 504) cx dL_law_504 ?_
        have q505 := h.1
        have h := h.2
        refine gg_sld (pc := 505) cx q505 dL_law_505 ?_
        refine gg_aload_n (pc := 506) cx 3 rfl dL_law_506 rfl ?_
        refine gg_callSWi (pc := 507) cx cal_L_children tw_895 (ct_L_children cx.tr hC hM hO v1 v3 h) tw_894 rfl (st := []) rfl (Nat.le_of_ble_eq_true rfl) ⟨Nat.le_of_ble_eq_true rfl, Nat.le_of_ble_eq_true rfl⟩ ⟨by show _ ≤ 601024; (try simp only [rm_L_children]); omega, by show _ ≤ 7293000; (try simp only [rm_L_children]); omega⟩ dL_law_507 (fun r507 M507 h => ?_)
        refine gg_istore (pc := 510) cx [(5, .int r507), (0, .ref (gScB t)), (1, .ref (gAd t 8 o1)), (2, .ref (gAd t 9 o2)), (3, .ref (gAd t 59 o3)), (4, .int x4)] dL_law_510 (by decide) rfl ?_
        refine gg_aload_n (pc := 512) cx 3 rfl dL_law_512 rfl ?_
        refine gg_aload_n (pc := 513) cx 1 rfl dL_law_513 rfl ?_
        refine gg_iload (pc := 514) cx 5 rfl dL_law_514 ?_
        refine gg_iconst (pc := 516) cx (v := 1) dL_law_516 (by decide) ?_
        refine gg_iadd (pc := 517) cx dL_law_517 ?_
        have q518 := h.1
        have h := h.2
        refine gg_sld (pc := 518) cx q518 dL_law_518 ?_
        refine gg_callVi (pc := 519) cx cal_X9_children calv_X9_children (ct_X9_children cx.tr hM v2 h) tw_1418 (hM 9 _ rfl v2) rfl rfl rfl (st := []) rfl (Nat.le_of_ble_eq_true rfl) ⟨Nat.le_of_ble_eq_true rfl, Nat.le_of_ble_eq_true rfl⟩ ⟨by show _ ≤ 601024; (try simp only [rm_L_children, rm_X9_children]); omega, by show _ ≤ 7293000; (try simp only [rm_L_children, rm_X9_children]); omega⟩ dL_law_519 (fun r519 M519 h => ?_)
        refine gg_istore (pc := 522) cx [(6, .int r519), (5, .int r507), (0, .ref (gScB t)), (1, .ref (gAd t 8 o1)), (2, .ref (gAd t 9 o2)), (3, .ref (gAd t 59 o3)), (4, .int x4)] dL_law_522 (by decide) rfl ?_
        refine gg_aload_n (pc := 524) cx 4 rfl dL_law_524 rfl ?_
        refine gg_callVi (pc := 525) cx cal_X9_thrown calv_X9_thrown (ct_X9_thrown cx.tr hM v2 h) tw_1367 (hM 9 _ rfl v2) rfl rfl rfl (st := []) rfl (Nat.le_of_ble_eq_true rfl) ⟨Nat.le_of_ble_eq_true rfl, Nat.le_of_ble_eq_true rfl⟩ ⟨by show _ ≤ 601024; (try simp only [rm_L_children, rm_X9_children, rm_X9_thrown]); omega, by show _ ≤ 7293000; (try simp only [rm_L_children, rm_X9_children, rm_X9_thrown]); omega⟩ dL_law_525 (fun r525 M525 h => ?_)
        refine gg_iload (pc := 528) cx 1 rfl dL_law_528 ?_
        refine gg_icmp_eq (pc := 530) cx (tgt := 535) dL_law_530 (by decide) (fun c530 => ?_) (fun c530 => ?_)
        · have h := g_it c530 h
          refine gg_iload (pc := 535) cx 1 rfl dL_law_535 ?_
          refine gg_if_ne (pc := 537) cx (tgt := 552) dL_law_537 (by decide) (fun c537 => ?_) (fun c537 => ?_)
          · have h := g_if c537 h
            refine gg_goto (pc := 552) cx (tgt := 2316) dL_law_552 (by decide) ?_
            obtain ⟨n2316, en2316⟩ : ∃ z : Int32, z = x4 + Int32.ofInt (5) := ⟨_, rfl⟩
            have h := h n2316 en2316
            refine gg_iinc (pc := 2316) cx 6 [(4, .int n2316), (6, .int r519), (5, .int r507), (0, .ref (gScB t)), (1, .ref (gAd t 8 o1)), (2, .ref (gAd t 9 o2)), (3, .ref (gAd t 59 o3))] dL_law_2316 rfl en2316.symm (by decide) rfl ?_
            refine gg_goto (pc := 2319) cx (tgt := 33) dL_law_2319 (by decide) ?_
            refine gg_lv (lv' := [(0, .ref (gScB t)), (1, .ref (gAd t 8 o1)), (2, .ref (gAd t 9 o2)), (3, .ref (gAd t 59 o3)), (4, .int n2316)]) [3, 4, 5, 6, 0] rfl ?_
            refine gg_wide (k' := k + 64) (n' := n + 512) (by (try simp only [rm_L_children, rm_X9_children, rm_X9_thrown]); omega) (by (try simp only [rm_L_children, rm_X9_children, rm_X9_thrown]); omega) ?_
            exact ih (k + 64) (n + 512) o1 o2 o3 n2316 M525 (by omega) (by omega) v1 v2 v3 h
          · have h := g_it c537 h
            refine gg_aload_n (pc := 540) cx 5 rfl dL_law_540 rfl ?_
            refine gg_iconst (pc := 541) cx (v := 0) dL_law_541 (by decide) ?_
            have q542 := h.1
            have h := h.2
            refine gg_lald (pc := 542) cx (hO 59 _ rfl v3) rfl q542 dL_law_542 ?_
            refine gg_iload (pc := 543) cx 0 rfl dL_law_543 ?_
            refine gg_i2l (pc := 545) cx dL_law_545 ?_
            refine gg_lcmp_eq (pc := 546) cx (tgt := 552) dL_law_546 dL_law_547 (by decide) (fun c546 => ?_) (fun c546 => ?_)
            · have h := g_it c546 h
              refine gg_goto (pc := 552) cx (tgt := 2316) dL_law_552 (by decide) ?_
              obtain ⟨n2316, en2316⟩ : ∃ z : Int32, z = x4 + Int32.ofInt (5) := ⟨_, rfl⟩
              have h := h n2316 en2316
              refine gg_iinc (pc := 2316) cx 6 [(4, .int n2316), (6, .int r519), (5, .int r507), (0, .ref (gScB t)), (1, .ref (gAd t 8 o1)), (2, .ref (gAd t 9 o2)), (3, .ref (gAd t 59 o3))] dL_law_2316 rfl en2316.symm (by decide) rfl ?_
              refine gg_goto (pc := 2319) cx (tgt := 33) dL_law_2319 (by decide) ?_
              refine gg_lv (lv' := [(0, .ref (gScB t)), (1, .ref (gAd t 8 o1)), (2, .ref (gAd t 9 o2)), (3, .ref (gAd t 59 o3)), (4, .int n2316)]) [3, 4, 5, 6, 0] rfl ?_
              refine gg_wide (k' := k + 64) (n' := n + 512) (by (try simp only [rm_L_children, rm_X9_children, rm_X9_thrown]); omega) (by (try simp only [rm_L_children, rm_X9_children, rm_X9_thrown]); omega) ?_
              exact ih (k + 64) (n + 512) o1 o2 o3 n2316 M525 (by omega) (by omega) v1 v2 v3 h
            · have h := g_if c546 h
              refine gg_iconst (pc := 550) cx (v := 0) dL_law_550 (by decide) ?_
              exact gg_lawret (pc := 551) cx hQ ha hB (by (try simp only [rm_L_children, rm_X9_children, rm_X9_thrown]); omega) (by (try simp only [rm_L_children, rm_X9_children, rm_X9_thrown]); omega) h dL_law_551
        · have h := g_if c530 h
          refine gg_iconst (pc := 533) cx (v := 0) dL_law_533 (by decide) ?_
          exact gg_lawret (pc := 534) cx hQ ha hB (by (try simp only [rm_L_children, rm_X9_children, rm_X9_thrown]); omega) (by (try simp only [rm_L_children, rm_X9_children, rm_X9_thrown]); omega) h dL_law_534
      have h := g_if c49_7 h
      by_cases c49_8 : ((gScX t x4.toNatClampNeg) &&& 63) = 8
      · have h := g_it c49_8 h
        refine gg_swv c49_8 ?_
        refine gg_tableIn (pc := 49) cx (off := 506) (tgt := 555) dL_law_49 (by decide) (by decide) rfl (by decide) ?_
        refine gg_aload_n (pc := 555) cx 1 rfl dL_law_555 rfl ?_
        refine gg_aload_n (pc := 556) cx 0 rfl dL_law_556 rfl ?_
        refine gg_iload (pc := 557) cx 4 rfl dL_law_557 ?_
        refine gg_iconst (pc := 559) cx (v := 1) dL_law_559 (by decide) ?_
        refine gg_iadd (pc := 560) cx dL_law_560 ?_
        have q561 := h.1
        have h := h.2
        refine gg_sld (pc := 561) cx q561 dL_law_561 ?_
        refine gg_aload_n (pc := 562) cx 3 rfl dL_law_562 rfl ?_
        refine gg_callSWi (pc := 563) cx cal_L_tieRule tw_902 (ct_L_tieRule cx.tr hC hM hO v1 v3 h) tw_901 rfl (st := []) rfl (Nat.le_of_ble_eq_true rfl) ⟨Nat.le_of_ble_eq_true rfl, Nat.le_of_ble_eq_true rfl⟩ ⟨by show _ ≤ 601024; (try simp only [rm_L_tieRule]); omega, by show _ ≤ 7293000; (try simp only [rm_L_tieRule]); omega⟩ dL_law_563 (fun r563 M563 h => ?_)
        refine gg_istore (pc := 566) cx [(5, .int r563), (0, .ref (gScB t)), (1, .ref (gAd t 8 o1)), (2, .ref (gAd t 9 o2)), (3, .ref (gAd t 59 o3)), (4, .int x4)] dL_law_566 (by decide) rfl ?_
        refine gg_aload_n (pc := 568) cx 3 rfl dL_law_568 rfl ?_
        refine gg_aload_n (pc := 569) cx 1 rfl dL_law_569 rfl ?_
        refine gg_iload (pc := 570) cx 5 rfl dL_law_570 ?_
        refine gg_iconst (pc := 572) cx (v := 1) dL_law_572 (by decide) ?_
        refine gg_iadd (pc := 573) cx dL_law_573 ?_
        have q574 := h.1
        have h := h.2
        refine gg_sld (pc := 574) cx q574 dL_law_574 ?_
        refine gg_callVi (pc := 575) cx cal_X9_tieRule calv_X9_tieRule (ct_X9_tieRule cx.tr hM v2 h) tw_1422 (hM 9 _ rfl v2) rfl rfl rfl (st := []) rfl (Nat.le_of_ble_eq_true rfl) ⟨Nat.le_of_ble_eq_true rfl, Nat.le_of_ble_eq_true rfl⟩ ⟨by show _ ≤ 601024; (try simp only [rm_L_tieRule, rm_X9_tieRule]); omega, by show _ ≤ 7293000; (try simp only [rm_L_tieRule, rm_X9_tieRule]); omega⟩ dL_law_575 (fun r575 M575 h => ?_)
        refine gg_istore (pc := 578) cx [(6, .int r575), (5, .int r563), (0, .ref (gScB t)), (1, .ref (gAd t 8 o1)), (2, .ref (gAd t 9 o2)), (3, .ref (gAd t 59 o3)), (4, .int x4)] dL_law_578 (by decide) rfl ?_
        refine gg_aload_n (pc := 580) cx 4 rfl dL_law_580 rfl ?_
        refine gg_callVi (pc := 581) cx cal_X9_thrown calv_X9_thrown (ct_X9_thrown cx.tr hM v2 h) tw_1367 (hM 9 _ rfl v2) rfl rfl rfl (st := []) rfl (Nat.le_of_ble_eq_true rfl) ⟨Nat.le_of_ble_eq_true rfl, Nat.le_of_ble_eq_true rfl⟩ ⟨by show _ ≤ 601024; (try simp only [rm_L_tieRule, rm_X9_tieRule, rm_X9_thrown]); omega, by show _ ≤ 7293000; (try simp only [rm_L_tieRule, rm_X9_tieRule, rm_X9_thrown]); omega⟩ dL_law_581 (fun r581 M581 h => ?_)
        refine gg_iload (pc := 584) cx 1 rfl dL_law_584 ?_
        refine gg_icmp_eq (pc := 586) cx (tgt := 591) dL_law_586 (by decide) (fun c586 => ?_) (fun c586 => ?_)
        · have h := g_it c586 h
          refine gg_iload (pc := 591) cx 1 rfl dL_law_591 ?_
          refine gg_if_ne (pc := 593) cx (tgt := 608) dL_law_593 (by decide) (fun c593 => ?_) (fun c593 => ?_)
          · have h := g_if c593 h
            refine gg_goto (pc := 608) cx (tgt := 2316) dL_law_608 (by decide) ?_
            obtain ⟨n2316, en2316⟩ : ∃ z : Int32, z = x4 + Int32.ofInt (5) := ⟨_, rfl⟩
            have h := h n2316 en2316
            refine gg_iinc (pc := 2316) cx 6 [(4, .int n2316), (6, .int r575), (5, .int r563), (0, .ref (gScB t)), (1, .ref (gAd t 8 o1)), (2, .ref (gAd t 9 o2)), (3, .ref (gAd t 59 o3))] dL_law_2316 rfl en2316.symm (by decide) rfl ?_
            refine gg_goto (pc := 2319) cx (tgt := 33) dL_law_2319 (by decide) ?_
            refine gg_lv (lv' := [(0, .ref (gScB t)), (1, .ref (gAd t 8 o1)), (2, .ref (gAd t 9 o2)), (3, .ref (gAd t 59 o3)), (4, .int n2316)]) [3, 4, 5, 6, 0] rfl ?_
            refine gg_wide (k' := k + 64) (n' := n + 512) (by (try simp only [rm_L_tieRule, rm_X9_tieRule, rm_X9_thrown]); omega) (by (try simp only [rm_L_tieRule, rm_X9_tieRule, rm_X9_thrown]); omega) ?_
            exact ih (k + 64) (n + 512) o1 o2 o3 n2316 M581 (by omega) (by omega) v1 v2 v3 h
          · have h := g_it c593 h
            refine gg_aload_n (pc := 596) cx 5 rfl dL_law_596 rfl ?_
            refine gg_iconst (pc := 597) cx (v := 0) dL_law_597 (by decide) ?_
            have q598 := h.1
            have h := h.2
            refine gg_lald (pc := 598) cx (hO 59 _ rfl v3) rfl q598 dL_law_598 ?_
            refine gg_iload (pc := 599) cx 0 rfl dL_law_599 ?_
            refine gg_i2l (pc := 601) cx dL_law_601 ?_
            refine gg_lcmp_eq (pc := 602) cx (tgt := 608) dL_law_602 dL_law_603 (by decide) (fun c602 => ?_) (fun c602 => ?_)
            · have h := g_it c602 h
              refine gg_goto (pc := 608) cx (tgt := 2316) dL_law_608 (by decide) ?_
              obtain ⟨n2316, en2316⟩ : ∃ z : Int32, z = x4 + Int32.ofInt (5) := ⟨_, rfl⟩
              have h := h n2316 en2316
              refine gg_iinc (pc := 2316) cx 6 [(4, .int n2316), (6, .int r575), (5, .int r563), (0, .ref (gScB t)), (1, .ref (gAd t 8 o1)), (2, .ref (gAd t 9 o2)), (3, .ref (gAd t 59 o3))] dL_law_2316 rfl en2316.symm (by decide) rfl ?_
              refine gg_goto (pc := 2319) cx (tgt := 33) dL_law_2319 (by decide) ?_
              refine gg_lv (lv' := [(0, .ref (gScB t)), (1, .ref (gAd t 8 o1)), (2, .ref (gAd t 9 o2)), (3, .ref (gAd t 59 o3)), (4, .int n2316)]) [3, 4, 5, 6, 0] rfl ?_
              refine gg_wide (k' := k + 64) (n' := n + 512) (by (try simp only [rm_L_tieRule, rm_X9_tieRule, rm_X9_thrown]); omega) (by (try simp only [rm_L_tieRule, rm_X9_tieRule, rm_X9_thrown]); omega) ?_
              exact ih (k + 64) (n + 512) o1 o2 o3 n2316 M581 (by omega) (by omega) v1 v2 v3 h
            · have h := g_if c602 h
              refine gg_iconst (pc := 606) cx (v := 0) dL_law_606 (by decide) ?_
              exact gg_lawret (pc := 607) cx hQ ha hB (by (try simp only [rm_L_tieRule, rm_X9_tieRule, rm_X9_thrown]); omega) (by (try simp only [rm_L_tieRule, rm_X9_tieRule, rm_X9_thrown]); omega) h dL_law_607
        · have h := g_if c586 h
          refine gg_iconst (pc := 589) cx (v := 0) dL_law_589 (by decide) ?_
          exact gg_lawret (pc := 590) cx hQ ha hB (by (try simp only [rm_L_tieRule, rm_X9_tieRule, rm_X9_thrown]); omega) (by (try simp only [rm_L_tieRule, rm_X9_tieRule, rm_X9_thrown]); omega) h dL_law_590
      have h := g_if c49_8 h
      by_cases c49_9 : ((gScX t x4.toNatClampNeg) &&& 63) = 9
      · have h := g_it c49_9 h
        refine gg_swv c49_9 ?_
        refine gg_tableIn (pc := 49) cx (off := 562) (tgt := 611) dL_law_49 (by decide) (by decide) rfl (by decide) ?_
        refine gg_aload_n (pc := 611) cx 1 rfl dL_law_611 rfl ?_
        refine gg_aload_n (pc := 612) cx 0 rfl dL_law_612 rfl ?_
        refine gg_iload (pc := 613) cx 4 rfl dL_law_613 ?_
        refine gg_iconst (pc := 615) cx (v := 1) dL_law_615 (by decide) ?_
        refine gg_iadd (pc := 616) cx dL_law_616 ?_
        have q617 := h.1
        have h := h.2
        refine gg_sld (pc := 617) cx q617 dL_law_617 ?_
        refine gg_aload_n (pc := 618) cx 0 rfl dL_law_618 rfl ?_
        refine gg_iload (pc := 619) cx 4 rfl dL_law_619 ?_
        refine gg_iconst (pc := 621) cx (v := 2) dL_law_621 (by decide) ?_
        refine gg_iadd (pc := 622) cx dL_law_622 ?_
        have q623 := h.1
        have h := h.2
        refine gg_sld (pc := 623) cx q623 dL_law_623 ?_
        refine gg_aload_n (pc := 624) cx 3 rfl dL_law_624 rfl ?_
        refine gg_callSWi (pc := 625) cx cal_L_setFlowWeight tw_909 (ct_L_setFlowWeight cx.tr hC hM hO v1 v3 h) tw_908 rfl (st := []) rfl (Nat.le_of_ble_eq_true rfl) ⟨Nat.le_of_ble_eq_true rfl, Nat.le_of_ble_eq_true rfl⟩ ⟨by show _ ≤ 601024; (try simp only [rm_L_setFlowWeight]); omega, by show _ ≤ 7293000; (try simp only [rm_L_setFlowWeight]); omega⟩ dL_law_625 (fun r625 M625 h => ?_)
        refine gg_istore (pc := 628) cx [(5, .int r625), (0, .ref (gScB t)), (1, .ref (gAd t 8 o1)), (2, .ref (gAd t 9 o2)), (3, .ref (gAd t 59 o3)), (4, .int x4)] dL_law_628 (by decide) rfl ?_
        refine gg_aload_n (pc := 630) cx 3 rfl dL_law_630 rfl ?_
        refine gg_aload_n (pc := 631) cx 1 rfl dL_law_631 rfl ?_
        refine gg_iload (pc := 632) cx 5 rfl dL_law_632 ?_
        refine gg_iconst (pc := 634) cx (v := 1) dL_law_634 (by decide) ?_
        refine gg_iadd (pc := 635) cx dL_law_635 ?_
        have q636 := h.1
        have h := h.2
        refine gg_sld (pc := 636) cx q636 dL_law_636 ?_
        refine gg_aload_n (pc := 637) cx 1 rfl dL_law_637 rfl ?_
        refine gg_iload (pc := 638) cx 5 rfl dL_law_638 ?_
        refine gg_iconst (pc := 640) cx (v := 2) dL_law_640 (by decide) ?_
        refine gg_iadd (pc := 641) cx dL_law_641 ?_
        have q642 := h.1
        have h := h.2
        refine gg_sld (pc := 642) cx q642 dL_law_642 ?_
        refine gg_callVi (pc := 643) cx cal_X9_setFlowWeight calv_X9_setFlowWeight (ct_X9_setFlowWeight cx.tr hM v2 h) tw_1426 (hM 9 _ rfl v2) rfl rfl rfl (st := []) rfl (Nat.le_of_ble_eq_true rfl) ⟨Nat.le_of_ble_eq_true rfl, Nat.le_of_ble_eq_true rfl⟩ ⟨by show _ ≤ 601024; (try simp only [rm_L_setFlowWeight, rm_X9_setFlowWeight]); omega, by show _ ≤ 7293000; (try simp only [rm_L_setFlowWeight, rm_X9_setFlowWeight]); omega⟩ dL_law_643 (fun r643 M643 h => ?_)
        refine gg_istore (pc := 646) cx [(6, .int r643), (5, .int r625), (0, .ref (gScB t)), (1, .ref (gAd t 8 o1)), (2, .ref (gAd t 9 o2)), (3, .ref (gAd t 59 o3)), (4, .int x4)] dL_law_646 (by decide) rfl ?_
        refine gg_aload_n (pc := 648) cx 4 rfl dL_law_648 rfl ?_
        refine gg_callVi (pc := 649) cx cal_X9_thrown calv_X9_thrown (ct_X9_thrown cx.tr hM v2 h) tw_1367 (hM 9 _ rfl v2) rfl rfl rfl (st := []) rfl (Nat.le_of_ble_eq_true rfl) ⟨Nat.le_of_ble_eq_true rfl, Nat.le_of_ble_eq_true rfl⟩ ⟨by show _ ≤ 601024; (try simp only [rm_L_setFlowWeight, rm_X9_setFlowWeight, rm_X9_thrown]); omega, by show _ ≤ 7293000; (try simp only [rm_L_setFlowWeight, rm_X9_setFlowWeight, rm_X9_thrown]); omega⟩ dL_law_649 (fun r649 M649 h => ?_)
        refine gg_iload (pc := 652) cx 1 rfl dL_law_652 ?_
        refine gg_icmp_eq (pc := 654) cx (tgt := 659) dL_law_654 (by decide) (fun c654 => ?_) (fun c654 => ?_)
        · have h := g_it c654 h
          refine gg_iload (pc := 659) cx 1 rfl dL_law_659 ?_
          refine gg_if_ne (pc := 661) cx (tgt := 676) dL_law_661 (by decide) (fun c661 => ?_) (fun c661 => ?_)
          · have h := g_if c661 h
            refine gg_goto (pc := 676) cx (tgt := 2316) dL_law_676 (by decide) ?_
            obtain ⟨n2316, en2316⟩ : ∃ z : Int32, z = x4 + Int32.ofInt (5) := ⟨_, rfl⟩
            have h := h n2316 en2316
            refine gg_iinc (pc := 2316) cx 6 [(4, .int n2316), (6, .int r643), (5, .int r625), (0, .ref (gScB t)), (1, .ref (gAd t 8 o1)), (2, .ref (gAd t 9 o2)), (3, .ref (gAd t 59 o3))] dL_law_2316 rfl en2316.symm (by decide) rfl ?_
            refine gg_goto (pc := 2319) cx (tgt := 33) dL_law_2319 (by decide) ?_
            refine gg_lv (lv' := [(0, .ref (gScB t)), (1, .ref (gAd t 8 o1)), (2, .ref (gAd t 9 o2)), (3, .ref (gAd t 59 o3)), (4, .int n2316)]) [3, 4, 5, 6, 0] rfl ?_
            refine gg_wide (k' := k + 64) (n' := n + 512) (by (try simp only [rm_L_setFlowWeight, rm_X9_setFlowWeight, rm_X9_thrown]); omega) (by (try simp only [rm_L_setFlowWeight, rm_X9_setFlowWeight, rm_X9_thrown]); omega) ?_
            exact ih (k + 64) (n + 512) o1 o2 o3 n2316 M649 (by omega) (by omega) v1 v2 v3 h
          · have h := g_it c661 h
            refine gg_aload_n (pc := 664) cx 5 rfl dL_law_664 rfl ?_
            refine gg_iconst (pc := 665) cx (v := 0) dL_law_665 (by decide) ?_
            have q666 := h.1
            have h := h.2
            refine gg_lald (pc := 666) cx (hO 59 _ rfl v3) rfl q666 dL_law_666 ?_
            refine gg_iload (pc := 667) cx 0 rfl dL_law_667 ?_
            refine gg_i2l (pc := 669) cx dL_law_669 ?_
            refine gg_lcmp_eq (pc := 670) cx (tgt := 676) dL_law_670 dL_law_671 (by decide) (fun c670 => ?_) (fun c670 => ?_)
            · have h := g_it c670 h
              refine gg_goto (pc := 676) cx (tgt := 2316) dL_law_676 (by decide) ?_
              obtain ⟨n2316, en2316⟩ : ∃ z : Int32, z = x4 + Int32.ofInt (5) := ⟨_, rfl⟩
              have h := h n2316 en2316
              refine gg_iinc (pc := 2316) cx 6 [(4, .int n2316), (6, .int r643), (5, .int r625), (0, .ref (gScB t)), (1, .ref (gAd t 8 o1)), (2, .ref (gAd t 9 o2)), (3, .ref (gAd t 59 o3))] dL_law_2316 rfl en2316.symm (by decide) rfl ?_
              refine gg_goto (pc := 2319) cx (tgt := 33) dL_law_2319 (by decide) ?_
              refine gg_lv (lv' := [(0, .ref (gScB t)), (1, .ref (gAd t 8 o1)), (2, .ref (gAd t 9 o2)), (3, .ref (gAd t 59 o3)), (4, .int n2316)]) [3, 4, 5, 6, 0] rfl ?_
              refine gg_wide (k' := k + 64) (n' := n + 512) (by (try simp only [rm_L_setFlowWeight, rm_X9_setFlowWeight, rm_X9_thrown]); omega) (by (try simp only [rm_L_setFlowWeight, rm_X9_setFlowWeight, rm_X9_thrown]); omega) ?_
              exact ih (k + 64) (n + 512) o1 o2 o3 n2316 M649 (by omega) (by omega) v1 v2 v3 h
            · have h := g_if c670 h
              refine gg_iconst (pc := 674) cx (v := 0) dL_law_674 (by decide) ?_
              exact gg_lawret (pc := 675) cx hQ ha hB (by (try simp only [rm_L_setFlowWeight, rm_X9_setFlowWeight, rm_X9_thrown]); omega) (by (try simp only [rm_L_setFlowWeight, rm_X9_setFlowWeight, rm_X9_thrown]); omega) h dL_law_675
        · have h := g_if c654 h
          refine gg_iconst (pc := 657) cx (v := 0) dL_law_657 (by decide) ?_
          exact gg_lawret (pc := 658) cx hQ ha hB (by (try simp only [rm_L_setFlowWeight, rm_X9_setFlowWeight, rm_X9_thrown]); omega) (by (try simp only [rm_L_setFlowWeight, rm_X9_setFlowWeight, rm_X9_thrown]); omega) h dL_law_658
      have h := g_if c49_9 h
      by_cases c49_10 : ((gScX t x4.toNatClampNeg) &&& 63) = 10
      · have h := g_it c49_10 h
        refine gg_swv c49_10 ?_
        refine gg_tableIn (pc := 49) cx (off := 630) (tgt := 679) dL_law_49 (by decide) (by decide) rfl (by decide) ?_
        refine gg_aload_n (pc := 679) cx 1 rfl dL_law_679 rfl ?_
        refine gg_aload_n (pc := 680) cx 0 rfl dL_law_680 rfl ?_
        refine gg_iload (pc := 681) cx 4 rfl dL_law_681 ?_
        refine gg_iconst (pc := 683) cx (v := 1) dL_law_683 (by decide) ?_
        refine gg_iadd (pc := 684) cx dL_law_684 ?_
        have q685 := h.1
        have h := h.2
        refine gg_sld (pc := 685) cx q685 dL_law_685 ?_
        refine gg_aload_n (pc := 686) cx 0 rfl dL_law_686 rfl ?_
        refine gg_iload (pc := 687) cx 4 rfl dL_law_687 ?_
        refine gg_iconst (pc := 689) cx (v := 2) dL_law_689 (by decide) ?_
        refine gg_iadd (pc := 690) cx dL_law_690 ?_
        have q691 := h.1
        have h := h.2
        refine gg_sld (pc := 691) cx q691 dL_law_691 ?_
        refine gg_aload_n (pc := 692) cx 3 rfl dL_law_692 rfl ?_
        refine gg_callSWi (pc := 693) cx cal_L_setNodeWeight tw_924 (ct_L_setNodeWeight cx.tr hC hM hO v1 v3 h) tw_923 rfl (st := []) rfl (Nat.le_of_ble_eq_true rfl) ⟨Nat.le_of_ble_eq_true rfl, Nat.le_of_ble_eq_true rfl⟩ ⟨by show _ ≤ 601024; (try simp only [rm_L_setNodeWeight]); omega, by show _ ≤ 7293000; (try simp only [rm_L_setNodeWeight]); omega⟩ dL_law_693 (fun r693 M693 h => ?_)
        refine gg_istore (pc := 696) cx [(5, .int r693), (0, .ref (gScB t)), (1, .ref (gAd t 8 o1)), (2, .ref (gAd t 9 o2)), (3, .ref (gAd t 59 o3)), (4, .int x4)] dL_law_696 (by decide) rfl ?_
        refine gg_aload_n (pc := 698) cx 3 rfl dL_law_698 rfl ?_
        refine gg_aload_n (pc := 699) cx 1 rfl dL_law_699 rfl ?_
        refine gg_iload (pc := 700) cx 5 rfl dL_law_700 ?_
        refine gg_iconst (pc := 702) cx (v := 1) dL_law_702 (by decide) ?_
        refine gg_iadd (pc := 703) cx dL_law_703 ?_
        have q704 := h.1
        have h := h.2
        refine gg_sld (pc := 704) cx q704 dL_law_704 ?_
        refine gg_aload_n (pc := 705) cx 1 rfl dL_law_705 rfl ?_
        refine gg_iload (pc := 706) cx 5 rfl dL_law_706 ?_
        refine gg_iconst (pc := 708) cx (v := 2) dL_law_708 (by decide) ?_
        refine gg_iadd (pc := 709) cx dL_law_709 ?_
        have q710 := h.1
        have h := h.2
        refine gg_sld (pc := 710) cx q710 dL_law_710 ?_
        refine gg_callVi (pc := 711) cx cal_X9_setNodeWeight calv_X9_setNodeWeight (ct_X9_setNodeWeight cx.tr hM v2 h) tw_1439 (hM 9 _ rfl v2) rfl rfl rfl (st := []) rfl (Nat.le_of_ble_eq_true rfl) ⟨Nat.le_of_ble_eq_true rfl, Nat.le_of_ble_eq_true rfl⟩ ⟨by show _ ≤ 601024; (try simp only [rm_L_setNodeWeight, rm_X9_setNodeWeight]); omega, by show _ ≤ 7293000; (try simp only [rm_L_setNodeWeight, rm_X9_setNodeWeight]); omega⟩ dL_law_711 (fun r711 M711 h => ?_)
        refine gg_istore (pc := 714) cx [(6, .int r711), (5, .int r693), (0, .ref (gScB t)), (1, .ref (gAd t 8 o1)), (2, .ref (gAd t 9 o2)), (3, .ref (gAd t 59 o3)), (4, .int x4)] dL_law_714 (by decide) rfl ?_
        refine gg_aload_n (pc := 716) cx 4 rfl dL_law_716 rfl ?_
        refine gg_callVi (pc := 717) cx cal_X9_thrown calv_X9_thrown (ct_X9_thrown cx.tr hM v2 h) tw_1367 (hM 9 _ rfl v2) rfl rfl rfl (st := []) rfl (Nat.le_of_ble_eq_true rfl) ⟨Nat.le_of_ble_eq_true rfl, Nat.le_of_ble_eq_true rfl⟩ ⟨by show _ ≤ 601024; (try simp only [rm_L_setNodeWeight, rm_X9_setNodeWeight, rm_X9_thrown]); omega, by show _ ≤ 7293000; (try simp only [rm_L_setNodeWeight, rm_X9_setNodeWeight, rm_X9_thrown]); omega⟩ dL_law_717 (fun r717 M717 h => ?_)
        refine gg_iload (pc := 720) cx 1 rfl dL_law_720 ?_
        refine gg_icmp_eq (pc := 722) cx (tgt := 727) dL_law_722 (by decide) (fun c722 => ?_) (fun c722 => ?_)
        · have h := g_it c722 h
          refine gg_iload (pc := 727) cx 1 rfl dL_law_727 ?_
          refine gg_if_ne (pc := 729) cx (tgt := 744) dL_law_729 (by decide) (fun c729 => ?_) (fun c729 => ?_)
          · have h := g_if c729 h
            refine gg_goto (pc := 744) cx (tgt := 2316) dL_law_744 (by decide) ?_
            obtain ⟨n2316, en2316⟩ : ∃ z : Int32, z = x4 + Int32.ofInt (5) := ⟨_, rfl⟩
            have h := h n2316 en2316
            refine gg_iinc (pc := 2316) cx 6 [(4, .int n2316), (6, .int r711), (5, .int r693), (0, .ref (gScB t)), (1, .ref (gAd t 8 o1)), (2, .ref (gAd t 9 o2)), (3, .ref (gAd t 59 o3))] dL_law_2316 rfl en2316.symm (by decide) rfl ?_
            refine gg_goto (pc := 2319) cx (tgt := 33) dL_law_2319 (by decide) ?_
            refine gg_lv (lv' := [(0, .ref (gScB t)), (1, .ref (gAd t 8 o1)), (2, .ref (gAd t 9 o2)), (3, .ref (gAd t 59 o3)), (4, .int n2316)]) [3, 4, 5, 6, 0] rfl ?_
            refine gg_wide (k' := k + 64) (n' := n + 512) (by (try simp only [rm_L_setNodeWeight, rm_X9_setNodeWeight, rm_X9_thrown]); omega) (by (try simp only [rm_L_setNodeWeight, rm_X9_setNodeWeight, rm_X9_thrown]); omega) ?_
            exact ih (k + 64) (n + 512) o1 o2 o3 n2316 M717 (by omega) (by omega) v1 v2 v3 h
          · have h := g_it c729 h
            refine gg_aload_n (pc := 732) cx 5 rfl dL_law_732 rfl ?_
            refine gg_iconst (pc := 733) cx (v := 0) dL_law_733 (by decide) ?_
            have q734 := h.1
            have h := h.2
            refine gg_lald (pc := 734) cx (hO 59 _ rfl v3) rfl q734 dL_law_734 ?_
            refine gg_iload (pc := 735) cx 0 rfl dL_law_735 ?_
            refine gg_i2l (pc := 737) cx dL_law_737 ?_
            refine gg_lcmp_eq (pc := 738) cx (tgt := 744) dL_law_738 dL_law_739 (by decide) (fun c738 => ?_) (fun c738 => ?_)
            · have h := g_it c738 h
              refine gg_goto (pc := 744) cx (tgt := 2316) dL_law_744 (by decide) ?_
              obtain ⟨n2316, en2316⟩ : ∃ z : Int32, z = x4 + Int32.ofInt (5) := ⟨_, rfl⟩
              have h := h n2316 en2316
              refine gg_iinc (pc := 2316) cx 6 [(4, .int n2316), (6, .int r711), (5, .int r693), (0, .ref (gScB t)), (1, .ref (gAd t 8 o1)), (2, .ref (gAd t 9 o2)), (3, .ref (gAd t 59 o3))] dL_law_2316 rfl en2316.symm (by decide) rfl ?_
              refine gg_goto (pc := 2319) cx (tgt := 33) dL_law_2319 (by decide) ?_
              refine gg_lv (lv' := [(0, .ref (gScB t)), (1, .ref (gAd t 8 o1)), (2, .ref (gAd t 9 o2)), (3, .ref (gAd t 59 o3)), (4, .int n2316)]) [3, 4, 5, 6, 0] rfl ?_
              refine gg_wide (k' := k + 64) (n' := n + 512) (by (try simp only [rm_L_setNodeWeight, rm_X9_setNodeWeight, rm_X9_thrown]); omega) (by (try simp only [rm_L_setNodeWeight, rm_X9_setNodeWeight, rm_X9_thrown]); omega) ?_
              exact ih (k + 64) (n + 512) o1 o2 o3 n2316 M717 (by omega) (by omega) v1 v2 v3 h
            · have h := g_if c738 h
              refine gg_iconst (pc := 742) cx (v := 0) dL_law_742 (by decide) ?_
              exact gg_lawret (pc := 743) cx hQ ha hB (by (try simp only [rm_L_setNodeWeight, rm_X9_setNodeWeight, rm_X9_thrown]); omega) (by (try simp only [rm_L_setNodeWeight, rm_X9_setNodeWeight, rm_X9_thrown]); omega) h dL_law_743
        · have h := g_if c722 h
          refine gg_iconst (pc := 725) cx (v := 0) dL_law_725 (by decide) ?_
          exact gg_lawret (pc := 726) cx hQ ha hB (by (try simp only [rm_L_setNodeWeight, rm_X9_setNodeWeight, rm_X9_thrown]); omega) (by (try simp only [rm_L_setNodeWeight, rm_X9_setNodeWeight, rm_X9_thrown]); omega) h dL_law_726
      have h := g_if c49_10 h
      by_cases c49_11 : ((gScX t x4.toNatClampNeg) &&& 63) = 11
      · have h := g_it c49_11 h
        refine gg_swv c49_11 ?_
        refine gg_tableIn (pc := 49) cx (off := 698) (tgt := 747) dL_law_49 (by decide) (by decide) rfl (by decide) ?_
        refine gg_aload_n (pc := 747) cx 1 rfl dL_law_747 rfl ?_
        refine gg_aload_n (pc := 748) cx 0 rfl dL_law_748 rfl ?_
        refine gg_iload (pc := 749) cx 4 rfl dL_law_749 ?_
        refine gg_iconst (pc := 751) cx (v := 1) dL_law_751 (by decide) ?_
        refine gg_iadd (pc := 752) cx dL_law_752 ?_
        have q753 := h.1
        have h := h.2
        refine gg_sld (pc := 753) cx q753 dL_law_753 ?_
        refine gg_aload_n (pc := 754) cx 0 rfl dL_law_754 rfl ?_
        refine gg_iload (pc := 755) cx 4 rfl dL_law_755 ?_
        refine gg_iconst (pc := 757) cx (v := 2) dL_law_757 (by decide) ?_
        refine gg_iadd (pc := 758) cx dL_law_758 ?_
        have q759 := h.1
        have h := h.2
        refine gg_sld (pc := 759) cx q759 dL_law_759 ?_
        refine gg_aload_n (pc := 760) cx 3 rfl dL_law_760 rfl ?_
        refine gg_callSWi (pc := 761) cx cal_L_assign tw_931 (ct_L_assign cx.tr hC hM hO v1 v3 h) tw_930 rfl (st := []) rfl (Nat.le_of_ble_eq_true rfl) ⟨Nat.le_of_ble_eq_true rfl, Nat.le_of_ble_eq_true rfl⟩ ⟨by show _ ≤ 601024; (try simp only [rm_L_assign]); omega, by show _ ≤ 7293000; (try simp only [rm_L_assign]); omega⟩ dL_law_761 (fun r761 M761 h => ?_)
        refine gg_istore (pc := 764) cx [(5, .int r761), (0, .ref (gScB t)), (1, .ref (gAd t 8 o1)), (2, .ref (gAd t 9 o2)), (3, .ref (gAd t 59 o3)), (4, .int x4)] dL_law_764 (by decide) rfl ?_
        refine gg_aload_n (pc := 766) cx 3 rfl dL_law_766 rfl ?_
        refine gg_aload_n (pc := 767) cx 1 rfl dL_law_767 rfl ?_
        refine gg_iload (pc := 768) cx 5 rfl dL_law_768 ?_
        refine gg_iconst (pc := 770) cx (v := 1) dL_law_770 (by decide) ?_
        refine gg_iadd (pc := 771) cx dL_law_771 ?_
        have q772 := h.1
        have h := h.2
        refine gg_sld (pc := 772) cx q772 dL_law_772 ?_
        refine gg_aload_n (pc := 773) cx 1 rfl dL_law_773 rfl ?_
        refine gg_iload (pc := 774) cx 5 rfl dL_law_774 ?_
        refine gg_iconst (pc := 776) cx (v := 2) dL_law_776 (by decide) ?_
        refine gg_iadd (pc := 777) cx dL_law_777 ?_
        have q778 := h.1
        have h := h.2
        refine gg_sld (pc := 778) cx q778 dL_law_778 ?_
        refine gg_callVi (pc := 779) cx cal_X9_assign calv_X9_assign (ct_X9_assign cx.tr hM v2 h) tw_1443 (hM 9 _ rfl v2) rfl rfl rfl (st := []) rfl (Nat.le_of_ble_eq_true rfl) ⟨Nat.le_of_ble_eq_true rfl, Nat.le_of_ble_eq_true rfl⟩ ⟨by show _ ≤ 601024; (try simp only [rm_L_assign, rm_X9_assign]); omega, by show _ ≤ 7293000; (try simp only [rm_L_assign, rm_X9_assign]); omega⟩ dL_law_779 (fun r779 M779 h => ?_)
        refine gg_istore (pc := 782) cx [(6, .int r779), (5, .int r761), (0, .ref (gScB t)), (1, .ref (gAd t 8 o1)), (2, .ref (gAd t 9 o2)), (3, .ref (gAd t 59 o3)), (4, .int x4)] dL_law_782 (by decide) rfl ?_
        refine gg_aload_n (pc := 784) cx 4 rfl dL_law_784 rfl ?_
        refine gg_callVi (pc := 785) cx cal_X9_thrown calv_X9_thrown (ct_X9_thrown cx.tr hM v2 h) tw_1367 (hM 9 _ rfl v2) rfl rfl rfl (st := []) rfl (Nat.le_of_ble_eq_true rfl) ⟨Nat.le_of_ble_eq_true rfl, Nat.le_of_ble_eq_true rfl⟩ ⟨by show _ ≤ 601024; (try simp only [rm_L_assign, rm_X9_assign, rm_X9_thrown]); omega, by show _ ≤ 7293000; (try simp only [rm_L_assign, rm_X9_assign, rm_X9_thrown]); omega⟩ dL_law_785 (fun r785 M785 h => ?_)
        refine gg_iload (pc := 788) cx 1 rfl dL_law_788 ?_
        refine gg_icmp_eq (pc := 790) cx (tgt := 795) dL_law_790 (by decide) (fun c790 => ?_) (fun c790 => ?_)
        · have h := g_it c790 h
          refine gg_iload (pc := 795) cx 1 rfl dL_law_795 ?_
          refine gg_if_ne (pc := 797) cx (tgt := 812) dL_law_797 (by decide) (fun c797 => ?_) (fun c797 => ?_)
          · have h := g_if c797 h
            refine gg_goto (pc := 812) cx (tgt := 2316) dL_law_812 (by decide) ?_
            obtain ⟨n2316, en2316⟩ : ∃ z : Int32, z = x4 + Int32.ofInt (5) := ⟨_, rfl⟩
            have h := h n2316 en2316
            refine gg_iinc (pc := 2316) cx 6 [(4, .int n2316), (6, .int r779), (5, .int r761), (0, .ref (gScB t)), (1, .ref (gAd t 8 o1)), (2, .ref (gAd t 9 o2)), (3, .ref (gAd t 59 o3))] dL_law_2316 rfl en2316.symm (by decide) rfl ?_
            refine gg_goto (pc := 2319) cx (tgt := 33) dL_law_2319 (by decide) ?_
            refine gg_lv (lv' := [(0, .ref (gScB t)), (1, .ref (gAd t 8 o1)), (2, .ref (gAd t 9 o2)), (3, .ref (gAd t 59 o3)), (4, .int n2316)]) [3, 4, 5, 6, 0] rfl ?_
            refine gg_wide (k' := k + 64) (n' := n + 512) (by (try simp only [rm_L_assign, rm_X9_assign, rm_X9_thrown]); omega) (by (try simp only [rm_L_assign, rm_X9_assign, rm_X9_thrown]); omega) ?_
            exact ih (k + 64) (n + 512) o1 o2 o3 n2316 M785 (by omega) (by omega) v1 v2 v3 h
          · have h := g_it c797 h
            refine gg_aload_n (pc := 800) cx 5 rfl dL_law_800 rfl ?_
            refine gg_iconst (pc := 801) cx (v := 0) dL_law_801 (by decide) ?_
            have q802 := h.1
            have h := h.2
            refine gg_lald (pc := 802) cx (hO 59 _ rfl v3) rfl q802 dL_law_802 ?_
            refine gg_iload (pc := 803) cx 0 rfl dL_law_803 ?_
            refine gg_i2l (pc := 805) cx dL_law_805 ?_
            refine gg_lcmp_eq (pc := 806) cx (tgt := 812) dL_law_806 dL_law_807 (by decide) (fun c806 => ?_) (fun c806 => ?_)
            · have h := g_it c806 h
              refine gg_goto (pc := 812) cx (tgt := 2316) dL_law_812 (by decide) ?_
              obtain ⟨n2316, en2316⟩ : ∃ z : Int32, z = x4 + Int32.ofInt (5) := ⟨_, rfl⟩
              have h := h n2316 en2316
              refine gg_iinc (pc := 2316) cx 6 [(4, .int n2316), (6, .int r779), (5, .int r761), (0, .ref (gScB t)), (1, .ref (gAd t 8 o1)), (2, .ref (gAd t 9 o2)), (3, .ref (gAd t 59 o3))] dL_law_2316 rfl en2316.symm (by decide) rfl ?_
              refine gg_goto (pc := 2319) cx (tgt := 33) dL_law_2319 (by decide) ?_
              refine gg_lv (lv' := [(0, .ref (gScB t)), (1, .ref (gAd t 8 o1)), (2, .ref (gAd t 9 o2)), (3, .ref (gAd t 59 o3)), (4, .int n2316)]) [3, 4, 5, 6, 0] rfl ?_
              refine gg_wide (k' := k + 64) (n' := n + 512) (by (try simp only [rm_L_assign, rm_X9_assign, rm_X9_thrown]); omega) (by (try simp only [rm_L_assign, rm_X9_assign, rm_X9_thrown]); omega) ?_
              exact ih (k + 64) (n + 512) o1 o2 o3 n2316 M785 (by omega) (by omega) v1 v2 v3 h
            · have h := g_if c806 h
              refine gg_iconst (pc := 810) cx (v := 0) dL_law_810 (by decide) ?_
              exact gg_lawret (pc := 811) cx hQ ha hB (by (try simp only [rm_L_assign, rm_X9_assign, rm_X9_thrown]); omega) (by (try simp only [rm_L_assign, rm_X9_assign, rm_X9_thrown]); omega) h dL_law_811
        · have h := g_if c790 h
          refine gg_iconst (pc := 793) cx (v := 0) dL_law_793 (by decide) ?_
          exact gg_lawret (pc := 794) cx hQ ha hB (by (try simp only [rm_L_assign, rm_X9_assign, rm_X9_thrown]); omega) (by (try simp only [rm_L_assign, rm_X9_assign, rm_X9_thrown]); omega) h dL_law_794
      have h := g_if c49_11 h
      by_cases c49_12 : ((gScX t x4.toNatClampNeg) &&& 63) = 12
      · have h := g_it c49_12 h
        refine gg_swv c49_12 ?_
        refine gg_tableIn (pc := 49) cx (off := 766) (tgt := 815) dL_law_49 (by decide) (by decide) rfl (by decide) ?_
        refine gg_aload_n (pc := 815) cx 1 rfl dL_law_815 rfl ?_
        refine gg_aload_n (pc := 816) cx 0 rfl dL_law_816 rfl ?_
        refine gg_iload (pc := 817) cx 4 rfl dL_law_817 ?_
        refine gg_iconst (pc := 819) cx (v := 1) dL_law_819 (by decide) ?_
        refine gg_iadd (pc := 820) cx dL_law_820 ?_
        have q821 := h.1
        have h := h.2
        refine gg_sld (pc := 821) cx q821 dL_law_821 ?_
        refine gg_aload_n (pc := 822) cx 3 rfl dL_law_822 rfl ?_
        refine gg_callSWi (pc := 823) cx cal_L_leafOf tw_940 (ct_L_leafOf cx.tr hC hM hO v1 v3 h) tw_939 rfl (st := []) rfl (Nat.le_of_ble_eq_true rfl) ⟨Nat.le_of_ble_eq_true rfl, Nat.le_of_ble_eq_true rfl⟩ ⟨by show _ ≤ 601024; (try simp only [rm_L_leafOf]); omega, by show _ ≤ 7293000; (try simp only [rm_L_leafOf]); omega⟩ dL_law_823 (fun r823 M823 h => ?_)
        refine gg_istore (pc := 826) cx [(5, .int r823), (0, .ref (gScB t)), (1, .ref (gAd t 8 o1)), (2, .ref (gAd t 9 o2)), (3, .ref (gAd t 59 o3)), (4, .int x4)] dL_law_826 (by decide) rfl ?_
        refine gg_aload_n (pc := 828) cx 3 rfl dL_law_828 rfl ?_
        refine gg_aload_n (pc := 829) cx 1 rfl dL_law_829 rfl ?_
        refine gg_iload (pc := 830) cx 5 rfl dL_law_830 ?_
        refine gg_iconst (pc := 832) cx (v := 1) dL_law_832 (by decide) ?_
        refine gg_iadd (pc := 833) cx dL_law_833 ?_
        have q834 := h.1
        have h := h.2
        refine gg_sld (pc := 834) cx q834 dL_law_834 ?_
        refine gg_callVi (pc := 835) cx cal_X9_leafOf calv_X9_leafOf (ct_X9_leafOf cx.tr hM v2 h) tw_1447 (hM 9 _ rfl v2) rfl rfl rfl (st := []) rfl (Nat.le_of_ble_eq_true rfl) ⟨Nat.le_of_ble_eq_true rfl, Nat.le_of_ble_eq_true rfl⟩ ⟨by show _ ≤ 601024; (try simp only [rm_L_leafOf, rm_X9_leafOf]); omega, by show _ ≤ 7293000; (try simp only [rm_L_leafOf, rm_X9_leafOf]); omega⟩ dL_law_835 (fun r835 M835 h => ?_)
        refine gg_istore (pc := 838) cx [(6, .int r835), (5, .int r823), (0, .ref (gScB t)), (1, .ref (gAd t 8 o1)), (2, .ref (gAd t 9 o2)), (3, .ref (gAd t 59 o3)), (4, .int x4)] dL_law_838 (by decide) rfl ?_
        refine gg_aload_n (pc := 840) cx 4 rfl dL_law_840 rfl ?_
        refine gg_callVi (pc := 841) cx cal_X9_thrown calv_X9_thrown (ct_X9_thrown cx.tr hM v2 h) tw_1367 (hM 9 _ rfl v2) rfl rfl rfl (st := []) rfl (Nat.le_of_ble_eq_true rfl) ⟨Nat.le_of_ble_eq_true rfl, Nat.le_of_ble_eq_true rfl⟩ ⟨by show _ ≤ 601024; (try simp only [rm_L_leafOf, rm_X9_leafOf, rm_X9_thrown]); omega, by show _ ≤ 7293000; (try simp only [rm_L_leafOf, rm_X9_leafOf, rm_X9_thrown]); omega⟩ dL_law_841 (fun r841 M841 h => ?_)
        refine gg_iload (pc := 844) cx 1 rfl dL_law_844 ?_
        refine gg_icmp_eq (pc := 846) cx (tgt := 851) dL_law_846 (by decide) (fun c846 => ?_) (fun c846 => ?_)
        · have h := g_it c846 h
          refine gg_iload (pc := 851) cx 1 rfl dL_law_851 ?_
          refine gg_if_ne (pc := 853) cx (tgt := 868) dL_law_853 (by decide) (fun c853 => ?_) (fun c853 => ?_)
          · have h := g_if c853 h
            refine gg_goto (pc := 868) cx (tgt := 2316) dL_law_868 (by decide) ?_
            obtain ⟨n2316, en2316⟩ : ∃ z : Int32, z = x4 + Int32.ofInt (5) := ⟨_, rfl⟩
            have h := h n2316 en2316
            refine gg_iinc (pc := 2316) cx 6 [(4, .int n2316), (6, .int r835), (5, .int r823), (0, .ref (gScB t)), (1, .ref (gAd t 8 o1)), (2, .ref (gAd t 9 o2)), (3, .ref (gAd t 59 o3))] dL_law_2316 rfl en2316.symm (by decide) rfl ?_
            refine gg_goto (pc := 2319) cx (tgt := 33) dL_law_2319 (by decide) ?_
            refine gg_lv (lv' := [(0, .ref (gScB t)), (1, .ref (gAd t 8 o1)), (2, .ref (gAd t 9 o2)), (3, .ref (gAd t 59 o3)), (4, .int n2316)]) [3, 4, 5, 6, 0] rfl ?_
            refine gg_wide (k' := k + 64) (n' := n + 512) (by (try simp only [rm_L_leafOf, rm_X9_leafOf, rm_X9_thrown]); omega) (by (try simp only [rm_L_leafOf, rm_X9_leafOf, rm_X9_thrown]); omega) ?_
            exact ih (k + 64) (n + 512) o1 o2 o3 n2316 M841 (by omega) (by omega) v1 v2 v3 h
          · have h := g_it c853 h
            refine gg_aload_n (pc := 856) cx 5 rfl dL_law_856 rfl ?_
            refine gg_iconst (pc := 857) cx (v := 0) dL_law_857 (by decide) ?_
            have q858 := h.1
            have h := h.2
            refine gg_lald (pc := 858) cx (hO 59 _ rfl v3) rfl q858 dL_law_858 ?_
            refine gg_iload (pc := 859) cx 0 rfl dL_law_859 ?_
            refine gg_i2l (pc := 861) cx dL_law_861 ?_
            refine gg_lcmp_eq (pc := 862) cx (tgt := 868) dL_law_862 dL_law_863 (by decide) (fun c862 => ?_) (fun c862 => ?_)
            · have h := g_it c862 h
              refine gg_goto (pc := 868) cx (tgt := 2316) dL_law_868 (by decide) ?_
              obtain ⟨n2316, en2316⟩ : ∃ z : Int32, z = x4 + Int32.ofInt (5) := ⟨_, rfl⟩
              have h := h n2316 en2316
              refine gg_iinc (pc := 2316) cx 6 [(4, .int n2316), (6, .int r835), (5, .int r823), (0, .ref (gScB t)), (1, .ref (gAd t 8 o1)), (2, .ref (gAd t 9 o2)), (3, .ref (gAd t 59 o3))] dL_law_2316 rfl en2316.symm (by decide) rfl ?_
              refine gg_goto (pc := 2319) cx (tgt := 33) dL_law_2319 (by decide) ?_
              refine gg_lv (lv' := [(0, .ref (gScB t)), (1, .ref (gAd t 8 o1)), (2, .ref (gAd t 9 o2)), (3, .ref (gAd t 59 o3)), (4, .int n2316)]) [3, 4, 5, 6, 0] rfl ?_
              refine gg_wide (k' := k + 64) (n' := n + 512) (by (try simp only [rm_L_leafOf, rm_X9_leafOf, rm_X9_thrown]); omega) (by (try simp only [rm_L_leafOf, rm_X9_leafOf, rm_X9_thrown]); omega) ?_
              exact ih (k + 64) (n + 512) o1 o2 o3 n2316 M841 (by omega) (by omega) v1 v2 v3 h
            · have h := g_if c862 h
              refine gg_iconst (pc := 866) cx (v := 0) dL_law_866 (by decide) ?_
              exact gg_lawret (pc := 867) cx hQ ha hB (by (try simp only [rm_L_leafOf, rm_X9_leafOf, rm_X9_thrown]); omega) (by (try simp only [rm_L_leafOf, rm_X9_leafOf, rm_X9_thrown]); omega) h dL_law_867
        · have h := g_if c846 h
          refine gg_iconst (pc := 849) cx (v := 0) dL_law_849 (by decide) ?_
          exact gg_lawret (pc := 850) cx hQ ha hB (by (try simp only [rm_L_leafOf, rm_X9_leafOf, rm_X9_thrown]); omega) (by (try simp only [rm_L_leafOf, rm_X9_leafOf, rm_X9_thrown]); omega) h dL_law_850
      have h := g_if c49_12 h
      by_cases c49_13 : ((gScX t x4.toNatClampNeg) &&& 63) = 13
      · have h := g_it c49_13 h
        refine gg_swv c49_13 ?_
        refine gg_tableIn (pc := 49) cx (off := 822) (tgt := 871) dL_law_49 (by decide) (by decide) rfl (by decide) ?_
        refine gg_aload_n (pc := 871) cx 1 rfl dL_law_871 rfl ?_
        refine gg_aload_n (pc := 872) cx 0 rfl dL_law_872 rfl ?_
        refine gg_iload (pc := 873) cx 4 rfl dL_law_873 ?_
        refine gg_iconst (pc := 875) cx (v := 1) dL_law_875 (by decide) ?_
        refine gg_iadd (pc := 876) cx dL_law_876 ?_
        have q877 := h.1
        have h := h.2
        refine gg_sld (pc := 877) cx q877 dL_law_877 ?_
        refine gg_aload_n (pc := 878) cx 3 rfl dL_law_878 rfl ?_
        refine gg_callSWi (pc := 879) cx cal_L_setLinkRate tw_947 (ct_L_setLinkRate cx.tr hC hM hO v1 v3 h) tw_946 rfl (st := []) rfl (Nat.le_of_ble_eq_true rfl) ⟨Nat.le_of_ble_eq_true rfl, Nat.le_of_ble_eq_true rfl⟩ ⟨by show _ ≤ 601024; (try simp only [rm_L_setLinkRate]); omega, by show _ ≤ 7293000; (try simp only [rm_L_setLinkRate]); omega⟩ dL_law_879 (fun r879 M879 h => ?_)
        refine gg_istore (pc := 882) cx [(5, .int r879), (0, .ref (gScB t)), (1, .ref (gAd t 8 o1)), (2, .ref (gAd t 9 o2)), (3, .ref (gAd t 59 o3)), (4, .int x4)] dL_law_882 (by decide) rfl ?_
        refine gg_aload_n (pc := 884) cx 3 rfl dL_law_884 rfl ?_
        refine gg_aload_n (pc := 885) cx 1 rfl dL_law_885 rfl ?_
        refine gg_iload (pc := 886) cx 5 rfl dL_law_886 ?_
        refine gg_iconst (pc := 888) cx (v := 1) dL_law_888 (by decide) ?_
        refine gg_iadd (pc := 889) cx dL_law_889 ?_
        have q890 := h.1
        have h := h.2
        refine gg_sld (pc := 890) cx q890 dL_law_890 ?_
        refine gg_callVi (pc := 891) cx cal_X9_setLinkRate calv_X9_setLinkRate (ct_X9_setLinkRate cx.tr hM v2 h) tw_1455 (hM 9 _ rfl v2) rfl rfl rfl (st := []) rfl (Nat.le_of_ble_eq_true rfl) ⟨Nat.le_of_ble_eq_true rfl, Nat.le_of_ble_eq_true rfl⟩ ⟨by show _ ≤ 601024; (try simp only [rm_L_setLinkRate, rm_X9_setLinkRate]); omega, by show _ ≤ 7293000; (try simp only [rm_L_setLinkRate, rm_X9_setLinkRate]); omega⟩ dL_law_891 (fun r891 M891 h => ?_)
        refine gg_istore (pc := 894) cx [(6, .int r891), (5, .int r879), (0, .ref (gScB t)), (1, .ref (gAd t 8 o1)), (2, .ref (gAd t 9 o2)), (3, .ref (gAd t 59 o3)), (4, .int x4)] dL_law_894 (by decide) rfl ?_
        refine gg_aload_n (pc := 896) cx 4 rfl dL_law_896 rfl ?_
        refine gg_callVi (pc := 897) cx cal_X9_thrown calv_X9_thrown (ct_X9_thrown cx.tr hM v2 h) tw_1367 (hM 9 _ rfl v2) rfl rfl rfl (st := []) rfl (Nat.le_of_ble_eq_true rfl) ⟨Nat.le_of_ble_eq_true rfl, Nat.le_of_ble_eq_true rfl⟩ ⟨by show _ ≤ 601024; (try simp only [rm_L_setLinkRate, rm_X9_setLinkRate, rm_X9_thrown]); omega, by show _ ≤ 7293000; (try simp only [rm_L_setLinkRate, rm_X9_setLinkRate, rm_X9_thrown]); omega⟩ dL_law_897 (fun r897 M897 h => ?_)
        refine gg_iload (pc := 900) cx 1 rfl dL_law_900 ?_
        refine gg_icmp_eq (pc := 902) cx (tgt := 907) dL_law_902 (by decide) (fun c902 => ?_) (fun c902 => ?_)
        · have h := g_it c902 h
          refine gg_iload (pc := 907) cx 1 rfl dL_law_907 ?_
          refine gg_if_ne (pc := 909) cx (tgt := 924) dL_law_909 (by decide) (fun c909 => ?_) (fun c909 => ?_)
          · have h := g_if c909 h
            refine gg_goto (pc := 924) cx (tgt := 2316) dL_law_924 (by decide) ?_
            obtain ⟨n2316, en2316⟩ : ∃ z : Int32, z = x4 + Int32.ofInt (5) := ⟨_, rfl⟩
            have h := h n2316 en2316
            refine gg_iinc (pc := 2316) cx 6 [(4, .int n2316), (6, .int r891), (5, .int r879), (0, .ref (gScB t)), (1, .ref (gAd t 8 o1)), (2, .ref (gAd t 9 o2)), (3, .ref (gAd t 59 o3))] dL_law_2316 rfl en2316.symm (by decide) rfl ?_
            refine gg_goto (pc := 2319) cx (tgt := 33) dL_law_2319 (by decide) ?_
            refine gg_lv (lv' := [(0, .ref (gScB t)), (1, .ref (gAd t 8 o1)), (2, .ref (gAd t 9 o2)), (3, .ref (gAd t 59 o3)), (4, .int n2316)]) [3, 4, 5, 6, 0] rfl ?_
            refine gg_wide (k' := k + 64) (n' := n + 512) (by (try simp only [rm_L_setLinkRate, rm_X9_setLinkRate, rm_X9_thrown]); omega) (by (try simp only [rm_L_setLinkRate, rm_X9_setLinkRate, rm_X9_thrown]); omega) ?_
            exact ih (k + 64) (n + 512) o1 o2 o3 n2316 M897 (by omega) (by omega) v1 v2 v3 h
          · have h := g_it c909 h
            refine gg_aload_n (pc := 912) cx 5 rfl dL_law_912 rfl ?_
            refine gg_iconst (pc := 913) cx (v := 0) dL_law_913 (by decide) ?_
            have q914 := h.1
            have h := h.2
            refine gg_lald (pc := 914) cx (hO 59 _ rfl v3) rfl q914 dL_law_914 ?_
            refine gg_iload (pc := 915) cx 0 rfl dL_law_915 ?_
            refine gg_i2l (pc := 917) cx dL_law_917 ?_
            refine gg_lcmp_eq (pc := 918) cx (tgt := 924) dL_law_918 dL_law_919 (by decide) (fun c918 => ?_) (fun c918 => ?_)
            · have h := g_it c918 h
              refine gg_goto (pc := 924) cx (tgt := 2316) dL_law_924 (by decide) ?_
              obtain ⟨n2316, en2316⟩ : ∃ z : Int32, z = x4 + Int32.ofInt (5) := ⟨_, rfl⟩
              have h := h n2316 en2316
              refine gg_iinc (pc := 2316) cx 6 [(4, .int n2316), (6, .int r891), (5, .int r879), (0, .ref (gScB t)), (1, .ref (gAd t 8 o1)), (2, .ref (gAd t 9 o2)), (3, .ref (gAd t 59 o3))] dL_law_2316 rfl en2316.symm (by decide) rfl ?_
              refine gg_goto (pc := 2319) cx (tgt := 33) dL_law_2319 (by decide) ?_
              refine gg_lv (lv' := [(0, .ref (gScB t)), (1, .ref (gAd t 8 o1)), (2, .ref (gAd t 9 o2)), (3, .ref (gAd t 59 o3)), (4, .int n2316)]) [3, 4, 5, 6, 0] rfl ?_
              refine gg_wide (k' := k + 64) (n' := n + 512) (by (try simp only [rm_L_setLinkRate, rm_X9_setLinkRate, rm_X9_thrown]); omega) (by (try simp only [rm_L_setLinkRate, rm_X9_setLinkRate, rm_X9_thrown]); omega) ?_
              exact ih (k + 64) (n + 512) o1 o2 o3 n2316 M897 (by omega) (by omega) v1 v2 v3 h
            · have h := g_if c918 h
              refine gg_iconst (pc := 922) cx (v := 0) dL_law_922 (by decide) ?_
              exact gg_lawret (pc := 923) cx hQ ha hB (by (try simp only [rm_L_setLinkRate, rm_X9_setLinkRate, rm_X9_thrown]); omega) (by (try simp only [rm_L_setLinkRate, rm_X9_setLinkRate, rm_X9_thrown]); omega) h dL_law_923
        · have h := g_if c902 h
          refine gg_iconst (pc := 905) cx (v := 0) dL_law_905 (by decide) ?_
          exact gg_lawret (pc := 906) cx hQ ha hB (by (try simp only [rm_L_setLinkRate, rm_X9_setLinkRate, rm_X9_thrown]); omega) (by (try simp only [rm_L_setLinkRate, rm_X9_setLinkRate, rm_X9_thrown]); omega) h dL_law_906
      have h := g_if c49_13 h
      by_cases c49_14 : ((gScX t x4.toNatClampNeg) &&& 63) = 14
      · have h := g_it c49_14 h
        refine gg_swv c49_14 ?_
        refine gg_tableIn (pc := 49) cx (off := 878) (tgt := 927) dL_law_49 (by decide) (by decide) rfl (by decide) ?_
        refine gg_aload_n (pc := 927) cx 1 rfl dL_law_927 rfl ?_
        refine gg_aload_n (pc := 928) cx 0 rfl dL_law_928 rfl ?_
        refine gg_iload (pc := 929) cx 4 rfl dL_law_929 ?_
        refine gg_iconst (pc := 931) cx (v := 1) dL_law_931 (by decide) ?_
        refine gg_iadd (pc := 932) cx dL_law_932 ?_
        have q933 := h.1
        have h := h.2
        refine gg_sld (pc := 933) cx q933 dL_law_933 ?_
        refine gg_aload_n (pc := 934) cx 0 rfl dL_law_934 rfl ?_
        refine gg_iload (pc := 935) cx 4 rfl dL_law_935 ?_
        refine gg_iconst (pc := 937) cx (v := 2) dL_law_937 (by decide) ?_
        refine gg_iadd (pc := 938) cx dL_law_938 ?_
        have q939 := h.1
        have h := h.2
        refine gg_sld (pc := 939) cx q939 dL_law_939 ?_
        refine gg_aload_n (pc := 940) cx 0 rfl dL_law_940 rfl ?_
        refine gg_iload (pc := 941) cx 4 rfl dL_law_941 ?_
        refine gg_iconst (pc := 943) cx (v := 3) dL_law_943 (by decide) ?_
        refine gg_iadd (pc := 944) cx dL_law_944 ?_
        have q945 := h.1
        have h := h.2
        refine gg_sld (pc := 945) cx q945 dL_law_945 ?_
        refine gg_aload_n (pc := 946) cx 0 rfl dL_law_946 rfl ?_
        refine gg_iload (pc := 947) cx 4 rfl dL_law_947 ?_
        refine gg_iconst (pc := 949) cx (v := 4) dL_law_949 (by decide) ?_
        refine gg_iadd (pc := 950) cx dL_law_950 ?_
        have q951 := h.1
        have h := h.2
        refine gg_sld (pc := 951) cx q951 dL_law_951 ?_
        refine gg_aload_n (pc := 952) cx 3 rfl dL_law_952 rfl ?_
        refine gg_callSWi (pc := 953) cx cal_L_enqueue tw_955 (ct_L_enqueue cx.tr hC hM hO v1 v3 h) tw_954 rfl (st := []) rfl (Nat.le_of_ble_eq_true rfl) ⟨Nat.le_of_ble_eq_true rfl, Nat.le_of_ble_eq_true rfl⟩ ⟨by show _ ≤ 601024; (try simp only [rm_L_enqueue]); omega, by show _ ≤ 7293000; (try simp only [rm_L_enqueue]); omega⟩ dL_law_953 (fun r953 M953 h => ?_)
        refine gg_istore (pc := 956) cx [(5, .int r953), (0, .ref (gScB t)), (1, .ref (gAd t 8 o1)), (2, .ref (gAd t 9 o2)), (3, .ref (gAd t 59 o3)), (4, .int x4)] dL_law_956 (by decide) rfl ?_
        refine gg_aload_n (pc := 958) cx 3 rfl dL_law_958 rfl ?_
        refine gg_aload_n (pc := 959) cx 1 rfl dL_law_959 rfl ?_
        refine gg_iload (pc := 960) cx 5 rfl dL_law_960 ?_
        refine gg_iconst (pc := 962) cx (v := 1) dL_law_962 (by decide) ?_
        refine gg_iadd (pc := 963) cx dL_law_963 ?_
        have q964 := h.1
        have h := h.2
        refine gg_sld (pc := 964) cx q964 dL_law_964 ?_
        refine gg_aload_n (pc := 965) cx 1 rfl dL_law_965 rfl ?_
        refine gg_iload (pc := 966) cx 5 rfl dL_law_966 ?_
        refine gg_iconst (pc := 968) cx (v := 2) dL_law_968 (by decide) ?_
        refine gg_iadd (pc := 969) cx dL_law_969 ?_
        have q970 := h.1
        have h := h.2
        refine gg_sld (pc := 970) cx q970 dL_law_970 ?_
        refine gg_aload_n (pc := 971) cx 1 rfl dL_law_971 rfl ?_
        refine gg_iload (pc := 972) cx 5 rfl dL_law_972 ?_
        refine gg_iconst (pc := 974) cx (v := 3) dL_law_974 (by decide) ?_
        refine gg_iadd (pc := 975) cx dL_law_975 ?_
        have q976 := h.1
        have h := h.2
        refine gg_sld (pc := 976) cx q976 dL_law_976 ?_
        refine gg_aload_n (pc := 977) cx 1 rfl dL_law_977 rfl ?_
        refine gg_iload (pc := 978) cx 5 rfl dL_law_978 ?_
        refine gg_iconst (pc := 980) cx (v := 4) dL_law_980 (by decide) ?_
        refine gg_iadd (pc := 981) cx dL_law_981 ?_
        have q982 := h.1
        have h := h.2
        refine gg_sld (pc := 982) cx q982 dL_law_982 ?_
        refine gg_callVi (pc := 983) cx cal_X9_enqueue calv_X9_enqueue (ct_X9_enqueue cx.tr hM v2 h) tw_1459 (hM 9 _ rfl v2) rfl rfl rfl (st := []) rfl (Nat.le_of_ble_eq_true rfl) ⟨Nat.le_of_ble_eq_true rfl, Nat.le_of_ble_eq_true rfl⟩ ⟨by show _ ≤ 601024; (try simp only [rm_L_enqueue, rm_X9_enqueue]); omega, by show _ ≤ 7293000; (try simp only [rm_L_enqueue, rm_X9_enqueue]); omega⟩ dL_law_983 (fun r983 M983 h => ?_)
        refine gg_istore (pc := 986) cx [(6, .int r983), (5, .int r953), (0, .ref (gScB t)), (1, .ref (gAd t 8 o1)), (2, .ref (gAd t 9 o2)), (3, .ref (gAd t 59 o3)), (4, .int x4)] dL_law_986 (by decide) rfl ?_
        refine gg_aload_n (pc := 988) cx 4 rfl dL_law_988 rfl ?_
        refine gg_callVi (pc := 989) cx cal_X9_thrown calv_X9_thrown (ct_X9_thrown cx.tr hM v2 h) tw_1367 (hM 9 _ rfl v2) rfl rfl rfl (st := []) rfl (Nat.le_of_ble_eq_true rfl) ⟨Nat.le_of_ble_eq_true rfl, Nat.le_of_ble_eq_true rfl⟩ ⟨by show _ ≤ 601024; (try simp only [rm_L_enqueue, rm_X9_enqueue, rm_X9_thrown]); omega, by show _ ≤ 7293000; (try simp only [rm_L_enqueue, rm_X9_enqueue, rm_X9_thrown]); omega⟩ dL_law_989 (fun r989 M989 h => ?_)
        refine gg_iload (pc := 992) cx 1 rfl dL_law_992 ?_
        refine gg_icmp_eq (pc := 994) cx (tgt := 999) dL_law_994 (by decide) (fun c994 => ?_) (fun c994 => ?_)
        · have h := g_it c994 h
          refine gg_iload (pc := 999) cx 1 rfl dL_law_999 ?_
          refine gg_if_ne (pc := 1001) cx (tgt := 1016) dL_law_1001 (by decide) (fun c1001 => ?_) (fun c1001 => ?_)
          · have h := g_if c1001 h
            refine gg_goto (pc := 1016) cx (tgt := 2316) dL_law_1016 (by decide) ?_
            obtain ⟨n2316, en2316⟩ : ∃ z : Int32, z = x4 + Int32.ofInt (5) := ⟨_, rfl⟩
            have h := h n2316 en2316
            refine gg_iinc (pc := 2316) cx 6 [(4, .int n2316), (6, .int r983), (5, .int r953), (0, .ref (gScB t)), (1, .ref (gAd t 8 o1)), (2, .ref (gAd t 9 o2)), (3, .ref (gAd t 59 o3))] dL_law_2316 rfl en2316.symm (by decide) rfl ?_
            refine gg_goto (pc := 2319) cx (tgt := 33) dL_law_2319 (by decide) ?_
            refine gg_lv (lv' := [(0, .ref (gScB t)), (1, .ref (gAd t 8 o1)), (2, .ref (gAd t 9 o2)), (3, .ref (gAd t 59 o3)), (4, .int n2316)]) [3, 4, 5, 6, 0] rfl ?_
            refine gg_wide (k' := k + 64) (n' := n + 512) (by (try simp only [rm_L_enqueue, rm_X9_enqueue, rm_X9_thrown]); omega) (by (try simp only [rm_L_enqueue, rm_X9_enqueue, rm_X9_thrown]); omega) ?_
            exact ih (k + 64) (n + 512) o1 o2 o3 n2316 M989 (by omega) (by omega) v1 v2 v3 h
          · have h := g_it c1001 h
            refine gg_aload_n (pc := 1004) cx 5 rfl dL_law_1004 rfl ?_
            refine gg_iconst (pc := 1005) cx (v := 0) dL_law_1005 (by decide) ?_
            have q1006 := h.1
            have h := h.2
            refine gg_lald (pc := 1006) cx (hO 59 _ rfl v3) rfl q1006 dL_law_1006 ?_
            refine gg_iload (pc := 1007) cx 0 rfl dL_law_1007 ?_
            refine gg_i2l (pc := 1009) cx dL_law_1009 ?_
            refine gg_lcmp_eq (pc := 1010) cx (tgt := 1016) dL_law_1010 dL_law_1011 (by decide) (fun c1010 => ?_) (fun c1010 => ?_)
            · have h := g_it c1010 h
              refine gg_goto (pc := 1016) cx (tgt := 2316) dL_law_1016 (by decide) ?_
              obtain ⟨n2316, en2316⟩ : ∃ z : Int32, z = x4 + Int32.ofInt (5) := ⟨_, rfl⟩
              have h := h n2316 en2316
              refine gg_iinc (pc := 2316) cx 6 [(4, .int n2316), (6, .int r983), (5, .int r953), (0, .ref (gScB t)), (1, .ref (gAd t 8 o1)), (2, .ref (gAd t 9 o2)), (3, .ref (gAd t 59 o3))] dL_law_2316 rfl en2316.symm (by decide) rfl ?_
              refine gg_goto (pc := 2319) cx (tgt := 33) dL_law_2319 (by decide) ?_
              refine gg_lv (lv' := [(0, .ref (gScB t)), (1, .ref (gAd t 8 o1)), (2, .ref (gAd t 9 o2)), (3, .ref (gAd t 59 o3)), (4, .int n2316)]) [3, 4, 5, 6, 0] rfl ?_
              refine gg_wide (k' := k + 64) (n' := n + 512) (by (try simp only [rm_L_enqueue, rm_X9_enqueue, rm_X9_thrown]); omega) (by (try simp only [rm_L_enqueue, rm_X9_enqueue, rm_X9_thrown]); omega) ?_
              exact ih (k + 64) (n + 512) o1 o2 o3 n2316 M989 (by omega) (by omega) v1 v2 v3 h
            · have h := g_if c1010 h
              refine gg_iconst (pc := 1014) cx (v := 0) dL_law_1014 (by decide) ?_
              exact gg_lawret (pc := 1015) cx hQ ha hB (by (try simp only [rm_L_enqueue, rm_X9_enqueue, rm_X9_thrown]); omega) (by (try simp only [rm_L_enqueue, rm_X9_enqueue, rm_X9_thrown]); omega) h dL_law_1015
        · have h := g_if c994 h
          refine gg_iconst (pc := 997) cx (v := 0) dL_law_997 (by decide) ?_
          exact gg_lawret (pc := 998) cx hQ ha hB (by (try simp only [rm_L_enqueue, rm_X9_enqueue, rm_X9_thrown]); omega) (by (try simp only [rm_L_enqueue, rm_X9_enqueue, rm_X9_thrown]); omega) h dL_law_998
      have h := g_if c49_14 h
      by_cases c49_15 : ((gScX t x4.toNatClampNeg) &&& 63) = 15
      · have h := g_it c49_15 h
        refine gg_swv c49_15 ?_
        refine gg_tableIn (pc := 49) cx (off := 970) (tgt := 1019) dL_law_49 (by decide) (by decide) rfl (by decide) ?_
        refine gg_aload_n (pc := 1019) cx 1 rfl dL_law_1019 rfl ?_
        refine gg_callVi (pc := 1020) cx cal_X8_dequeue calv_X8_dequeue (ct_X8_dequeue cx.tr hC v1 h) tw_606 (hC 8 _ rfl v1) rfl rfl rfl (st := []) rfl (Nat.le_of_ble_eq_true rfl) ⟨Nat.le_of_ble_eq_true rfl, Nat.le_of_ble_eq_true rfl⟩ ⟨by show _ ≤ 601024; (try simp only [rm_X8_dequeue]); omega, by show _ ≤ 7293000; (try simp only [rm_X8_dequeue]); omega⟩ dL_law_1020 (fun r1020 M1020 h => ?_)
        refine gg_aload_n (pc := 1023) cx 2 rfl dL_law_1023 rfl ?_
        refine gg_callVi (pc := 1024) cx cal_X9_dequeue calv_X9_dequeue (ct_X9_dequeue cx.tr hM v2 h) tw_1508 (hM 9 _ rfl v2) rfl rfl rfl (st := [.int r1020]) rfl (Nat.le_of_ble_eq_true rfl) ⟨Nat.le_of_ble_eq_true rfl, Nat.le_of_ble_eq_true rfl⟩ ⟨by show _ ≤ 601024; (try simp only [rm_X8_dequeue, rm_X9_dequeue]); omega, by show _ ≤ 7293000; (try simp only [rm_X8_dequeue, rm_X9_dequeue]); omega⟩ dL_law_1024 (fun r1024 M1024 h => ?_)
        refine gg_icmp_eq (pc := 1027) cx (tgt := 2316) dL_law_1027 (by decide) (fun c1027 => ?_) (fun c1027 => ?_)
        · have h := g_it c1027 h
          obtain ⟨n2316, en2316⟩ : ∃ z : Int32, z = x4 + Int32.ofInt (5) := ⟨_, rfl⟩
          have h := h n2316 en2316
          refine gg_iinc (pc := 2316) cx 4 [(4, .int n2316), (0, .ref (gScB t)), (1, .ref (gAd t 8 o1)), (2, .ref (gAd t 9 o2)), (3, .ref (gAd t 59 o3))] dL_law_2316 rfl en2316.symm (by decide) rfl ?_
          refine gg_goto (pc := 2319) cx (tgt := 33) dL_law_2319 (by decide) ?_
          refine gg_lv (lv' := [(0, .ref (gScB t)), (1, .ref (gAd t 8 o1)), (2, .ref (gAd t 9 o2)), (3, .ref (gAd t 59 o3)), (4, .int n2316)]) [1, 2, 3, 4, 0] rfl ?_
          refine gg_wide (k' := k + 64) (n' := n + 512) (by (try simp only [rm_X8_dequeue, rm_X9_dequeue]); omega) (by (try simp only [rm_X8_dequeue, rm_X9_dequeue]); omega) ?_
          exact ih (k + 64) (n + 512) o1 o2 o3 n2316 M1024 (by omega) (by omega) v1 v2 v3 h
        · have h := g_if c1027 h
          refine gg_iconst (pc := 1030) cx (v := 0) dL_law_1030 (by decide) ?_
          exact gg_lawret (pc := 1031) cx hQ ha hB (by (try simp only [rm_X8_dequeue, rm_X9_dequeue]); omega) (by (try simp only [rm_X8_dequeue, rm_X9_dequeue]); omega) h dL_law_1031
      have h := g_if c49_15 h
      by_cases c49_16 : ((gScX t x4.toNatClampNeg) &&& 63) = 16
      · have h := g_it c49_16 h
        refine gg_swv c49_16 ?_
        refine gg_tableIn (pc := 49) cx (off := 983) (tgt := 1032) dL_law_49 (by decide) (by decide) rfl (by decide) ?_
        refine gg_aload_n (pc := 1032) cx 1 rfl dL_law_1032 rfl ?_
        refine gg_callVi (pc := 1033) cx cal_X8_transmit calv_X8_transmit (ct_X8_transmit cx.tr hC v1 h) tw_636 (hC 8 _ rfl v1) rfl rfl rfl (st := []) rfl (Nat.le_of_ble_eq_true rfl) ⟨Nat.le_of_ble_eq_true rfl, Nat.le_of_ble_eq_true rfl⟩ ⟨by show _ ≤ 601024; (try simp only [rm_X8_transmit]); omega, by show _ ≤ 7293000; (try simp only [rm_X8_transmit]); omega⟩ dL_law_1033 (fun r1033 M1033 h => ?_)
        refine gg_aload_n (pc := 1036) cx 2 rfl dL_law_1036 rfl ?_
        refine gg_callVi (pc := 1037) cx cal_X9_transmit calv_X9_transmit (ct_X9_transmit cx.tr hM v2 h) tw_1538 (hM 9 _ rfl v2) rfl rfl rfl (st := [.int r1033]) rfl (Nat.le_of_ble_eq_true rfl) ⟨Nat.le_of_ble_eq_true rfl, Nat.le_of_ble_eq_true rfl⟩ ⟨by show _ ≤ 601024; (try simp only [rm_X8_transmit, rm_X9_transmit]); omega, by show _ ≤ 7293000; (try simp only [rm_X8_transmit, rm_X9_transmit]); omega⟩ dL_law_1037 (fun r1037 M1037 h => ?_)
        refine gg_icmp_eq (pc := 1040) cx (tgt := 2316) dL_law_1040 (by decide) (fun c1040 => ?_) (fun c1040 => ?_)
        · have h := g_it c1040 h
          obtain ⟨n2316, en2316⟩ : ∃ z : Int32, z = x4 + Int32.ofInt (5) := ⟨_, rfl⟩
          have h := h n2316 en2316
          refine gg_iinc (pc := 2316) cx 4 [(4, .int n2316), (0, .ref (gScB t)), (1, .ref (gAd t 8 o1)), (2, .ref (gAd t 9 o2)), (3, .ref (gAd t 59 o3))] dL_law_2316 rfl en2316.symm (by decide) rfl ?_
          refine gg_goto (pc := 2319) cx (tgt := 33) dL_law_2319 (by decide) ?_
          refine gg_lv (lv' := [(0, .ref (gScB t)), (1, .ref (gAd t 8 o1)), (2, .ref (gAd t 9 o2)), (3, .ref (gAd t 59 o3)), (4, .int n2316)]) [1, 2, 3, 4, 0] rfl ?_
          refine gg_wide (k' := k + 64) (n' := n + 512) (by (try simp only [rm_X8_transmit, rm_X9_transmit]); omega) (by (try simp only [rm_X8_transmit, rm_X9_transmit]); omega) ?_
          exact ih (k + 64) (n + 512) o1 o2 o3 n2316 M1037 (by omega) (by omega) v1 v2 v3 h
        · have h := g_if c1040 h
          refine gg_iconst (pc := 1043) cx (v := 0) dL_law_1043 (by decide) ?_
          exact gg_lawret (pc := 1044) cx hQ ha hB (by (try simp only [rm_X8_transmit, rm_X9_transmit]); omega) (by (try simp only [rm_X8_transmit, rm_X9_transmit]); omega) h dL_law_1044
      have h := g_if c49_16 h
      by_cases c49_17 : ((gScX t x4.toNatClampNeg) &&& 63) = 17
      · have h := g_it c49_17 h
        refine gg_swv c49_17 ?_
        refine gg_tableIn (pc := 49) cx (off := 996) (tgt := 1045) dL_law_49 (by decide) (by decide) rfl (by decide) ?_
        refine gg_aload_n (pc := 1045) cx 1 rfl dL_law_1045 rfl ?_
        refine gg_aload_n (pc := 1046) cx 0 rfl dL_law_1046 rfl ?_
        refine gg_iload (pc := 1047) cx 4 rfl dL_law_1047 ?_
        refine gg_iconst (pc := 1049) cx (v := 1) dL_law_1049 (by decide) ?_
        refine gg_iadd (pc := 1050) cx dL_law_1050 ?_
        have q1051 := h.1
        have h := h.2
        refine gg_sld (pc := 1051) cx q1051 dL_law_1051 ?_
        refine gg_aload_n (pc := 1052) cx 3 rfl dL_law_1052 rfl ?_
        refine gg_callSWi (pc := 1053) cx cal_L_advance tw_984 (ct_L_advance cx.tr hC hM hO v1 v3 h) tw_983 rfl (st := []) rfl (Nat.le_of_ble_eq_true rfl) ⟨Nat.le_of_ble_eq_true rfl, Nat.le_of_ble_eq_true rfl⟩ ⟨by show _ ≤ 601024; (try simp only [rm_L_advance]); omega, by show _ ≤ 7293000; (try simp only [rm_L_advance]); omega⟩ dL_law_1053 (fun r1053 M1053 h => ?_)
        refine gg_istore (pc := 1056) cx [(5, .int r1053), (0, .ref (gScB t)), (1, .ref (gAd t 8 o1)), (2, .ref (gAd t 9 o2)), (3, .ref (gAd t 59 o3)), (4, .int x4)] dL_law_1056 (by decide) rfl ?_
        refine gg_aload_n (pc := 1058) cx 3 rfl dL_law_1058 rfl ?_
        refine gg_aload_n (pc := 1059) cx 1 rfl dL_law_1059 rfl ?_
        refine gg_iload (pc := 1060) cx 5 rfl dL_law_1060 ?_
        refine gg_iconst (pc := 1062) cx (v := 1) dL_law_1062 (by decide) ?_
        refine gg_iadd (pc := 1063) cx dL_law_1063 ?_
        have q1064 := h.1
        have h := h.2
        refine gg_sld (pc := 1064) cx q1064 dL_law_1064 ?_
        refine gg_callVi (pc := 1065) cx cal_X9_advance calv_X9_advance (ct_X9_advance cx.tr hM v2 h) tw_1554 (hM 9 _ rfl v2) rfl rfl rfl (st := []) rfl (Nat.le_of_ble_eq_true rfl) ⟨Nat.le_of_ble_eq_true rfl, Nat.le_of_ble_eq_true rfl⟩ ⟨by show _ ≤ 601024; (try simp only [rm_L_advance, rm_X9_advance]); omega, by show _ ≤ 7293000; (try simp only [rm_L_advance, rm_X9_advance]); omega⟩ dL_law_1065 (fun r1065 M1065 h => ?_)
        refine gg_istore (pc := 1068) cx [(6, .int r1065), (5, .int r1053), (0, .ref (gScB t)), (1, .ref (gAd t 8 o1)), (2, .ref (gAd t 9 o2)), (3, .ref (gAd t 59 o3)), (4, .int x4)] dL_law_1068 (by decide) rfl ?_
        refine gg_aload_n (pc := 1070) cx 4 rfl dL_law_1070 rfl ?_
        refine gg_callVi (pc := 1071) cx cal_X9_thrown calv_X9_thrown (ct_X9_thrown cx.tr hM v2 h) tw_1367 (hM 9 _ rfl v2) rfl rfl rfl (st := []) rfl (Nat.le_of_ble_eq_true rfl) ⟨Nat.le_of_ble_eq_true rfl, Nat.le_of_ble_eq_true rfl⟩ ⟨by show _ ≤ 601024; (try simp only [rm_L_advance, rm_X9_advance, rm_X9_thrown]); omega, by show _ ≤ 7293000; (try simp only [rm_L_advance, rm_X9_advance, rm_X9_thrown]); omega⟩ dL_law_1071 (fun r1071 M1071 h => ?_)
        refine gg_iload (pc := 1074) cx 1 rfl dL_law_1074 ?_
        refine gg_icmp_eq (pc := 1076) cx (tgt := 1081) dL_law_1076 (by decide) (fun c1076 => ?_) (fun c1076 => ?_)
        · have h := g_it c1076 h
          refine gg_iload (pc := 1081) cx 1 rfl dL_law_1081 ?_
          refine gg_if_ne (pc := 1083) cx (tgt := 1098) dL_law_1083 (by decide) (fun c1083 => ?_) (fun c1083 => ?_)
          · have h := g_if c1083 h
            refine gg_goto (pc := 1098) cx (tgt := 2316) dL_law_1098 (by decide) ?_
            obtain ⟨n2316, en2316⟩ : ∃ z : Int32, z = x4 + Int32.ofInt (5) := ⟨_, rfl⟩
            have h := h n2316 en2316
            refine gg_iinc (pc := 2316) cx 6 [(4, .int n2316), (6, .int r1065), (5, .int r1053), (0, .ref (gScB t)), (1, .ref (gAd t 8 o1)), (2, .ref (gAd t 9 o2)), (3, .ref (gAd t 59 o3))] dL_law_2316 rfl en2316.symm (by decide) rfl ?_
            refine gg_goto (pc := 2319) cx (tgt := 33) dL_law_2319 (by decide) ?_
            refine gg_lv (lv' := [(0, .ref (gScB t)), (1, .ref (gAd t 8 o1)), (2, .ref (gAd t 9 o2)), (3, .ref (gAd t 59 o3)), (4, .int n2316)]) [3, 4, 5, 6, 0] rfl ?_
            refine gg_wide (k' := k + 64) (n' := n + 512) (by (try simp only [rm_L_advance, rm_X9_advance, rm_X9_thrown]); omega) (by (try simp only [rm_L_advance, rm_X9_advance, rm_X9_thrown]); omega) ?_
            exact ih (k + 64) (n + 512) o1 o2 o3 n2316 M1071 (by omega) (by omega) v1 v2 v3 h
          · have h := g_it c1083 h
            refine gg_aload_n (pc := 1086) cx 5 rfl dL_law_1086 rfl ?_
            refine gg_iconst (pc := 1087) cx (v := 0) dL_law_1087 (by decide) ?_
            have q1088 := h.1
            have h := h.2
            refine gg_lald (pc := 1088) cx (hO 59 _ rfl v3) rfl q1088 dL_law_1088 ?_
            refine gg_iload (pc := 1089) cx 0 rfl dL_law_1089 ?_
            refine gg_i2l (pc := 1091) cx dL_law_1091 ?_
            refine gg_lcmp_eq (pc := 1092) cx (tgt := 1098) dL_law_1092 dL_law_1093 (by decide) (fun c1092 => ?_) (fun c1092 => ?_)
            · have h := g_it c1092 h
              refine gg_goto (pc := 1098) cx (tgt := 2316) dL_law_1098 (by decide) ?_
              obtain ⟨n2316, en2316⟩ : ∃ z : Int32, z = x4 + Int32.ofInt (5) := ⟨_, rfl⟩
              have h := h n2316 en2316
              refine gg_iinc (pc := 2316) cx 6 [(4, .int n2316), (6, .int r1065), (5, .int r1053), (0, .ref (gScB t)), (1, .ref (gAd t 8 o1)), (2, .ref (gAd t 9 o2)), (3, .ref (gAd t 59 o3))] dL_law_2316 rfl en2316.symm (by decide) rfl ?_
              refine gg_goto (pc := 2319) cx (tgt := 33) dL_law_2319 (by decide) ?_
              refine gg_lv (lv' := [(0, .ref (gScB t)), (1, .ref (gAd t 8 o1)), (2, .ref (gAd t 9 o2)), (3, .ref (gAd t 59 o3)), (4, .int n2316)]) [3, 4, 5, 6, 0] rfl ?_
              refine gg_wide (k' := k + 64) (n' := n + 512) (by (try simp only [rm_L_advance, rm_X9_advance, rm_X9_thrown]); omega) (by (try simp only [rm_L_advance, rm_X9_advance, rm_X9_thrown]); omega) ?_
              exact ih (k + 64) (n + 512) o1 o2 o3 n2316 M1071 (by omega) (by omega) v1 v2 v3 h
            · have h := g_if c1092 h
              refine gg_iconst (pc := 1096) cx (v := 0) dL_law_1096 (by decide) ?_
              exact gg_lawret (pc := 1097) cx hQ ha hB (by (try simp only [rm_L_advance, rm_X9_advance, rm_X9_thrown]); omega) (by (try simp only [rm_L_advance, rm_X9_advance, rm_X9_thrown]); omega) h dL_law_1097
        · have h := g_if c1076 h
          refine gg_iconst (pc := 1079) cx (v := 0) dL_law_1079 (by decide) ?_
          exact gg_lawret (pc := 1080) cx hQ ha hB (by (try simp only [rm_L_advance, rm_X9_advance, rm_X9_thrown]); omega) (by (try simp only [rm_L_advance, rm_X9_advance, rm_X9_thrown]); omega) h dL_law_1080
      have h := g_if c49_17 h
      by_cases c49_18 : ((gScX t x4.toNatClampNeg) &&& 63) = 18
      · have h := g_it c49_18 h
        refine gg_swv c49_18 ?_
        refine gg_tableIn (pc := 49) cx (off := 1052) (tgt := 1101) dL_law_49 (by decide) (by decide) rfl (by decide) ?_
        refine gg_aload_n (pc := 1101) cx 1 rfl dL_law_1101 rfl ?_
        refine gg_callVl (pc := 1102) cx cal_X8_time calv_X8_time (ct_X8_time cx.tr hC v1 h) tw_719 (hC 8 _ rfl v1) rfl rfl rfl (st := []) rfl (Nat.le_of_ble_eq_true rfl) ⟨Nat.le_of_ble_eq_true rfl, Nat.le_of_ble_eq_true rfl⟩ ⟨by show _ ≤ 601024; (try simp only [rm_X8_time]); omega, by show _ ≤ 7293000; (try simp only [rm_X8_time]); omega⟩ dL_law_1102 (fun r1102 M1102 h => ?_)
        refine gg_aload_n (pc := 1105) cx 2 rfl dL_law_1105 rfl ?_
        refine gg_callVl (pc := 1106) cx cal_X9_time calv_X9_time (ct_X9_time cx.tr hM v2 h) tw_1558 (hM 9 _ rfl v2) rfl rfl rfl (st := [.long r1102]) rfl (Nat.le_of_ble_eq_true rfl) ⟨Nat.le_of_ble_eq_true rfl, Nat.le_of_ble_eq_true rfl⟩ ⟨by show _ ≤ 601024; (try simp only [rm_X8_time, rm_X9_time]); omega, by show _ ≤ 7293000; (try simp only [rm_X8_time, rm_X9_time]); omega⟩ dL_law_1106 (fun r1106 M1106 h => ?_)
        refine gg_lcmp_eq (pc := 1109) cx (tgt := 2316) dL_law_1109 dL_law_1110 (by decide) (fun c1109 => ?_) (fun c1109 => ?_)
        · have h := g_it c1109 h
          obtain ⟨n2316, en2316⟩ : ∃ z : Int32, z = x4 + Int32.ofInt (5) := ⟨_, rfl⟩
          have h := h n2316 en2316
          refine gg_iinc (pc := 2316) cx 4 [(4, .int n2316), (0, .ref (gScB t)), (1, .ref (gAd t 8 o1)), (2, .ref (gAd t 9 o2)), (3, .ref (gAd t 59 o3))] dL_law_2316 rfl en2316.symm (by decide) rfl ?_
          refine gg_goto (pc := 2319) cx (tgt := 33) dL_law_2319 (by decide) ?_
          refine gg_lv (lv' := [(0, .ref (gScB t)), (1, .ref (gAd t 8 o1)), (2, .ref (gAd t 9 o2)), (3, .ref (gAd t 59 o3)), (4, .int n2316)]) [1, 2, 3, 4, 0] rfl ?_
          refine gg_wide (k' := k + 64) (n' := n + 512) (by (try simp only [rm_X8_time, rm_X9_time]); omega) (by (try simp only [rm_X8_time, rm_X9_time]); omega) ?_
          exact ih (k + 64) (n + 512) o1 o2 o3 n2316 M1106 (by omega) (by omega) v1 v2 v3 h
        · have h := g_if c1109 h
          refine gg_iconst (pc := 1113) cx (v := 0) dL_law_1113 (by decide) ?_
          exact gg_lawret (pc := 1114) cx hQ ha hB (by (try simp only [rm_X8_time, rm_X9_time]); omega) (by (try simp only [rm_X8_time, rm_X9_time]); omega) h dL_law_1114
      have h := g_if c49_18 h
      by_cases c49_19 : ((gScX t x4.toNatClampNeg) &&& 63) = 19
      · have h := g_it c49_19 h
        refine gg_swv c49_19 ?_
        refine gg_tableIn (pc := 49) cx (off := 1066) (tgt := 1115) dL_law_49 (by decide) (by decide) rfl (by decide) ?_
        refine gg_aload_n (pc := 1115) cx 1 rfl dL_law_1115 rfl ?_
        refine gg_callVl (pc := 1116) cx cal_X8_nextRelease calv_X8_nextRelease (ct_X8_nextRelease cx.tr hC v1 h) tw_723 (hC 8 _ rfl v1) rfl rfl rfl (st := []) rfl (Nat.le_of_ble_eq_true rfl) ⟨Nat.le_of_ble_eq_true rfl, Nat.le_of_ble_eq_true rfl⟩ ⟨by show _ ≤ 601024; (try simp only [rm_X8_nextRelease]); omega, by show _ ≤ 7293000; (try simp only [rm_X8_nextRelease]); omega⟩ dL_law_1116 (fun r1116 M1116 h => ?_)
        refine gg_aload_n (pc := 1119) cx 2 rfl dL_law_1119 rfl ?_
        refine gg_callVl (pc := 1120) cx cal_X9_nextRelease calv_X9_nextRelease (ct_X9_nextRelease cx.tr hM v2 h) tw_1562 (hM 9 _ rfl v2) rfl rfl rfl (st := [.long r1116]) rfl (Nat.le_of_ble_eq_true rfl) ⟨Nat.le_of_ble_eq_true rfl, Nat.le_of_ble_eq_true rfl⟩ ⟨by show _ ≤ 601024; (try simp only [rm_X8_nextRelease, rm_X9_nextRelease]); omega, by show _ ≤ 7293000; (try simp only [rm_X8_nextRelease, rm_X9_nextRelease]); omega⟩ dL_law_1120 (fun r1120 M1120 h => ?_)
        refine gg_lcmp_eq (pc := 1123) cx (tgt := 2316) dL_law_1123 dL_law_1124 (by decide) (fun c1123 => ?_) (fun c1123 => ?_)
        · have h := g_it c1123 h
          obtain ⟨n2316, en2316⟩ : ∃ z : Int32, z = x4 + Int32.ofInt (5) := ⟨_, rfl⟩
          have h := h n2316 en2316
          refine gg_iinc (pc := 2316) cx 4 [(4, .int n2316), (0, .ref (gScB t)), (1, .ref (gAd t 8 o1)), (2, .ref (gAd t 9 o2)), (3, .ref (gAd t 59 o3))] dL_law_2316 rfl en2316.symm (by decide) rfl ?_
          refine gg_goto (pc := 2319) cx (tgt := 33) dL_law_2319 (by decide) ?_
          refine gg_lv (lv' := [(0, .ref (gScB t)), (1, .ref (gAd t 8 o1)), (2, .ref (gAd t 9 o2)), (3, .ref (gAd t 59 o3)), (4, .int n2316)]) [1, 2, 3, 4, 0] rfl ?_
          refine gg_wide (k' := k + 64) (n' := n + 512) (by (try simp only [rm_X8_nextRelease, rm_X9_nextRelease]); omega) (by (try simp only [rm_X8_nextRelease, rm_X9_nextRelease]); omega) ?_
          exact ih (k + 64) (n + 512) o1 o2 o3 n2316 M1120 (by omega) (by omega) v1 v2 v3 h
        · have h := g_if c1123 h
          refine gg_iconst (pc := 1127) cx (v := 0) dL_law_1127 (by decide) ?_
          exact gg_lawret (pc := 1128) cx hQ ha hB (by (try simp only [rm_X8_nextRelease, rm_X9_nextRelease]); omega) (by (try simp only [rm_X8_nextRelease, rm_X9_nextRelease]); omega) h dL_law_1128
      have h := g_if c49_19 h
      by_cases c49_20 : ((gScX t x4.toNatClampNeg) &&& 63) = 20
      · have h := g_it c49_20 h
        refine gg_swv c49_20 ?_
        refine gg_tableIn (pc := 49) cx (off := 1080) (tgt := 1129) dL_law_49 (by decide) (by decide) rfl (by decide) ?_
        refine gg_aload_n (pc := 1129) cx 1 rfl dL_law_1129 rfl ?_
        refine gg_callVi (pc := 1130) cx cal_X8_shaped calv_X8_shaped (ct_X8_shaped cx.tr hC v1 h) tw_733 (hC 8 _ rfl v1) rfl rfl rfl (st := []) rfl (Nat.le_of_ble_eq_true rfl) ⟨Nat.le_of_ble_eq_true rfl, Nat.le_of_ble_eq_true rfl⟩ ⟨by show _ ≤ 601024; (try simp only [rm_X8_shaped]); omega, by show _ ≤ 7293000; (try simp only [rm_X8_shaped]); omega⟩ dL_law_1130 (fun r1130 M1130 h => ?_)
        refine gg_aload_n (pc := 1133) cx 2 rfl dL_law_1133 rfl ?_
        refine gg_callVi (pc := 1134) cx cal_X9_shaped calv_X9_shaped (ct_X9_shaped cx.tr hM v2 h) tw_1566 (hM 9 _ rfl v2) rfl rfl rfl (st := [.int r1130]) rfl (Nat.le_of_ble_eq_true rfl) ⟨Nat.le_of_ble_eq_true rfl, Nat.le_of_ble_eq_true rfl⟩ ⟨by show _ ≤ 601024; (try simp only [rm_X8_shaped, rm_X9_shaped]); omega, by show _ ≤ 7293000; (try simp only [rm_X8_shaped, rm_X9_shaped]); omega⟩ dL_law_1134 (fun r1134 M1134 h => ?_)
        refine gg_icmp_eq (pc := 1137) cx (tgt := 2316) dL_law_1137 (by decide) (fun c1137 => ?_) (fun c1137 => ?_)
        · have h := g_it c1137 h
          obtain ⟨n2316, en2316⟩ : ∃ z : Int32, z = x4 + Int32.ofInt (5) := ⟨_, rfl⟩
          have h := h n2316 en2316
          refine gg_iinc (pc := 2316) cx 4 [(4, .int n2316), (0, .ref (gScB t)), (1, .ref (gAd t 8 o1)), (2, .ref (gAd t 9 o2)), (3, .ref (gAd t 59 o3))] dL_law_2316 rfl en2316.symm (by decide) rfl ?_
          refine gg_goto (pc := 2319) cx (tgt := 33) dL_law_2319 (by decide) ?_
          refine gg_lv (lv' := [(0, .ref (gScB t)), (1, .ref (gAd t 8 o1)), (2, .ref (gAd t 9 o2)), (3, .ref (gAd t 59 o3)), (4, .int n2316)]) [1, 2, 3, 4, 0] rfl ?_
          refine gg_wide (k' := k + 64) (n' := n + 512) (by (try simp only [rm_X8_shaped, rm_X9_shaped]); omega) (by (try simp only [rm_X8_shaped, rm_X9_shaped]); omega) ?_
          exact ih (k + 64) (n + 512) o1 o2 o3 n2316 M1134 (by omega) (by omega) v1 v2 v3 h
        · have h := g_if c1137 h
          refine gg_iconst (pc := 1140) cx (v := 0) dL_law_1140 (by decide) ?_
          exact gg_lawret (pc := 1141) cx hQ ha hB (by (try simp only [rm_X8_shaped, rm_X9_shaped]); omega) (by (try simp only [rm_X8_shaped, rm_X9_shaped]); omega) h dL_law_1141
      have h := g_if c49_20 h
      by_cases c49_21 : ((gScX t x4.toNatClampNeg) &&& 63) = 21
      · have h := g_it c49_21 h
        refine gg_swv c49_21 ?_
        refine gg_tableIn (pc := 49) cx (off := 1093) (tgt := 1142) dL_law_49 (by decide) (by decide) rfl (by decide) ?_
        refine gg_aload_n (pc := 1142) cx 1 rfl dL_law_1142 rfl ?_
        refine gg_callVi (pc := 1143) cx cal_X8_waiting calv_X8_waiting (ct_X8_waiting cx.tr hC v1 h) tw_737 (hC 8 _ rfl v1) rfl rfl rfl (st := []) rfl (Nat.le_of_ble_eq_true rfl) ⟨Nat.le_of_ble_eq_true rfl, Nat.le_of_ble_eq_true rfl⟩ ⟨by show _ ≤ 601024; (try simp only [rm_X8_waiting]); omega, by show _ ≤ 7293000; (try simp only [rm_X8_waiting]); omega⟩ dL_law_1143 (fun r1143 M1143 h => ?_)
        refine gg_aload_n (pc := 1146) cx 2 rfl dL_law_1146 rfl ?_
        refine gg_callVi (pc := 1147) cx cal_X9_waiting calv_X9_waiting (ct_X9_waiting cx.tr hM v2 h) tw_1570 (hM 9 _ rfl v2) rfl rfl rfl (st := [.int r1143]) rfl (Nat.le_of_ble_eq_true rfl) ⟨Nat.le_of_ble_eq_true rfl, Nat.le_of_ble_eq_true rfl⟩ ⟨by show _ ≤ 601024; (try simp only [rm_X8_waiting, rm_X9_waiting]); omega, by show _ ≤ 7293000; (try simp only [rm_X8_waiting, rm_X9_waiting]); omega⟩ dL_law_1147 (fun r1147 M1147 h => ?_)
        refine gg_icmp_eq (pc := 1150) cx (tgt := 2316) dL_law_1150 (by decide) (fun c1150 => ?_) (fun c1150 => ?_)
        · have h := g_it c1150 h
          obtain ⟨n2316, en2316⟩ : ∃ z : Int32, z = x4 + Int32.ofInt (5) := ⟨_, rfl⟩
          have h := h n2316 en2316
          refine gg_iinc (pc := 2316) cx 4 [(4, .int n2316), (0, .ref (gScB t)), (1, .ref (gAd t 8 o1)), (2, .ref (gAd t 9 o2)), (3, .ref (gAd t 59 o3))] dL_law_2316 rfl en2316.symm (by decide) rfl ?_
          refine gg_goto (pc := 2319) cx (tgt := 33) dL_law_2319 (by decide) ?_
          refine gg_lv (lv' := [(0, .ref (gScB t)), (1, .ref (gAd t 8 o1)), (2, .ref (gAd t 9 o2)), (3, .ref (gAd t 59 o3)), (4, .int n2316)]) [1, 2, 3, 4, 0] rfl ?_
          refine gg_wide (k' := k + 64) (n' := n + 512) (by (try simp only [rm_X8_waiting, rm_X9_waiting]); omega) (by (try simp only [rm_X8_waiting, rm_X9_waiting]); omega) ?_
          exact ih (k + 64) (n + 512) o1 o2 o3 n2316 M1147 (by omega) (by omega) v1 v2 v3 h
        · have h := g_if c1150 h
          refine gg_iconst (pc := 1153) cx (v := 0) dL_law_1153 (by decide) ?_
          exact gg_lawret (pc := 1154) cx hQ ha hB (by (try simp only [rm_X8_waiting, rm_X9_waiting]); omega) (by (try simp only [rm_X8_waiting, rm_X9_waiting]); omega) h dL_law_1154
      have h := g_if c49_21 h
      by_cases c49_22 : ((gScX t x4.toNatClampNeg) &&& 63) = 22
      · have h := g_it c49_22 h
        refine gg_swv c49_22 ?_
        refine gg_tableIn (pc := 49) cx (off := 1106) (tgt := 1155) dL_law_49 (by decide) (by decide) rfl (by decide) ?_
        refine gg_aload_n (pc := 1155) cx 1 rfl dL_law_1155 rfl ?_
        refine gg_aload_n (pc := 1156) cx 0 rfl dL_law_1156 rfl ?_
        refine gg_iload (pc := 1157) cx 4 rfl dL_law_1157 ?_
        refine gg_iconst (pc := 1159) cx (v := 1) dL_law_1159 (by decide) ?_
        refine gg_iadd (pc := 1160) cx dL_law_1160 ?_
        have q1161 := h.1
        have h := h.2
        refine gg_sld (pc := 1161) cx q1161 dL_law_1161 ?_
        refine gg_aload_n (pc := 1162) cx 3 rfl dL_law_1162 rfl ?_
        refine gg_callSWi (pc := 1163) cx cal_L_queueLength tw_993 (ct_L_queueLength cx.tr hC hM hO v1 v3 h) tw_992 rfl (st := []) rfl (Nat.le_of_ble_eq_true rfl) ⟨Nat.le_of_ble_eq_true rfl, Nat.le_of_ble_eq_true rfl⟩ ⟨by show _ ≤ 601024; (try simp only [rm_L_queueLength]); omega, by show _ ≤ 7293000; (try simp only [rm_L_queueLength]); omega⟩ dL_law_1163 (fun r1163 M1163 h => ?_)
        refine gg_istore (pc := 1166) cx [(5, .int r1163), (0, .ref (gScB t)), (1, .ref (gAd t 8 o1)), (2, .ref (gAd t 9 o2)), (3, .ref (gAd t 59 o3)), (4, .int x4)] dL_law_1166 (by decide) rfl ?_
        refine gg_aload_n (pc := 1168) cx 3 rfl dL_law_1168 rfl ?_
        refine gg_aload_n (pc := 1169) cx 1 rfl dL_law_1169 rfl ?_
        refine gg_iload (pc := 1170) cx 5 rfl dL_law_1170 ?_
        refine gg_iconst (pc := 1172) cx (v := 1) dL_law_1172 (by decide) ?_
        refine gg_iadd (pc := 1173) cx dL_law_1173 ?_
        have q1174 := h.1
        have h := h.2
        refine gg_sld (pc := 1174) cx q1174 dL_law_1174 ?_
        refine gg_callVi (pc := 1175) cx cal_X9_queueLength calv_X9_queueLength (ct_X9_queueLength cx.tr hM v2 h) tw_1574 (hM 9 _ rfl v2) rfl rfl rfl (st := []) rfl (Nat.le_of_ble_eq_true rfl) ⟨Nat.le_of_ble_eq_true rfl, Nat.le_of_ble_eq_true rfl⟩ ⟨by show _ ≤ 601024; (try simp only [rm_L_queueLength, rm_X9_queueLength]); omega, by show _ ≤ 7293000; (try simp only [rm_L_queueLength, rm_X9_queueLength]); omega⟩ dL_law_1175 (fun r1175 M1175 h => ?_)
        refine gg_istore (pc := 1178) cx [(6, .int r1175), (5, .int r1163), (0, .ref (gScB t)), (1, .ref (gAd t 8 o1)), (2, .ref (gAd t 9 o2)), (3, .ref (gAd t 59 o3)), (4, .int x4)] dL_law_1178 (by decide) rfl ?_
        refine gg_aload_n (pc := 1180) cx 4 rfl dL_law_1180 rfl ?_
        refine gg_callVi (pc := 1181) cx cal_X9_thrown calv_X9_thrown (ct_X9_thrown cx.tr hM v2 h) tw_1367 (hM 9 _ rfl v2) rfl rfl rfl (st := []) rfl (Nat.le_of_ble_eq_true rfl) ⟨Nat.le_of_ble_eq_true rfl, Nat.le_of_ble_eq_true rfl⟩ ⟨by show _ ≤ 601024; (try simp only [rm_L_queueLength, rm_X9_queueLength, rm_X9_thrown]); omega, by show _ ≤ 7293000; (try simp only [rm_L_queueLength, rm_X9_queueLength, rm_X9_thrown]); omega⟩ dL_law_1181 (fun r1181 M1181 h => ?_)
        refine gg_iload (pc := 1184) cx 1 rfl dL_law_1184 ?_
        refine gg_icmp_eq (pc := 1186) cx (tgt := 1191) dL_law_1186 (by decide) (fun c1186 => ?_) (fun c1186 => ?_)
        · have h := g_it c1186 h
          refine gg_iload (pc := 1191) cx 1 rfl dL_law_1191 ?_
          refine gg_if_ne (pc := 1193) cx (tgt := 1208) dL_law_1193 (by decide) (fun c1193 => ?_) (fun c1193 => ?_)
          · have h := g_if c1193 h
            refine gg_goto (pc := 1208) cx (tgt := 2316) dL_law_1208 (by decide) ?_
            obtain ⟨n2316, en2316⟩ : ∃ z : Int32, z = x4 + Int32.ofInt (5) := ⟨_, rfl⟩
            have h := h n2316 en2316
            refine gg_iinc (pc := 2316) cx 6 [(4, .int n2316), (6, .int r1175), (5, .int r1163), (0, .ref (gScB t)), (1, .ref (gAd t 8 o1)), (2, .ref (gAd t 9 o2)), (3, .ref (gAd t 59 o3))] dL_law_2316 rfl en2316.symm (by decide) rfl ?_
            refine gg_goto (pc := 2319) cx (tgt := 33) dL_law_2319 (by decide) ?_
            refine gg_lv (lv' := [(0, .ref (gScB t)), (1, .ref (gAd t 8 o1)), (2, .ref (gAd t 9 o2)), (3, .ref (gAd t 59 o3)), (4, .int n2316)]) [3, 4, 5, 6, 0] rfl ?_
            refine gg_wide (k' := k + 64) (n' := n + 512) (by (try simp only [rm_L_queueLength, rm_X9_queueLength, rm_X9_thrown]); omega) (by (try simp only [rm_L_queueLength, rm_X9_queueLength, rm_X9_thrown]); omega) ?_
            exact ih (k + 64) (n + 512) o1 o2 o3 n2316 M1181 (by omega) (by omega) v1 v2 v3 h
          · have h := g_it c1193 h
            refine gg_aload_n (pc := 1196) cx 5 rfl dL_law_1196 rfl ?_
            refine gg_iconst (pc := 1197) cx (v := 0) dL_law_1197 (by decide) ?_
            have q1198 := h.1
            have h := h.2
            refine gg_lald (pc := 1198) cx (hO 59 _ rfl v3) rfl q1198 dL_law_1198 ?_
            refine gg_iload (pc := 1199) cx 0 rfl dL_law_1199 ?_
            refine gg_i2l (pc := 1201) cx dL_law_1201 ?_
            refine gg_lcmp_eq (pc := 1202) cx (tgt := 1208) dL_law_1202 dL_law_1203 (by decide) (fun c1202 => ?_) (fun c1202 => ?_)
            · have h := g_it c1202 h
              refine gg_goto (pc := 1208) cx (tgt := 2316) dL_law_1208 (by decide) ?_
              obtain ⟨n2316, en2316⟩ : ∃ z : Int32, z = x4 + Int32.ofInt (5) := ⟨_, rfl⟩
              have h := h n2316 en2316
              refine gg_iinc (pc := 2316) cx 6 [(4, .int n2316), (6, .int r1175), (5, .int r1163), (0, .ref (gScB t)), (1, .ref (gAd t 8 o1)), (2, .ref (gAd t 9 o2)), (3, .ref (gAd t 59 o3))] dL_law_2316 rfl en2316.symm (by decide) rfl ?_
              refine gg_goto (pc := 2319) cx (tgt := 33) dL_law_2319 (by decide) ?_
              refine gg_lv (lv' := [(0, .ref (gScB t)), (1, .ref (gAd t 8 o1)), (2, .ref (gAd t 9 o2)), (3, .ref (gAd t 59 o3)), (4, .int n2316)]) [3, 4, 5, 6, 0] rfl ?_
              refine gg_wide (k' := k + 64) (n' := n + 512) (by (try simp only [rm_L_queueLength, rm_X9_queueLength, rm_X9_thrown]); omega) (by (try simp only [rm_L_queueLength, rm_X9_queueLength, rm_X9_thrown]); omega) ?_
              exact ih (k + 64) (n + 512) o1 o2 o3 n2316 M1181 (by omega) (by omega) v1 v2 v3 h
            · have h := g_if c1202 h
              refine gg_iconst (pc := 1206) cx (v := 0) dL_law_1206 (by decide) ?_
              exact gg_lawret (pc := 1207) cx hQ ha hB (by (try simp only [rm_L_queueLength, rm_X9_queueLength, rm_X9_thrown]); omega) (by (try simp only [rm_L_queueLength, rm_X9_queueLength, rm_X9_thrown]); omega) h dL_law_1207
        · have h := g_if c1186 h
          refine gg_iconst (pc := 1189) cx (v := 0) dL_law_1189 (by decide) ?_
          exact gg_lawret (pc := 1190) cx hQ ha hB (by (try simp only [rm_L_queueLength, rm_X9_queueLength, rm_X9_thrown]); omega) (by (try simp only [rm_L_queueLength, rm_X9_queueLength, rm_X9_thrown]); omega) h dL_law_1190
      have h := g_if c49_22 h
      by_cases c49_23 : ((gScX t x4.toNatClampNeg) &&& 63) = 23
      · have h := g_it c49_23 h
        refine gg_swv c49_23 ?_
        refine gg_tableIn (pc := 49) cx (off := 1162) (tgt := 1211) dL_law_49 (by decide) (by decide) rfl (by decide) ?_
        refine gg_aload_n (pc := 1211) cx 1 rfl dL_law_1211 rfl ?_
        refine gg_aload_n (pc := 1212) cx 0 rfl dL_law_1212 rfl ?_
        refine gg_iload (pc := 1213) cx 4 rfl dL_law_1213 ?_
        refine gg_iconst (pc := 1215) cx (v := 1) dL_law_1215 (by decide) ?_
        refine gg_iadd (pc := 1216) cx dL_law_1216 ?_
        have q1217 := h.1
        have h := h.2
        refine gg_sld (pc := 1217) cx q1217 dL_law_1217 ?_
        refine gg_aload_n (pc := 1218) cx 0 rfl dL_law_1218 rfl ?_
        refine gg_iload (pc := 1219) cx 4 rfl dL_law_1219 ?_
        refine gg_iconst (pc := 1221) cx (v := 2) dL_law_1221 (by decide) ?_
        refine gg_iadd (pc := 1222) cx dL_law_1222 ?_
        have q1223 := h.1
        have h := h.2
        refine gg_sld (pc := 1223) cx q1223 dL_law_1223 ?_
        refine gg_aload_n (pc := 1224) cx 3 rfl dL_law_1224 rfl ?_
        refine gg_callSWi (pc := 1225) cx cal_L_queueItem tw_1000 (ct_L_queueItem cx.tr hC hM hO v1 v3 h) tw_999 rfl (st := []) rfl (Nat.le_of_ble_eq_true rfl) ⟨Nat.le_of_ble_eq_true rfl, Nat.le_of_ble_eq_true rfl⟩ ⟨by show _ ≤ 601024; (try simp only [rm_L_queueItem]); omega, by show _ ≤ 7293000; (try simp only [rm_L_queueItem]); omega⟩ dL_law_1225 (fun r1225 M1225 h => ?_)
        refine gg_istore (pc := 1228) cx [(5, .int r1225), (0, .ref (gScB t)), (1, .ref (gAd t 8 o1)), (2, .ref (gAd t 9 o2)), (3, .ref (gAd t 59 o3)), (4, .int x4)] dL_law_1228 (by decide) rfl ?_
        refine gg_aload_n (pc := 1230) cx 3 rfl dL_law_1230 rfl ?_
        refine gg_aload_n (pc := 1231) cx 1 rfl dL_law_1231 rfl ?_
        refine gg_iload (pc := 1232) cx 5 rfl dL_law_1232 ?_
        refine gg_iconst (pc := 1234) cx (v := 1) dL_law_1234 (by decide) ?_
        refine gg_iadd (pc := 1235) cx dL_law_1235 ?_
        have q1236 := h.1
        have h := h.2
        refine gg_sld (pc := 1236) cx q1236 dL_law_1236 ?_
        refine gg_aload_n (pc := 1237) cx 1 rfl dL_law_1237 rfl ?_
        refine gg_iload (pc := 1238) cx 5 rfl dL_law_1238 ?_
        refine gg_iconst (pc := 1240) cx (v := 2) dL_law_1240 (by decide) ?_
        refine gg_iadd (pc := 1241) cx dL_law_1241 ?_
        have q1242 := h.1
        have h := h.2
        refine gg_sld (pc := 1242) cx q1242 dL_law_1242 ?_
        refine gg_callVi (pc := 1243) cx cal_X9_queueItem calv_X9_queueItem (ct_X9_queueItem cx.tr hM v2 h) tw_1578 (hM 9 _ rfl v2) rfl rfl rfl (st := []) rfl (Nat.le_of_ble_eq_true rfl) ⟨Nat.le_of_ble_eq_true rfl, Nat.le_of_ble_eq_true rfl⟩ ⟨by show _ ≤ 601024; (try simp only [rm_L_queueItem, rm_X9_queueItem]); omega, by show _ ≤ 7293000; (try simp only [rm_L_queueItem, rm_X9_queueItem]); omega⟩ dL_law_1243 (fun r1243 M1243 h => ?_)
        refine gg_istore (pc := 1246) cx [(6, .int r1243), (5, .int r1225), (0, .ref (gScB t)), (1, .ref (gAd t 8 o1)), (2, .ref (gAd t 9 o2)), (3, .ref (gAd t 59 o3)), (4, .int x4)] dL_law_1246 (by decide) rfl ?_
        refine gg_aload_n (pc := 1248) cx 4 rfl dL_law_1248 rfl ?_
        refine gg_callVi (pc := 1249) cx cal_X9_thrown calv_X9_thrown (ct_X9_thrown cx.tr hM v2 h) tw_1367 (hM 9 _ rfl v2) rfl rfl rfl (st := []) rfl (Nat.le_of_ble_eq_true rfl) ⟨Nat.le_of_ble_eq_true rfl, Nat.le_of_ble_eq_true rfl⟩ ⟨by show _ ≤ 601024; (try simp only [rm_L_queueItem, rm_X9_queueItem, rm_X9_thrown]); omega, by show _ ≤ 7293000; (try simp only [rm_L_queueItem, rm_X9_queueItem, rm_X9_thrown]); omega⟩ dL_law_1249 (fun r1249 M1249 h => ?_)
        refine gg_iload (pc := 1252) cx 1 rfl dL_law_1252 ?_
        refine gg_icmp_eq (pc := 1254) cx (tgt := 1259) dL_law_1254 (by decide) (fun c1254 => ?_) (fun c1254 => ?_)
        · have h := g_it c1254 h
          refine gg_iload (pc := 1259) cx 1 rfl dL_law_1259 ?_
          refine gg_if_ne (pc := 1261) cx (tgt := 1276) dL_law_1261 (by decide) (fun c1261 => ?_) (fun c1261 => ?_)
          · have h := g_if c1261 h
            refine gg_goto (pc := 1276) cx (tgt := 2316) dL_law_1276 (by decide) ?_
            obtain ⟨n2316, en2316⟩ : ∃ z : Int32, z = x4 + Int32.ofInt (5) := ⟨_, rfl⟩
            have h := h n2316 en2316
            refine gg_iinc (pc := 2316) cx 6 [(4, .int n2316), (6, .int r1243), (5, .int r1225), (0, .ref (gScB t)), (1, .ref (gAd t 8 o1)), (2, .ref (gAd t 9 o2)), (3, .ref (gAd t 59 o3))] dL_law_2316 rfl en2316.symm (by decide) rfl ?_
            refine gg_goto (pc := 2319) cx (tgt := 33) dL_law_2319 (by decide) ?_
            refine gg_lv (lv' := [(0, .ref (gScB t)), (1, .ref (gAd t 8 o1)), (2, .ref (gAd t 9 o2)), (3, .ref (gAd t 59 o3)), (4, .int n2316)]) [3, 4, 5, 6, 0] rfl ?_
            refine gg_wide (k' := k + 64) (n' := n + 512) (by (try simp only [rm_L_queueItem, rm_X9_queueItem, rm_X9_thrown]); omega) (by (try simp only [rm_L_queueItem, rm_X9_queueItem, rm_X9_thrown]); omega) ?_
            exact ih (k + 64) (n + 512) o1 o2 o3 n2316 M1249 (by omega) (by omega) v1 v2 v3 h
          · have h := g_it c1261 h
            refine gg_aload_n (pc := 1264) cx 5 rfl dL_law_1264 rfl ?_
            refine gg_iconst (pc := 1265) cx (v := 0) dL_law_1265 (by decide) ?_
            have q1266 := h.1
            have h := h.2
            refine gg_lald (pc := 1266) cx (hO 59 _ rfl v3) rfl q1266 dL_law_1266 ?_
            refine gg_iload (pc := 1267) cx 0 rfl dL_law_1267 ?_
            refine gg_i2l (pc := 1269) cx dL_law_1269 ?_
            refine gg_lcmp_eq (pc := 1270) cx (tgt := 1276) dL_law_1270 dL_law_1271 (by decide) (fun c1270 => ?_) (fun c1270 => ?_)
            · have h := g_it c1270 h
              refine gg_goto (pc := 1276) cx (tgt := 2316) dL_law_1276 (by decide) ?_
              obtain ⟨n2316, en2316⟩ : ∃ z : Int32, z = x4 + Int32.ofInt (5) := ⟨_, rfl⟩
              have h := h n2316 en2316
              refine gg_iinc (pc := 2316) cx 6 [(4, .int n2316), (6, .int r1243), (5, .int r1225), (0, .ref (gScB t)), (1, .ref (gAd t 8 o1)), (2, .ref (gAd t 9 o2)), (3, .ref (gAd t 59 o3))] dL_law_2316 rfl en2316.symm (by decide) rfl ?_
              refine gg_goto (pc := 2319) cx (tgt := 33) dL_law_2319 (by decide) ?_
              refine gg_lv (lv' := [(0, .ref (gScB t)), (1, .ref (gAd t 8 o1)), (2, .ref (gAd t 9 o2)), (3, .ref (gAd t 59 o3)), (4, .int n2316)]) [3, 4, 5, 6, 0] rfl ?_
              refine gg_wide (k' := k + 64) (n' := n + 512) (by (try simp only [rm_L_queueItem, rm_X9_queueItem, rm_X9_thrown]); omega) (by (try simp only [rm_L_queueItem, rm_X9_queueItem, rm_X9_thrown]); omega) ?_
              exact ih (k + 64) (n + 512) o1 o2 o3 n2316 M1249 (by omega) (by omega) v1 v2 v3 h
            · have h := g_if c1270 h
              refine gg_iconst (pc := 1274) cx (v := 0) dL_law_1274 (by decide) ?_
              exact gg_lawret (pc := 1275) cx hQ ha hB (by (try simp only [rm_L_queueItem, rm_X9_queueItem, rm_X9_thrown]); omega) (by (try simp only [rm_L_queueItem, rm_X9_queueItem, rm_X9_thrown]); omega) h dL_law_1275
        · have h := g_if c1254 h
          refine gg_iconst (pc := 1257) cx (v := 0) dL_law_1257 (by decide) ?_
          exact gg_lawret (pc := 1258) cx hQ ha hB (by (try simp only [rm_L_queueItem, rm_X9_queueItem, rm_X9_thrown]); omega) (by (try simp only [rm_L_queueItem, rm_X9_queueItem, rm_X9_thrown]); omega) h dL_law_1258
      have h := g_if c49_23 h
      by_cases c49_24 : ((gScX t x4.toNatClampNeg) &&& 63) = 24
      · have h := g_it c49_24 h
        refine gg_swv c49_24 ?_
        refine gg_tableIn (pc := 49) cx (off := 1230) (tgt := 1279) dL_law_49 (by decide) (by decide) rfl (by decide) ?_
        refine gg_aload_n (pc := 1279) cx 1 rfl dL_law_1279 rfl ?_
        refine gg_aload_n (pc := 1280) cx 0 rfl dL_law_1280 rfl ?_
        refine gg_iload (pc := 1281) cx 4 rfl dL_law_1281 ?_
        refine gg_iconst (pc := 1283) cx (v := 1) dL_law_1283 (by decide) ?_
        refine gg_iadd (pc := 1284) cx dL_law_1284 ?_
        have q1285 := h.1
        have h := h.2
        refine gg_sld (pc := 1285) cx q1285 dL_law_1285 ?_
        refine gg_aload_n (pc := 1286) cx 0 rfl dL_law_1286 rfl ?_
        refine gg_iload (pc := 1287) cx 4 rfl dL_law_1287 ?_
        refine gg_iconst (pc := 1289) cx (v := 2) dL_law_1289 (by decide) ?_
        refine gg_iadd (pc := 1290) cx dL_law_1290 ?_
        have q1291 := h.1
        have h := h.2
        refine gg_sld (pc := 1291) cx q1291 dL_law_1291 ?_
        refine gg_aload_n (pc := 1292) cx 3 rfl dL_law_1292 rfl ?_
        refine gg_callSWi (pc := 1293) cx cal_L_queueRank tw_1012 (ct_L_queueRank cx.tr hC hM hO v1 v3 h) tw_1011 rfl (st := []) rfl (Nat.le_of_ble_eq_true rfl) ⟨Nat.le_of_ble_eq_true rfl, Nat.le_of_ble_eq_true rfl⟩ ⟨by show _ ≤ 601024; (try simp only [rm_L_queueRank]); omega, by show _ ≤ 7293000; (try simp only [rm_L_queueRank]); omega⟩ dL_law_1293 (fun r1293 M1293 h => ?_)
        refine gg_istore (pc := 1296) cx [(5, .int r1293), (0, .ref (gScB t)), (1, .ref (gAd t 8 o1)), (2, .ref (gAd t 9 o2)), (3, .ref (gAd t 59 o3)), (4, .int x4)] dL_law_1296 (by decide) rfl ?_
        refine gg_aload_n (pc := 1298) cx 3 rfl dL_law_1298 rfl ?_
        refine gg_aload_n (pc := 1299) cx 1 rfl dL_law_1299 rfl ?_
        refine gg_iload (pc := 1300) cx 5 rfl dL_law_1300 ?_
        refine gg_iconst (pc := 1302) cx (v := 1) dL_law_1302 (by decide) ?_
        refine gg_iadd (pc := 1303) cx dL_law_1303 ?_
        have q1304 := h.1
        have h := h.2
        refine gg_sld (pc := 1304) cx q1304 dL_law_1304 ?_
        refine gg_aload_n (pc := 1305) cx 1 rfl dL_law_1305 rfl ?_
        refine gg_iload (pc := 1306) cx 5 rfl dL_law_1306 ?_
        refine gg_iconst (pc := 1308) cx (v := 2) dL_law_1308 (by decide) ?_
        refine gg_iadd (pc := 1309) cx dL_law_1309 ?_
        have q1310 := h.1
        have h := h.2
        refine gg_sld (pc := 1310) cx q1310 dL_law_1310 ?_
        refine gg_callVl (pc := 1311) cx cal_X9_queueRank calv_X9_queueRank (ct_X9_queueRank cx.tr hM v2 h) tw_1586 (hM 9 _ rfl v2) rfl rfl rfl (st := []) rfl (Nat.le_of_ble_eq_true rfl) ⟨Nat.le_of_ble_eq_true rfl, Nat.le_of_ble_eq_true rfl⟩ ⟨by show _ ≤ 601024; (try simp only [rm_L_queueRank, rm_X9_queueRank]); omega, by show _ ≤ 7293000; (try simp only [rm_L_queueRank, rm_X9_queueRank]); omega⟩ dL_law_1311 (fun r1311 M1311 h => ?_)
        refine gg_lstore (pc := 1314) cx [(6, .long r1311), (5, .int r1293), (0, .ref (gScB t)), (1, .ref (gAd t 8 o1)), (2, .ref (gAd t 9 o2)), (3, .ref (gAd t 59 o3)), (4, .int x4)] dL_law_1314 (by decide) rfl ?_
        refine gg_aload_n (pc := 1316) cx 4 rfl dL_law_1316 rfl ?_
        refine gg_callVi (pc := 1317) cx cal_X9_thrown calv_X9_thrown (ct_X9_thrown cx.tr hM v2 h) tw_1367 (hM 9 _ rfl v2) rfl rfl rfl (st := []) rfl (Nat.le_of_ble_eq_true rfl) ⟨Nat.le_of_ble_eq_true rfl, Nat.le_of_ble_eq_true rfl⟩ ⟨by show _ ≤ 601024; (try simp only [rm_L_queueRank, rm_X9_queueRank, rm_X9_thrown]); omega, by show _ ≤ 7293000; (try simp only [rm_L_queueRank, rm_X9_queueRank, rm_X9_thrown]); omega⟩ dL_law_1317 (fun r1317 M1317 h => ?_)
        refine gg_iload (pc := 1320) cx 1 rfl dL_law_1320 ?_
        refine gg_icmp_eq (pc := 1322) cx (tgt := 1327) dL_law_1322 (by decide) (fun c1322 => ?_) (fun c1322 => ?_)
        · have h := g_it c1322 h
          refine gg_iload (pc := 1327) cx 1 rfl dL_law_1327 ?_
          refine gg_if_ne (pc := 1329) cx (tgt := 1343) dL_law_1329 (by decide) (fun c1329 => ?_) (fun c1329 => ?_)
          · have h := g_if c1329 h
            refine gg_goto (pc := 1343) cx (tgt := 2316) dL_law_1343 (by decide) ?_
            obtain ⟨n2316, en2316⟩ : ∃ z : Int32, z = x4 + Int32.ofInt (5) := ⟨_, rfl⟩
            have h := h n2316 en2316
            refine gg_iinc (pc := 2316) cx 6 [(4, .int n2316), (6, .long r1311), (5, .int r1293), (0, .ref (gScB t)), (1, .ref (gAd t 8 o1)), (2, .ref (gAd t 9 o2)), (3, .ref (gAd t 59 o3))] dL_law_2316 rfl en2316.symm (by decide) rfl ?_
            refine gg_goto (pc := 2319) cx (tgt := 33) dL_law_2319 (by decide) ?_
            refine gg_lv (lv' := [(0, .ref (gScB t)), (1, .ref (gAd t 8 o1)), (2, .ref (gAd t 9 o2)), (3, .ref (gAd t 59 o3)), (4, .int n2316)]) [3, 4, 5, 6, 0] rfl ?_
            refine gg_wide (k' := k + 64) (n' := n + 512) (by (try simp only [rm_L_queueRank, rm_X9_queueRank, rm_X9_thrown]); omega) (by (try simp only [rm_L_queueRank, rm_X9_queueRank, rm_X9_thrown]); omega) ?_
            exact ih (k + 64) (n + 512) o1 o2 o3 n2316 M1317 (by omega) (by omega) v1 v2 v3 h
          · have h := g_it c1329 h
            refine gg_aload_n (pc := 1332) cx 5 rfl dL_law_1332 rfl ?_
            refine gg_iconst (pc := 1333) cx (v := 0) dL_law_1333 (by decide) ?_
            have q1334 := h.1
            have h := h.2
            refine gg_lald (pc := 1334) cx (hO 59 _ rfl v3) rfl q1334 dL_law_1334 ?_
            refine gg_lload (pc := 1335) cx 0 rfl dL_law_1335 ?_
            refine gg_lcmp_eq (pc := 1337) cx (tgt := 1343) dL_law_1337 dL_law_1338 (by decide) (fun c1337 => ?_) (fun c1337 => ?_)
            · have h := g_it c1337 h
              refine gg_goto (pc := 1343) cx (tgt := 2316) dL_law_1343 (by decide) ?_
              obtain ⟨n2316, en2316⟩ : ∃ z : Int32, z = x4 + Int32.ofInt (5) := ⟨_, rfl⟩
              have h := h n2316 en2316
              refine gg_iinc (pc := 2316) cx 6 [(4, .int n2316), (6, .long r1311), (5, .int r1293), (0, .ref (gScB t)), (1, .ref (gAd t 8 o1)), (2, .ref (gAd t 9 o2)), (3, .ref (gAd t 59 o3))] dL_law_2316 rfl en2316.symm (by decide) rfl ?_
              refine gg_goto (pc := 2319) cx (tgt := 33) dL_law_2319 (by decide) ?_
              refine gg_lv (lv' := [(0, .ref (gScB t)), (1, .ref (gAd t 8 o1)), (2, .ref (gAd t 9 o2)), (3, .ref (gAd t 59 o3)), (4, .int n2316)]) [3, 4, 5, 6, 0] rfl ?_
              refine gg_wide (k' := k + 64) (n' := n + 512) (by (try simp only [rm_L_queueRank, rm_X9_queueRank, rm_X9_thrown]); omega) (by (try simp only [rm_L_queueRank, rm_X9_queueRank, rm_X9_thrown]); omega) ?_
              exact ih (k + 64) (n + 512) o1 o2 o3 n2316 M1317 (by omega) (by omega) v1 v2 v3 h
            · have h := g_if c1337 h
              refine gg_iconst (pc := 1341) cx (v := 0) dL_law_1341 (by decide) ?_
              exact gg_lawret (pc := 1342) cx hQ ha hB (by (try simp only [rm_L_queueRank, rm_X9_queueRank, rm_X9_thrown]); omega) (by (try simp only [rm_L_queueRank, rm_X9_queueRank, rm_X9_thrown]); omega) h dL_law_1342
        · have h := g_if c1322 h
          refine gg_iconst (pc := 1325) cx (v := 0) dL_law_1325 (by decide) ?_
          exact gg_lawret (pc := 1326) cx hQ ha hB (by (try simp only [rm_L_queueRank, rm_X9_queueRank, rm_X9_thrown]); omega) (by (try simp only [rm_L_queueRank, rm_X9_queueRank, rm_X9_thrown]); omega) h dL_law_1326
      have h := g_if c49_24 h
      by_cases c49_25 : ((gScX t x4.toNatClampNeg) &&& 63) = 25
      · have h := g_it c49_25 h
        refine gg_swv c49_25 ?_
        refine gg_tableIn (pc := 49) cx (off := 1297) (tgt := 1346) dL_law_49 (by decide) (by decide) rfl (by decide) ?_
        refine gg_aload_n (pc := 1346) cx 1 rfl dL_law_1346 rfl ?_
        refine gg_aload_n (pc := 1347) cx 0 rfl dL_law_1347 rfl ?_
        refine gg_iload (pc := 1348) cx 4 rfl dL_law_1348 ?_
        refine gg_iconst (pc := 1350) cx (v := 1) dL_law_1350 (by decide) ?_
        refine gg_iadd (pc := 1351) cx dL_law_1351 ?_
        have q1352 := h.1
        have h := h.2
        refine gg_sld (pc := 1352) cx q1352 dL_law_1352 ?_
        refine gg_aload_n (pc := 1353) cx 3 rfl dL_law_1353 rfl ?_
        refine gg_callSWi (pc := 1354) cx cal_L_virtualTime tw_1019 (ct_L_virtualTime cx.tr hC hM hO v1 v3 h) tw_1018 rfl (st := []) rfl (Nat.le_of_ble_eq_true rfl) ⟨Nat.le_of_ble_eq_true rfl, Nat.le_of_ble_eq_true rfl⟩ ⟨by show _ ≤ 601024; (try simp only [rm_L_virtualTime]); omega, by show _ ≤ 7293000; (try simp only [rm_L_virtualTime]); omega⟩ dL_law_1354 (fun r1354 M1354 h => ?_)
        refine gg_istore (pc := 1357) cx [(5, .int r1354), (0, .ref (gScB t)), (1, .ref (gAd t 8 o1)), (2, .ref (gAd t 9 o2)), (3, .ref (gAd t 59 o3)), (4, .int x4)] dL_law_1357 (by decide) rfl ?_
        refine gg_aload_n (pc := 1359) cx 3 rfl dL_law_1359 rfl ?_
        refine gg_aload_n (pc := 1360) cx 1 rfl dL_law_1360 rfl ?_
        refine gg_iload (pc := 1361) cx 5 rfl dL_law_1361 ?_
        refine gg_iconst (pc := 1363) cx (v := 1) dL_law_1363 (by decide) ?_
        refine gg_iadd (pc := 1364) cx dL_law_1364 ?_
        have q1365 := h.1
        have h := h.2
        refine gg_sld (pc := 1365) cx q1365 dL_law_1365 ?_
        refine gg_callVl (pc := 1366) cx cal_X9_virtualTime calv_X9_virtualTime (ct_X9_virtualTime cx.tr hM v2 h) tw_1590 (hM 9 _ rfl v2) rfl rfl rfl (st := []) rfl (Nat.le_of_ble_eq_true rfl) ⟨Nat.le_of_ble_eq_true rfl, Nat.le_of_ble_eq_true rfl⟩ ⟨by show _ ≤ 601024; (try simp only [rm_L_virtualTime, rm_X9_virtualTime]); omega, by show _ ≤ 7293000; (try simp only [rm_L_virtualTime, rm_X9_virtualTime]); omega⟩ dL_law_1366 (fun r1366 M1366 h => ?_)
        refine gg_lstore (pc := 1369) cx [(6, .long r1366), (5, .int r1354), (0, .ref (gScB t)), (1, .ref (gAd t 8 o1)), (2, .ref (gAd t 9 o2)), (3, .ref (gAd t 59 o3)), (4, .int x4)] dL_law_1369 (by decide) rfl ?_
        refine gg_aload_n (pc := 1371) cx 4 rfl dL_law_1371 rfl ?_
        refine gg_callVi (pc := 1372) cx cal_X9_thrown calv_X9_thrown (ct_X9_thrown cx.tr hM v2 h) tw_1367 (hM 9 _ rfl v2) rfl rfl rfl (st := []) rfl (Nat.le_of_ble_eq_true rfl) ⟨Nat.le_of_ble_eq_true rfl, Nat.le_of_ble_eq_true rfl⟩ ⟨by show _ ≤ 601024; (try simp only [rm_L_virtualTime, rm_X9_virtualTime, rm_X9_thrown]); omega, by show _ ≤ 7293000; (try simp only [rm_L_virtualTime, rm_X9_virtualTime, rm_X9_thrown]); omega⟩ dL_law_1372 (fun r1372 M1372 h => ?_)
        refine gg_iload (pc := 1375) cx 1 rfl dL_law_1375 ?_
        refine gg_icmp_eq (pc := 1377) cx (tgt := 1382) dL_law_1377 (by decide) (fun c1377 => ?_) (fun c1377 => ?_)
        · have h := g_it c1377 h
          refine gg_iload (pc := 1382) cx 1 rfl dL_law_1382 ?_
          refine gg_if_ne (pc := 1384) cx (tgt := 1398) dL_law_1384 (by decide) (fun c1384 => ?_) (fun c1384 => ?_)
          · have h := g_if c1384 h
            refine gg_goto (pc := 1398) cx (tgt := 2316) dL_law_1398 (by decide) ?_
            obtain ⟨n2316, en2316⟩ : ∃ z : Int32, z = x4 + Int32.ofInt (5) := ⟨_, rfl⟩
            have h := h n2316 en2316
            refine gg_iinc (pc := 2316) cx 6 [(4, .int n2316), (6, .long r1366), (5, .int r1354), (0, .ref (gScB t)), (1, .ref (gAd t 8 o1)), (2, .ref (gAd t 9 o2)), (3, .ref (gAd t 59 o3))] dL_law_2316 rfl en2316.symm (by decide) rfl ?_
            refine gg_goto (pc := 2319) cx (tgt := 33) dL_law_2319 (by decide) ?_
            refine gg_lv (lv' := [(0, .ref (gScB t)), (1, .ref (gAd t 8 o1)), (2, .ref (gAd t 9 o2)), (3, .ref (gAd t 59 o3)), (4, .int n2316)]) [3, 4, 5, 6, 0] rfl ?_
            refine gg_wide (k' := k + 64) (n' := n + 512) (by (try simp only [rm_L_virtualTime, rm_X9_virtualTime, rm_X9_thrown]); omega) (by (try simp only [rm_L_virtualTime, rm_X9_virtualTime, rm_X9_thrown]); omega) ?_
            exact ih (k + 64) (n + 512) o1 o2 o3 n2316 M1372 (by omega) (by omega) v1 v2 v3 h
          · have h := g_it c1384 h
            refine gg_aload_n (pc := 1387) cx 5 rfl dL_law_1387 rfl ?_
            refine gg_iconst (pc := 1388) cx (v := 0) dL_law_1388 (by decide) ?_
            have q1389 := h.1
            have h := h.2
            refine gg_lald (pc := 1389) cx (hO 59 _ rfl v3) rfl q1389 dL_law_1389 ?_
            refine gg_lload (pc := 1390) cx 0 rfl dL_law_1390 ?_
            refine gg_lcmp_eq (pc := 1392) cx (tgt := 1398) dL_law_1392 dL_law_1393 (by decide) (fun c1392 => ?_) (fun c1392 => ?_)
            · have h := g_it c1392 h
              refine gg_goto (pc := 1398) cx (tgt := 2316) dL_law_1398 (by decide) ?_
              obtain ⟨n2316, en2316⟩ : ∃ z : Int32, z = x4 + Int32.ofInt (5) := ⟨_, rfl⟩
              have h := h n2316 en2316
              refine gg_iinc (pc := 2316) cx 6 [(4, .int n2316), (6, .long r1366), (5, .int r1354), (0, .ref (gScB t)), (1, .ref (gAd t 8 o1)), (2, .ref (gAd t 9 o2)), (3, .ref (gAd t 59 o3))] dL_law_2316 rfl en2316.symm (by decide) rfl ?_
              refine gg_goto (pc := 2319) cx (tgt := 33) dL_law_2319 (by decide) ?_
              refine gg_lv (lv' := [(0, .ref (gScB t)), (1, .ref (gAd t 8 o1)), (2, .ref (gAd t 9 o2)), (3, .ref (gAd t 59 o3)), (4, .int n2316)]) [3, 4, 5, 6, 0] rfl ?_
              refine gg_wide (k' := k + 64) (n' := n + 512) (by (try simp only [rm_L_virtualTime, rm_X9_virtualTime, rm_X9_thrown]); omega) (by (try simp only [rm_L_virtualTime, rm_X9_virtualTime, rm_X9_thrown]); omega) ?_
              exact ih (k + 64) (n + 512) o1 o2 o3 n2316 M1372 (by omega) (by omega) v1 v2 v3 h
            · have h := g_if c1392 h
              refine gg_iconst (pc := 1396) cx (v := 0) dL_law_1396 (by decide) ?_
              exact gg_lawret (pc := 1397) cx hQ ha hB (by (try simp only [rm_L_virtualTime, rm_X9_virtualTime, rm_X9_thrown]); omega) (by (try simp only [rm_L_virtualTime, rm_X9_virtualTime, rm_X9_thrown]); omega) h dL_law_1397
        · have h := g_if c1377 h
          refine gg_iconst (pc := 1380) cx (v := 0) dL_law_1380 (by decide) ?_
          exact gg_lawret (pc := 1381) cx hQ ha hB (by (try simp only [rm_L_virtualTime, rm_X9_virtualTime, rm_X9_thrown]); omega) (by (try simp only [rm_L_virtualTime, rm_X9_virtualTime, rm_X9_thrown]); omega) h dL_law_1381
      have h := g_if c49_25 h
      by_cases c49_26 : ((gScX t x4.toNatClampNeg) &&& 63) = 26
      · have h := g_it c49_26 h
        refine gg_swv c49_26 ?_
        refine gg_tableIn (pc := 49) cx (off := 1352) (tgt := 1401) dL_law_49 (by decide) (by decide) rfl (by decide) ?_
        refine gg_aload_n (pc := 1401) cx 1 rfl dL_law_1401 rfl ?_
        refine gg_aload_n (pc := 1402) cx 0 rfl dL_law_1402 rfl ?_
        refine gg_iload (pc := 1403) cx 4 rfl dL_law_1403 ?_
        refine gg_iconst (pc := 1405) cx (v := 1) dL_law_1405 (by decide) ?_
        refine gg_iadd (pc := 1406) cx dL_law_1406 ?_
        have q1407 := h.1
        have h := h.2
        refine gg_sld (pc := 1407) cx q1407 dL_law_1407 ?_
        refine gg_aload_n (pc := 1408) cx 0 rfl dL_law_1408 rfl ?_
        refine gg_iload (pc := 1409) cx 4 rfl dL_law_1409 ?_
        refine gg_iconst (pc := 1411) cx (v := 2) dL_law_1411 (by decide) ?_
        refine gg_iadd (pc := 1412) cx dL_law_1412 ?_
        have q1413 := h.1
        have h := h.2
        refine gg_sld (pc := 1413) cx q1413 dL_law_1413 ?_
        refine gg_aload_n (pc := 1414) cx 3 rfl dL_law_1414 rfl ?_
        refine gg_callSWi (pc := 1415) cx cal_L_state tw_1026 (ct_L_state cx.tr hC hM hO v1 v3 h) tw_1025 rfl (st := []) rfl (Nat.le_of_ble_eq_true rfl) ⟨Nat.le_of_ble_eq_true rfl, Nat.le_of_ble_eq_true rfl⟩ ⟨by show _ ≤ 601024; (try simp only [rm_L_state]); omega, by show _ ≤ 7293000; (try simp only [rm_L_state]); omega⟩ dL_law_1415 (fun r1415 M1415 h => ?_)
        refine gg_istore (pc := 1418) cx [(5, .int r1415), (0, .ref (gScB t)), (1, .ref (gAd t 8 o1)), (2, .ref (gAd t 9 o2)), (3, .ref (gAd t 59 o3)), (4, .int x4)] dL_law_1418 (by decide) rfl ?_
        refine gg_aload_n (pc := 1420) cx 3 rfl dL_law_1420 rfl ?_
        refine gg_aload_n (pc := 1421) cx 1 rfl dL_law_1421 rfl ?_
        refine gg_iload (pc := 1422) cx 5 rfl dL_law_1422 ?_
        refine gg_iconst (pc := 1424) cx (v := 1) dL_law_1424 (by decide) ?_
        refine gg_iadd (pc := 1425) cx dL_law_1425 ?_
        have q1426 := h.1
        have h := h.2
        refine gg_sld (pc := 1426) cx q1426 dL_law_1426 ?_
        refine gg_aload_n (pc := 1427) cx 1 rfl dL_law_1427 rfl ?_
        refine gg_iload (pc := 1428) cx 5 rfl dL_law_1428 ?_
        refine gg_iconst (pc := 1430) cx (v := 2) dL_law_1430 (by decide) ?_
        refine gg_iadd (pc := 1431) cx dL_law_1431 ?_
        have q1432 := h.1
        have h := h.2
        refine gg_sld (pc := 1432) cx q1432 dL_law_1432 ?_
        refine gg_callVl (pc := 1433) cx cal_X9_state calv_X9_state (ct_X9_state cx.tr hM v2 h) tw_1594 (hM 9 _ rfl v2) rfl rfl rfl (st := []) rfl (Nat.le_of_ble_eq_true rfl) ⟨Nat.le_of_ble_eq_true rfl, Nat.le_of_ble_eq_true rfl⟩ ⟨by show _ ≤ 601024; (try simp only [rm_L_state, rm_X9_state]); omega, by show _ ≤ 7293000; (try simp only [rm_L_state, rm_X9_state]); omega⟩ dL_law_1433 (fun r1433 M1433 h => ?_)
        refine gg_lstore (pc := 1436) cx [(6, .long r1433), (5, .int r1415), (0, .ref (gScB t)), (1, .ref (gAd t 8 o1)), (2, .ref (gAd t 9 o2)), (3, .ref (gAd t 59 o3)), (4, .int x4)] dL_law_1436 (by decide) rfl ?_
        refine gg_aload_n (pc := 1438) cx 4 rfl dL_law_1438 rfl ?_
        refine gg_callVi (pc := 1439) cx cal_X9_thrown calv_X9_thrown (ct_X9_thrown cx.tr hM v2 h) tw_1367 (hM 9 _ rfl v2) rfl rfl rfl (st := []) rfl (Nat.le_of_ble_eq_true rfl) ⟨Nat.le_of_ble_eq_true rfl, Nat.le_of_ble_eq_true rfl⟩ ⟨by show _ ≤ 601024; (try simp only [rm_L_state, rm_X9_state, rm_X9_thrown]); omega, by show _ ≤ 7293000; (try simp only [rm_L_state, rm_X9_state, rm_X9_thrown]); omega⟩ dL_law_1439 (fun r1439 M1439 h => ?_)
        refine gg_iload (pc := 1442) cx 1 rfl dL_law_1442 ?_
        refine gg_icmp_eq (pc := 1444) cx (tgt := 1449) dL_law_1444 (by decide) (fun c1444 => ?_) (fun c1444 => ?_)
        · have h := g_it c1444 h
          refine gg_iload (pc := 1449) cx 1 rfl dL_law_1449 ?_
          refine gg_if_ne (pc := 1451) cx (tgt := 1465) dL_law_1451 (by decide) (fun c1451 => ?_) (fun c1451 => ?_)
          · have h := g_if c1451 h
            refine gg_goto (pc := 1465) cx (tgt := 2316) dL_law_1465 (by decide) ?_
            obtain ⟨n2316, en2316⟩ : ∃ z : Int32, z = x4 + Int32.ofInt (5) := ⟨_, rfl⟩
            have h := h n2316 en2316
            refine gg_iinc (pc := 2316) cx 6 [(4, .int n2316), (6, .long r1433), (5, .int r1415), (0, .ref (gScB t)), (1, .ref (gAd t 8 o1)), (2, .ref (gAd t 9 o2)), (3, .ref (gAd t 59 o3))] dL_law_2316 rfl en2316.symm (by decide) rfl ?_
            refine gg_goto (pc := 2319) cx (tgt := 33) dL_law_2319 (by decide) ?_
            refine gg_lv (lv' := [(0, .ref (gScB t)), (1, .ref (gAd t 8 o1)), (2, .ref (gAd t 9 o2)), (3, .ref (gAd t 59 o3)), (4, .int n2316)]) [3, 4, 5, 6, 0] rfl ?_
            refine gg_wide (k' := k + 64) (n' := n + 512) (by (try simp only [rm_L_state, rm_X9_state, rm_X9_thrown]); omega) (by (try simp only [rm_L_state, rm_X9_state, rm_X9_thrown]); omega) ?_
            exact ih (k + 64) (n + 512) o1 o2 o3 n2316 M1439 (by omega) (by omega) v1 v2 v3 h
          · have h := g_it c1451 h
            refine gg_aload_n (pc := 1454) cx 5 rfl dL_law_1454 rfl ?_
            refine gg_iconst (pc := 1455) cx (v := 0) dL_law_1455 (by decide) ?_
            have q1456 := h.1
            have h := h.2
            refine gg_lald (pc := 1456) cx (hO 59 _ rfl v3) rfl q1456 dL_law_1456 ?_
            refine gg_lload (pc := 1457) cx 0 rfl dL_law_1457 ?_
            refine gg_lcmp_eq (pc := 1459) cx (tgt := 1465) dL_law_1459 dL_law_1460 (by decide) (fun c1459 => ?_) (fun c1459 => ?_)
            · have h := g_it c1459 h
              refine gg_goto (pc := 1465) cx (tgt := 2316) dL_law_1465 (by decide) ?_
              obtain ⟨n2316, en2316⟩ : ∃ z : Int32, z = x4 + Int32.ofInt (5) := ⟨_, rfl⟩
              have h := h n2316 en2316
              refine gg_iinc (pc := 2316) cx 6 [(4, .int n2316), (6, .long r1433), (5, .int r1415), (0, .ref (gScB t)), (1, .ref (gAd t 8 o1)), (2, .ref (gAd t 9 o2)), (3, .ref (gAd t 59 o3))] dL_law_2316 rfl en2316.symm (by decide) rfl ?_
              refine gg_goto (pc := 2319) cx (tgt := 33) dL_law_2319 (by decide) ?_
              refine gg_lv (lv' := [(0, .ref (gScB t)), (1, .ref (gAd t 8 o1)), (2, .ref (gAd t 9 o2)), (3, .ref (gAd t 59 o3)), (4, .int n2316)]) [3, 4, 5, 6, 0] rfl ?_
              refine gg_wide (k' := k + 64) (n' := n + 512) (by (try simp only [rm_L_state, rm_X9_state, rm_X9_thrown]); omega) (by (try simp only [rm_L_state, rm_X9_state, rm_X9_thrown]); omega) ?_
              exact ih (k + 64) (n + 512) o1 o2 o3 n2316 M1439 (by omega) (by omega) v1 v2 v3 h
            · have h := g_if c1459 h
              refine gg_iconst (pc := 1463) cx (v := 0) dL_law_1463 (by decide) ?_
              exact gg_lawret (pc := 1464) cx hQ ha hB (by (try simp only [rm_L_state, rm_X9_state, rm_X9_thrown]); omega) (by (try simp only [rm_L_state, rm_X9_state, rm_X9_thrown]); omega) h dL_law_1464
        · have h := g_if c1444 h
          refine gg_iconst (pc := 1447) cx (v := 0) dL_law_1447 (by decide) ?_
          exact gg_lawret (pc := 1448) cx hQ ha hB (by (try simp only [rm_L_state, rm_X9_state, rm_X9_thrown]); omega) (by (try simp only [rm_L_state, rm_X9_state, rm_X9_thrown]); omega) h dL_law_1448
      have h := g_if c49_26 h
      by_cases c49_27 : ((gScX t x4.toNatClampNeg) &&& 63) = 27
      · have h := g_it c49_27 h
        refine gg_swv c49_27 ?_
        refine gg_tableIn (pc := 49) cx (off := 1419) (tgt := 1468) dL_law_49 (by decide) (by decide) rfl (by decide) ?_
        refine gg_aload_n (pc := 1468) cx 1 rfl dL_law_1468 rfl ?_
        refine gg_aload_n (pc := 1469) cx 0 rfl dL_law_1469 rfl ?_
        refine gg_iload (pc := 1470) cx 4 rfl dL_law_1470 ?_
        refine gg_iconst (pc := 1472) cx (v := 1) dL_law_1472 (by decide) ?_
        refine gg_iadd (pc := 1473) cx dL_law_1473 ?_
        have q1474 := h.1
        have h := h.2
        refine gg_sld (pc := 1474) cx q1474 dL_law_1474 ?_
        refine gg_aload_n (pc := 1475) cx 0 rfl dL_law_1475 rfl ?_
        refine gg_iload (pc := 1476) cx 4 rfl dL_law_1476 ?_
        refine gg_iconst (pc := 1478) cx (v := 2) dL_law_1478 (by decide) ?_
        refine gg_iadd (pc := 1479) cx dL_law_1479 ?_
        have q1480 := h.1
        have h := h.2
        refine gg_sld (pc := 1480) cx q1480 dL_law_1480 ?_
        refine gg_aload_n (pc := 1481) cx 0 rfl dL_law_1481 rfl ?_
        refine gg_iload (pc := 1482) cx 4 rfl dL_law_1482 ?_
        refine gg_iconst (pc := 1484) cx (v := 3) dL_law_1484 (by decide) ?_
        refine gg_iadd (pc := 1485) cx dL_law_1485 ?_
        have q1486 := h.1
        have h := h.2
        refine gg_sld (pc := 1486) cx q1486 dL_law_1486 ?_
        refine gg_aload_n (pc := 1487) cx 0 rfl dL_law_1487 rfl ?_
        refine gg_iload (pc := 1488) cx 4 rfl dL_law_1488 ?_
        refine gg_iconst (pc := 1490) cx (v := 4) dL_law_1490 (by decide) ?_
        refine gg_iadd (pc := 1491) cx dL_law_1491 ?_
        have q1492 := h.1
        have h := h.2
        refine gg_sld (pc := 1492) cx q1492 dL_law_1492 ?_
        refine gg_aload_n (pc := 1493) cx 3 rfl dL_law_1493 rfl ?_
        refine gg_callSWi (pc := 1494) cx cal_L_rankIf tw_1035 (ct_L_rankIf cx.tr hC hM hO v1 v3 h) tw_1034 rfl (st := []) rfl (Nat.le_of_ble_eq_true rfl) ⟨Nat.le_of_ble_eq_true rfl, Nat.le_of_ble_eq_true rfl⟩ ⟨by show _ ≤ 601024; (try simp only [rm_L_rankIf]); omega, by show _ ≤ 7293000; (try simp only [rm_L_rankIf]); omega⟩ dL_law_1494 (fun r1494 M1494 h => ?_)
        refine gg_istore (pc := 1497) cx [(5, .int r1494), (0, .ref (gScB t)), (1, .ref (gAd t 8 o1)), (2, .ref (gAd t 9 o2)), (3, .ref (gAd t 59 o3)), (4, .int x4)] dL_law_1497 (by decide) rfl ?_
        refine gg_aload_n (pc := 1499) cx 3 rfl dL_law_1499 rfl ?_
        refine gg_aload_n (pc := 1500) cx 1 rfl dL_law_1500 rfl ?_
        refine gg_iload (pc := 1501) cx 5 rfl dL_law_1501 ?_
        refine gg_iconst (pc := 1503) cx (v := 1) dL_law_1503 (by decide) ?_
        refine gg_iadd (pc := 1504) cx dL_law_1504 ?_
        have q1505 := h.1
        have h := h.2
        refine gg_sld (pc := 1505) cx q1505 dL_law_1505 ?_
        refine gg_aload_n (pc := 1506) cx 1 rfl dL_law_1506 rfl ?_
        refine gg_iload (pc := 1507) cx 5 rfl dL_law_1507 ?_
        refine gg_iconst (pc := 1509) cx (v := 2) dL_law_1509 (by decide) ?_
        refine gg_iadd (pc := 1510) cx dL_law_1510 ?_
        have q1511 := h.1
        have h := h.2
        refine gg_sld (pc := 1511) cx q1511 dL_law_1511 ?_
        refine gg_aload_n (pc := 1512) cx 1 rfl dL_law_1512 rfl ?_
        refine gg_iload (pc := 1513) cx 5 rfl dL_law_1513 ?_
        refine gg_iconst (pc := 1515) cx (v := 3) dL_law_1515 (by decide) ?_
        refine gg_iadd (pc := 1516) cx dL_law_1516 ?_
        have q1517 := h.1
        have h := h.2
        refine gg_sld (pc := 1517) cx q1517 dL_law_1517 ?_
        refine gg_aload_n (pc := 1518) cx 1 rfl dL_law_1518 rfl ?_
        refine gg_iload (pc := 1519) cx 5 rfl dL_law_1519 ?_
        refine gg_iconst (pc := 1521) cx (v := 4) dL_law_1521 (by decide) ?_
        refine gg_iadd (pc := 1522) cx dL_law_1522 ?_
        have q1523 := h.1
        have h := h.2
        refine gg_sld (pc := 1523) cx q1523 dL_law_1523 ?_
        refine gg_callVl (pc := 1524) cx cal_X9_rankIf calv_X9_rankIf (ct_X9_rankIf cx.tr hM v2 h) tw_1598 (hM 9 _ rfl v2) rfl rfl rfl (st := []) rfl (Nat.le_of_ble_eq_true rfl) ⟨Nat.le_of_ble_eq_true rfl, Nat.le_of_ble_eq_true rfl⟩ ⟨by show _ ≤ 601024; (try simp only [rm_L_rankIf, rm_X9_rankIf]); omega, by show _ ≤ 7293000; (try simp only [rm_L_rankIf, rm_X9_rankIf]); omega⟩ dL_law_1524 (fun r1524 M1524 h => ?_)
        refine gg_lstore (pc := 1527) cx [(6, .long r1524), (5, .int r1494), (0, .ref (gScB t)), (1, .ref (gAd t 8 o1)), (2, .ref (gAd t 9 o2)), (3, .ref (gAd t 59 o3)), (4, .int x4)] dL_law_1527 (by decide) rfl ?_
        refine gg_aload_n (pc := 1529) cx 4 rfl dL_law_1529 rfl ?_
        refine gg_callVi (pc := 1530) cx cal_X9_thrown calv_X9_thrown (ct_X9_thrown cx.tr hM v2 h) tw_1367 (hM 9 _ rfl v2) rfl rfl rfl (st := []) rfl (Nat.le_of_ble_eq_true rfl) ⟨Nat.le_of_ble_eq_true rfl, Nat.le_of_ble_eq_true rfl⟩ ⟨by show _ ≤ 601024; (try simp only [rm_L_rankIf, rm_X9_rankIf, rm_X9_thrown]); omega, by show _ ≤ 7293000; (try simp only [rm_L_rankIf, rm_X9_rankIf, rm_X9_thrown]); omega⟩ dL_law_1530 (fun r1530 M1530 h => ?_)
        refine gg_iload (pc := 1533) cx 1 rfl dL_law_1533 ?_
        refine gg_icmp_eq (pc := 1535) cx (tgt := 1540) dL_law_1535 (by decide) (fun c1535 => ?_) (fun c1535 => ?_)
        · have h := g_it c1535 h
          refine gg_iload (pc := 1540) cx 1 rfl dL_law_1540 ?_
          refine gg_if_ne (pc := 1542) cx (tgt := 1556) dL_law_1542 (by decide) (fun c1542 => ?_) (fun c1542 => ?_)
          · have h := g_if c1542 h
            refine gg_goto (pc := 1556) cx (tgt := 2316) dL_law_1556 (by decide) ?_
            obtain ⟨n2316, en2316⟩ : ∃ z : Int32, z = x4 + Int32.ofInt (5) := ⟨_, rfl⟩
            have h := h n2316 en2316
            refine gg_iinc (pc := 2316) cx 6 [(4, .int n2316), (6, .long r1524), (5, .int r1494), (0, .ref (gScB t)), (1, .ref (gAd t 8 o1)), (2, .ref (gAd t 9 o2)), (3, .ref (gAd t 59 o3))] dL_law_2316 rfl en2316.symm (by decide) rfl ?_
            refine gg_goto (pc := 2319) cx (tgt := 33) dL_law_2319 (by decide) ?_
            refine gg_lv (lv' := [(0, .ref (gScB t)), (1, .ref (gAd t 8 o1)), (2, .ref (gAd t 9 o2)), (3, .ref (gAd t 59 o3)), (4, .int n2316)]) [3, 4, 5, 6, 0] rfl ?_
            refine gg_wide (k' := k + 64) (n' := n + 512) (by (try simp only [rm_L_rankIf, rm_X9_rankIf, rm_X9_thrown]); omega) (by (try simp only [rm_L_rankIf, rm_X9_rankIf, rm_X9_thrown]); omega) ?_
            exact ih (k + 64) (n + 512) o1 o2 o3 n2316 M1530 (by omega) (by omega) v1 v2 v3 h
          · have h := g_it c1542 h
            refine gg_aload_n (pc := 1545) cx 5 rfl dL_law_1545 rfl ?_
            refine gg_iconst (pc := 1546) cx (v := 0) dL_law_1546 (by decide) ?_
            have q1547 := h.1
            have h := h.2
            refine gg_lald (pc := 1547) cx (hO 59 _ rfl v3) rfl q1547 dL_law_1547 ?_
            refine gg_lload (pc := 1548) cx 0 rfl dL_law_1548 ?_
            refine gg_lcmp_eq (pc := 1550) cx (tgt := 1556) dL_law_1550 dL_law_1551 (by decide) (fun c1550 => ?_) (fun c1550 => ?_)
            · have h := g_it c1550 h
              refine gg_goto (pc := 1556) cx (tgt := 2316) dL_law_1556 (by decide) ?_
              obtain ⟨n2316, en2316⟩ : ∃ z : Int32, z = x4 + Int32.ofInt (5) := ⟨_, rfl⟩
              have h := h n2316 en2316
              refine gg_iinc (pc := 2316) cx 6 [(4, .int n2316), (6, .long r1524), (5, .int r1494), (0, .ref (gScB t)), (1, .ref (gAd t 8 o1)), (2, .ref (gAd t 9 o2)), (3, .ref (gAd t 59 o3))] dL_law_2316 rfl en2316.symm (by decide) rfl ?_
              refine gg_goto (pc := 2319) cx (tgt := 33) dL_law_2319 (by decide) ?_
              refine gg_lv (lv' := [(0, .ref (gScB t)), (1, .ref (gAd t 8 o1)), (2, .ref (gAd t 9 o2)), (3, .ref (gAd t 59 o3)), (4, .int n2316)]) [3, 4, 5, 6, 0] rfl ?_
              refine gg_wide (k' := k + 64) (n' := n + 512) (by (try simp only [rm_L_rankIf, rm_X9_rankIf, rm_X9_thrown]); omega) (by (try simp only [rm_L_rankIf, rm_X9_rankIf, rm_X9_thrown]); omega) ?_
              exact ih (k + 64) (n + 512) o1 o2 o3 n2316 M1530 (by omega) (by omega) v1 v2 v3 h
            · have h := g_if c1550 h
              refine gg_iconst (pc := 1554) cx (v := 0) dL_law_1554 (by decide) ?_
              exact gg_lawret (pc := 1555) cx hQ ha hB (by (try simp only [rm_L_rankIf, rm_X9_rankIf, rm_X9_thrown]); omega) (by (try simp only [rm_L_rankIf, rm_X9_rankIf, rm_X9_thrown]); omega) h dL_law_1555
        · have h := g_if c1535 h
          refine gg_iconst (pc := 1538) cx (v := 0) dL_law_1538 (by decide) ?_
          exact gg_lawret (pc := 1539) cx hQ ha hB (by (try simp only [rm_L_rankIf, rm_X9_rankIf, rm_X9_thrown]); omega) (by (try simp only [rm_L_rankIf, rm_X9_rankIf, rm_X9_thrown]); omega) h dL_law_1539
      have h := g_if c49_27 h
      by_cases c49_28 : ((gScX t x4.toNatClampNeg) &&& 63) = 28
      · have h := g_it c49_28 h
        refine gg_swv c49_28 ?_
        refine gg_tableIn (pc := 49) cx (off := 1510) (tgt := 1559) dL_law_49 (by decide) (by decide) rfl (by decide) ?_
        refine gg_aload_n (pc := 1559) cx 1 rfl dL_law_1559 rfl ?_
        refine gg_aload_n (pc := 1560) cx 0 rfl dL_law_1560 rfl ?_
        refine gg_iload (pc := 1561) cx 4 rfl dL_law_1561 ?_
        refine gg_iconst (pc := 1563) cx (v := 1) dL_law_1563 (by decide) ?_
        refine gg_iadd (pc := 1564) cx dL_law_1564 ?_
        have q1565 := h.1
        have h := h.2
        refine gg_sld (pc := 1565) cx q1565 dL_law_1565 ?_
        refine gg_aload_n (pc := 1566) cx 3 rfl dL_law_1566 rfl ?_
        refine gg_callSWi (pc := 1567) cx cal_L_peek tw_1046 (ct_L_peek cx.tr hC hM hO v1 v3 h) tw_1045 rfl (st := []) rfl (Nat.le_of_ble_eq_true rfl) ⟨Nat.le_of_ble_eq_true rfl, Nat.le_of_ble_eq_true rfl⟩ ⟨by show _ ≤ 601024; (try simp only [rm_L_peek]); omega, by show _ ≤ 7293000; (try simp only [rm_L_peek]); omega⟩ dL_law_1567 (fun r1567 M1567 h => ?_)
        refine gg_istore (pc := 1570) cx [(5, .int r1567), (0, .ref (gScB t)), (1, .ref (gAd t 8 o1)), (2, .ref (gAd t 9 o2)), (3, .ref (gAd t 59 o3)), (4, .int x4)] dL_law_1570 (by decide) rfl ?_
        refine gg_aload_n (pc := 1572) cx 3 rfl dL_law_1572 rfl ?_
        refine gg_aload_n (pc := 1573) cx 1 rfl dL_law_1573 rfl ?_
        refine gg_iload (pc := 1574) cx 5 rfl dL_law_1574 ?_
        refine gg_iconst (pc := 1576) cx (v := 1) dL_law_1576 (by decide) ?_
        refine gg_iadd (pc := 1577) cx dL_law_1577 ?_
        have q1578 := h.1
        have h := h.2
        refine gg_sld (pc := 1578) cx q1578 dL_law_1578 ?_
        refine gg_callVi (pc := 1579) cx cal_X9_peek calv_X9_peek (ct_X9_peek cx.tr hM v2 h) tw_1602 (hM 9 _ rfl v2) rfl rfl rfl (st := []) rfl (Nat.le_of_ble_eq_true rfl) ⟨Nat.le_of_ble_eq_true rfl, Nat.le_of_ble_eq_true rfl⟩ ⟨by show _ ≤ 601024; (try simp only [rm_L_peek, rm_X9_peek]); omega, by show _ ≤ 7293000; (try simp only [rm_L_peek, rm_X9_peek]); omega⟩ dL_law_1579 (fun r1579 M1579 h => ?_)
        refine gg_istore (pc := 1582) cx [(6, .int r1579), (5, .int r1567), (0, .ref (gScB t)), (1, .ref (gAd t 8 o1)), (2, .ref (gAd t 9 o2)), (3, .ref (gAd t 59 o3)), (4, .int x4)] dL_law_1582 (by decide) rfl ?_
        refine gg_aload_n (pc := 1584) cx 4 rfl dL_law_1584 rfl ?_
        refine gg_callVi (pc := 1585) cx cal_X9_thrown calv_X9_thrown (ct_X9_thrown cx.tr hM v2 h) tw_1367 (hM 9 _ rfl v2) rfl rfl rfl (st := []) rfl (Nat.le_of_ble_eq_true rfl) ⟨Nat.le_of_ble_eq_true rfl, Nat.le_of_ble_eq_true rfl⟩ ⟨by show _ ≤ 601024; (try simp only [rm_L_peek, rm_X9_peek, rm_X9_thrown]); omega, by show _ ≤ 7293000; (try simp only [rm_L_peek, rm_X9_peek, rm_X9_thrown]); omega⟩ dL_law_1585 (fun r1585 M1585 h => ?_)
        refine gg_iload (pc := 1588) cx 1 rfl dL_law_1588 ?_
        refine gg_icmp_eq (pc := 1590) cx (tgt := 1595) dL_law_1590 (by decide) (fun c1590 => ?_) (fun c1590 => ?_)
        · have h := g_it c1590 h
          refine gg_iload (pc := 1595) cx 1 rfl dL_law_1595 ?_
          refine gg_if_ne (pc := 1597) cx (tgt := 1612) dL_law_1597 (by decide) (fun c1597 => ?_) (fun c1597 => ?_)
          · have h := g_if c1597 h
            refine gg_goto (pc := 1612) cx (tgt := 2316) dL_law_1612 (by decide) ?_
            obtain ⟨n2316, en2316⟩ : ∃ z : Int32, z = x4 + Int32.ofInt (5) := ⟨_, rfl⟩
            have h := h n2316 en2316
            refine gg_iinc (pc := 2316) cx 6 [(4, .int n2316), (6, .int r1579), (5, .int r1567), (0, .ref (gScB t)), (1, .ref (gAd t 8 o1)), (2, .ref (gAd t 9 o2)), (3, .ref (gAd t 59 o3))] dL_law_2316 rfl en2316.symm (by decide) rfl ?_
            refine gg_goto (pc := 2319) cx (tgt := 33) dL_law_2319 (by decide) ?_
            refine gg_lv (lv' := [(0, .ref (gScB t)), (1, .ref (gAd t 8 o1)), (2, .ref (gAd t 9 o2)), (3, .ref (gAd t 59 o3)), (4, .int n2316)]) [3, 4, 5, 6, 0] rfl ?_
            refine gg_wide (k' := k + 64) (n' := n + 512) (by (try simp only [rm_L_peek, rm_X9_peek, rm_X9_thrown]); omega) (by (try simp only [rm_L_peek, rm_X9_peek, rm_X9_thrown]); omega) ?_
            exact ih (k + 64) (n + 512) o1 o2 o3 n2316 M1585 (by omega) (by omega) v1 v2 v3 h
          · have h := g_it c1597 h
            refine gg_aload_n (pc := 1600) cx 5 rfl dL_law_1600 rfl ?_
            refine gg_iconst (pc := 1601) cx (v := 0) dL_law_1601 (by decide) ?_
            have q1602 := h.1
            have h := h.2
            refine gg_lald (pc := 1602) cx (hO 59 _ rfl v3) rfl q1602 dL_law_1602 ?_
            refine gg_iload (pc := 1603) cx 0 rfl dL_law_1603 ?_
            refine gg_i2l (pc := 1605) cx dL_law_1605 ?_
            refine gg_lcmp_eq (pc := 1606) cx (tgt := 1612) dL_law_1606 dL_law_1607 (by decide) (fun c1606 => ?_) (fun c1606 => ?_)
            · have h := g_it c1606 h
              refine gg_goto (pc := 1612) cx (tgt := 2316) dL_law_1612 (by decide) ?_
              obtain ⟨n2316, en2316⟩ : ∃ z : Int32, z = x4 + Int32.ofInt (5) := ⟨_, rfl⟩
              have h := h n2316 en2316
              refine gg_iinc (pc := 2316) cx 6 [(4, .int n2316), (6, .int r1579), (5, .int r1567), (0, .ref (gScB t)), (1, .ref (gAd t 8 o1)), (2, .ref (gAd t 9 o2)), (3, .ref (gAd t 59 o3))] dL_law_2316 rfl en2316.symm (by decide) rfl ?_
              refine gg_goto (pc := 2319) cx (tgt := 33) dL_law_2319 (by decide) ?_
              refine gg_lv (lv' := [(0, .ref (gScB t)), (1, .ref (gAd t 8 o1)), (2, .ref (gAd t 9 o2)), (3, .ref (gAd t 59 o3)), (4, .int n2316)]) [3, 4, 5, 6, 0] rfl ?_
              refine gg_wide (k' := k + 64) (n' := n + 512) (by (try simp only [rm_L_peek, rm_X9_peek, rm_X9_thrown]); omega) (by (try simp only [rm_L_peek, rm_X9_peek, rm_X9_thrown]); omega) ?_
              exact ih (k + 64) (n + 512) o1 o2 o3 n2316 M1585 (by omega) (by omega) v1 v2 v3 h
            · have h := g_if c1606 h
              refine gg_iconst (pc := 1610) cx (v := 0) dL_law_1610 (by decide) ?_
              exact gg_lawret (pc := 1611) cx hQ ha hB (by (try simp only [rm_L_peek, rm_X9_peek, rm_X9_thrown]); omega) (by (try simp only [rm_L_peek, rm_X9_peek, rm_X9_thrown]); omega) h dL_law_1611
        · have h := g_if c1590 h
          refine gg_iconst (pc := 1593) cx (v := 0) dL_law_1593 (by decide) ?_
          exact gg_lawret (pc := 1594) cx hQ ha hB (by (try simp only [rm_L_peek, rm_X9_peek, rm_X9_thrown]); omega) (by (try simp only [rm_L_peek, rm_X9_peek, rm_X9_thrown]); omega) h dL_law_1594
      have h := g_if c49_28 h
      by_cases c49_29 : ((gScX t x4.toNatClampNeg) &&& 63) = 29
      · have h := g_it c49_29 h
        refine gg_swv c49_29 ?_
        refine gg_tableIn (pc := 49) cx (off := 1566) (tgt := 1615) dL_law_49 (by decide) (by decide) rfl (by decide) ?_
        refine gg_aload_n (pc := 1615) cx 1 rfl dL_law_1615 rfl ?_
        refine gg_aload_n (pc := 1616) cx 0 rfl dL_law_1616 rfl ?_
        refine gg_iload (pc := 1617) cx 4 rfl dL_law_1617 ?_
        refine gg_iconst (pc := 1619) cx (v := 1) dL_law_1619 (by decide) ?_
        refine gg_iadd (pc := 1620) cx dL_law_1620 ?_
        have q1621 := h.1
        have h := h.2
        refine gg_sld (pc := 1621) cx q1621 dL_law_1621 ?_
        refine gg_aload_n (pc := 1622) cx 3 rfl dL_law_1622 rfl ?_
        refine gg_callSWi (pc := 1623) cx cal_L_departureIf tw_1078 (ct_L_departureIf cx.tr hC hM hO v1 v3 h) tw_1077 rfl (st := []) rfl (Nat.le_of_ble_eq_true rfl) ⟨Nat.le_of_ble_eq_true rfl, Nat.le_of_ble_eq_true rfl⟩ ⟨by show _ ≤ 601024; (try simp only [rm_L_departureIf]); omega, by show _ ≤ 7293000; (try simp only [rm_L_departureIf]); omega⟩ dL_law_1623 (fun r1623 M1623 h => ?_)
        refine gg_istore (pc := 1626) cx [(5, .int r1623), (0, .ref (gScB t)), (1, .ref (gAd t 8 o1)), (2, .ref (gAd t 9 o2)), (3, .ref (gAd t 59 o3)), (4, .int x4)] dL_law_1626 (by decide) rfl ?_
        refine gg_aload_n (pc := 1628) cx 3 rfl dL_law_1628 rfl ?_
        refine gg_aload_n (pc := 1629) cx 1 rfl dL_law_1629 rfl ?_
        refine gg_iload (pc := 1630) cx 5 rfl dL_law_1630 ?_
        refine gg_iconst (pc := 1632) cx (v := 1) dL_law_1632 (by decide) ?_
        refine gg_iadd (pc := 1633) cx dL_law_1633 ?_
        have q1634 := h.1
        have h := h.2
        refine gg_sld (pc := 1634) cx q1634 dL_law_1634 ?_
        refine gg_callVl (pc := 1635) cx cal_X9_departureIf calv_X9_departureIf (ct_X9_departureIf cx.tr hM v2 h) tw_1610 (hM 9 _ rfl v2) rfl rfl rfl (st := []) rfl (Nat.le_of_ble_eq_true rfl) ⟨Nat.le_of_ble_eq_true rfl, Nat.le_of_ble_eq_true rfl⟩ ⟨by show _ ≤ 601024; (try simp only [rm_L_departureIf, rm_X9_departureIf]); omega, by show _ ≤ 7293000; (try simp only [rm_L_departureIf, rm_X9_departureIf]); omega⟩ dL_law_1635 (fun r1635 M1635 h => ?_)
        refine gg_lstore (pc := 1638) cx [(6, .long r1635), (5, .int r1623), (0, .ref (gScB t)), (1, .ref (gAd t 8 o1)), (2, .ref (gAd t 9 o2)), (3, .ref (gAd t 59 o3)), (4, .int x4)] dL_law_1638 (by decide) rfl ?_
        refine gg_aload_n (pc := 1640) cx 4 rfl dL_law_1640 rfl ?_
        refine gg_callVi (pc := 1641) cx cal_X9_thrown calv_X9_thrown (ct_X9_thrown cx.tr hM v2 h) tw_1367 (hM 9 _ rfl v2) rfl rfl rfl (st := []) rfl (Nat.le_of_ble_eq_true rfl) ⟨Nat.le_of_ble_eq_true rfl, Nat.le_of_ble_eq_true rfl⟩ ⟨by show _ ≤ 601024; (try simp only [rm_L_departureIf, rm_X9_departureIf, rm_X9_thrown]); omega, by show _ ≤ 7293000; (try simp only [rm_L_departureIf, rm_X9_departureIf, rm_X9_thrown]); omega⟩ dL_law_1641 (fun r1641 M1641 h => ?_)
        refine gg_iload (pc := 1644) cx 1 rfl dL_law_1644 ?_
        refine gg_icmp_eq (pc := 1646) cx (tgt := 1651) dL_law_1646 (by decide) (fun c1646 => ?_) (fun c1646 => ?_)
        · have h := g_it c1646 h
          refine gg_iload (pc := 1651) cx 1 rfl dL_law_1651 ?_
          refine gg_if_ne (pc := 1653) cx (tgt := 1667) dL_law_1653 (by decide) (fun c1653 => ?_) (fun c1653 => ?_)
          · have h := g_if c1653 h
            refine gg_goto (pc := 1667) cx (tgt := 2316) dL_law_1667 (by decide) ?_
            obtain ⟨n2316, en2316⟩ : ∃ z : Int32, z = x4 + Int32.ofInt (5) := ⟨_, rfl⟩
            have h := h n2316 en2316
            refine gg_iinc (pc := 2316) cx 6 [(4, .int n2316), (6, .long r1635), (5, .int r1623), (0, .ref (gScB t)), (1, .ref (gAd t 8 o1)), (2, .ref (gAd t 9 o2)), (3, .ref (gAd t 59 o3))] dL_law_2316 rfl en2316.symm (by decide) rfl ?_
            refine gg_goto (pc := 2319) cx (tgt := 33) dL_law_2319 (by decide) ?_
            refine gg_lv (lv' := [(0, .ref (gScB t)), (1, .ref (gAd t 8 o1)), (2, .ref (gAd t 9 o2)), (3, .ref (gAd t 59 o3)), (4, .int n2316)]) [3, 4, 5, 6, 0] rfl ?_
            refine gg_wide (k' := k + 64) (n' := n + 512) (by (try simp only [rm_L_departureIf, rm_X9_departureIf, rm_X9_thrown]); omega) (by (try simp only [rm_L_departureIf, rm_X9_departureIf, rm_X9_thrown]); omega) ?_
            exact ih (k + 64) (n + 512) o1 o2 o3 n2316 M1641 (by omega) (by omega) v1 v2 v3 h
          · have h := g_it c1653 h
            refine gg_aload_n (pc := 1656) cx 5 rfl dL_law_1656 rfl ?_
            refine gg_iconst (pc := 1657) cx (v := 0) dL_law_1657 (by decide) ?_
            have q1658 := h.1
            have h := h.2
            refine gg_lald (pc := 1658) cx (hO 59 _ rfl v3) rfl q1658 dL_law_1658 ?_
            refine gg_lload (pc := 1659) cx 0 rfl dL_law_1659 ?_
            refine gg_lcmp_eq (pc := 1661) cx (tgt := 1667) dL_law_1661 dL_law_1662 (by decide) (fun c1661 => ?_) (fun c1661 => ?_)
            · have h := g_it c1661 h
              refine gg_goto (pc := 1667) cx (tgt := 2316) dL_law_1667 (by decide) ?_
              obtain ⟨n2316, en2316⟩ : ∃ z : Int32, z = x4 + Int32.ofInt (5) := ⟨_, rfl⟩
              have h := h n2316 en2316
              refine gg_iinc (pc := 2316) cx 6 [(4, .int n2316), (6, .long r1635), (5, .int r1623), (0, .ref (gScB t)), (1, .ref (gAd t 8 o1)), (2, .ref (gAd t 9 o2)), (3, .ref (gAd t 59 o3))] dL_law_2316 rfl en2316.symm (by decide) rfl ?_
              refine gg_goto (pc := 2319) cx (tgt := 33) dL_law_2319 (by decide) ?_
              refine gg_lv (lv' := [(0, .ref (gScB t)), (1, .ref (gAd t 8 o1)), (2, .ref (gAd t 9 o2)), (3, .ref (gAd t 59 o3)), (4, .int n2316)]) [3, 4, 5, 6, 0] rfl ?_
              refine gg_wide (k' := k + 64) (n' := n + 512) (by (try simp only [rm_L_departureIf, rm_X9_departureIf, rm_X9_thrown]); omega) (by (try simp only [rm_L_departureIf, rm_X9_departureIf, rm_X9_thrown]); omega) ?_
              exact ih (k + 64) (n + 512) o1 o2 o3 n2316 M1641 (by omega) (by omega) v1 v2 v3 h
            · have h := g_if c1661 h
              refine gg_iconst (pc := 1665) cx (v := 0) dL_law_1665 (by decide) ?_
              exact gg_lawret (pc := 1666) cx hQ ha hB (by (try simp only [rm_L_departureIf, rm_X9_departureIf, rm_X9_thrown]); omega) (by (try simp only [rm_L_departureIf, rm_X9_departureIf, rm_X9_thrown]); omega) h dL_law_1666
        · have h := g_if c1646 h
          refine gg_iconst (pc := 1649) cx (v := 0) dL_law_1649 (by decide) ?_
          exact gg_lawret (pc := 1650) cx hQ ha hB (by (try simp only [rm_L_departureIf, rm_X9_departureIf, rm_X9_thrown]); omega) (by (try simp only [rm_L_departureIf, rm_X9_departureIf, rm_X9_thrown]); omega) h dL_law_1650
      have h := g_if c49_29 h
      by_cases c49_30 : ((gScX t x4.toNatClampNeg) &&& 63) = 30
      · have h := g_it c49_30 h
        refine gg_swv c49_30 ?_
        refine gg_tableIn (pc := 49) cx (off := 1621) (tgt := 1670) dL_law_49 (by decide) (by decide) rfl (by decide) ?_
        refine gg_aload_n (pc := 1670) cx 1 rfl dL_law_1670 rfl ?_
        refine gg_aload_n (pc := 1671) cx 0 rfl dL_law_1671 rfl ?_
        refine gg_iload (pc := 1672) cx 4 rfl dL_law_1672 ?_
        refine gg_iconst (pc := 1674) cx (v := 1) dL_law_1674 (by decide) ?_
        refine gg_iadd (pc := 1675) cx dL_law_1675 ?_
        have q1676 := h.1
        have h := h.2
        refine gg_sld (pc := 1676) cx q1676 dL_law_1676 ?_
        refine gg_aload_n (pc := 1677) cx 3 rfl dL_law_1677 rfl ?_
        refine gg_callSWi (pc := 1678) cx cal_L_flowOf tw_1088 (ct_L_flowOf cx.tr hC hM hO v1 v3 h) tw_1087 rfl (st := []) rfl (Nat.le_of_ble_eq_true rfl) ⟨Nat.le_of_ble_eq_true rfl, Nat.le_of_ble_eq_true rfl⟩ ⟨by show _ ≤ 601024; (try simp only [rm_L_flowOf]); omega, by show _ ≤ 7293000; (try simp only [rm_L_flowOf]); omega⟩ dL_law_1678 (fun r1678 M1678 h => ?_)
        refine gg_istore (pc := 1681) cx [(5, .int r1678), (0, .ref (gScB t)), (1, .ref (gAd t 8 o1)), (2, .ref (gAd t 9 o2)), (3, .ref (gAd t 59 o3)), (4, .int x4)] dL_law_1681 (by decide) rfl ?_
        refine gg_aload_n (pc := 1683) cx 3 rfl dL_law_1683 rfl ?_
        refine gg_aload_n (pc := 1684) cx 1 rfl dL_law_1684 rfl ?_
        refine gg_iload (pc := 1685) cx 5 rfl dL_law_1685 ?_
        refine gg_iconst (pc := 1687) cx (v := 1) dL_law_1687 (by decide) ?_
        refine gg_iadd (pc := 1688) cx dL_law_1688 ?_
        have q1689 := h.1
        have h := h.2
        refine gg_sld (pc := 1689) cx q1689 dL_law_1689 ?_
        refine gg_callVi (pc := 1690) cx cal_X9_flowOf calv_X9_flowOf (ct_X9_flowOf cx.tr hM v2 h) tw_1614 (hM 9 _ rfl v2) rfl rfl rfl (st := []) rfl (Nat.le_of_ble_eq_true rfl) ⟨Nat.le_of_ble_eq_true rfl, Nat.le_of_ble_eq_true rfl⟩ ⟨by show _ ≤ 601024; (try simp only [rm_L_flowOf, rm_X9_flowOf]); omega, by show _ ≤ 7293000; (try simp only [rm_L_flowOf, rm_X9_flowOf]); omega⟩ dL_law_1690 (fun r1690 M1690 h => ?_)
        refine gg_istore (pc := 1693) cx [(6, .int r1690), (5, .int r1678), (0, .ref (gScB t)), (1, .ref (gAd t 8 o1)), (2, .ref (gAd t 9 o2)), (3, .ref (gAd t 59 o3)), (4, .int x4)] dL_law_1693 (by decide) rfl ?_
        refine gg_aload_n (pc := 1695) cx 4 rfl dL_law_1695 rfl ?_
        refine gg_callVi (pc := 1696) cx cal_X9_thrown calv_X9_thrown (ct_X9_thrown cx.tr hM v2 h) tw_1367 (hM 9 _ rfl v2) rfl rfl rfl (st := []) rfl (Nat.le_of_ble_eq_true rfl) ⟨Nat.le_of_ble_eq_true rfl, Nat.le_of_ble_eq_true rfl⟩ ⟨by show _ ≤ 601024; (try simp only [rm_L_flowOf, rm_X9_flowOf, rm_X9_thrown]); omega, by show _ ≤ 7293000; (try simp only [rm_L_flowOf, rm_X9_flowOf, rm_X9_thrown]); omega⟩ dL_law_1696 (fun r1696 M1696 h => ?_)
        refine gg_iload (pc := 1699) cx 1 rfl dL_law_1699 ?_
        refine gg_icmp_eq (pc := 1701) cx (tgt := 1706) dL_law_1701 (by decide) (fun c1701 => ?_) (fun c1701 => ?_)
        · have h := g_it c1701 h
          refine gg_iload (pc := 1706) cx 1 rfl dL_law_1706 ?_
          refine gg_if_ne (pc := 1708) cx (tgt := 1723) dL_law_1708 (by decide) (fun c1708 => ?_) (fun c1708 => ?_)
          · have h := g_if c1708 h
            refine gg_goto (pc := 1723) cx (tgt := 2316) dL_law_1723 (by decide) ?_
            obtain ⟨n2316, en2316⟩ : ∃ z : Int32, z = x4 + Int32.ofInt (5) := ⟨_, rfl⟩
            have h := h n2316 en2316
            refine gg_iinc (pc := 2316) cx 6 [(4, .int n2316), (6, .int r1690), (5, .int r1678), (0, .ref (gScB t)), (1, .ref (gAd t 8 o1)), (2, .ref (gAd t 9 o2)), (3, .ref (gAd t 59 o3))] dL_law_2316 rfl en2316.symm (by decide) rfl ?_
            refine gg_goto (pc := 2319) cx (tgt := 33) dL_law_2319 (by decide) ?_
            refine gg_lv (lv' := [(0, .ref (gScB t)), (1, .ref (gAd t 8 o1)), (2, .ref (gAd t 9 o2)), (3, .ref (gAd t 59 o3)), (4, .int n2316)]) [3, 4, 5, 6, 0] rfl ?_
            refine gg_wide (k' := k + 64) (n' := n + 512) (by (try simp only [rm_L_flowOf, rm_X9_flowOf, rm_X9_thrown]); omega) (by (try simp only [rm_L_flowOf, rm_X9_flowOf, rm_X9_thrown]); omega) ?_
            exact ih (k + 64) (n + 512) o1 o2 o3 n2316 M1696 (by omega) (by omega) v1 v2 v3 h
          · have h := g_it c1708 h
            refine gg_aload_n (pc := 1711) cx 5 rfl dL_law_1711 rfl ?_
            refine gg_iconst (pc := 1712) cx (v := 0) dL_law_1712 (by decide) ?_
            have q1713 := h.1
            have h := h.2
            refine gg_lald (pc := 1713) cx (hO 59 _ rfl v3) rfl q1713 dL_law_1713 ?_
            refine gg_iload (pc := 1714) cx 0 rfl dL_law_1714 ?_
            refine gg_i2l (pc := 1716) cx dL_law_1716 ?_
            refine gg_lcmp_eq (pc := 1717) cx (tgt := 1723) dL_law_1717 dL_law_1718 (by decide) (fun c1717 => ?_) (fun c1717 => ?_)
            · have h := g_it c1717 h
              refine gg_goto (pc := 1723) cx (tgt := 2316) dL_law_1723 (by decide) ?_
              obtain ⟨n2316, en2316⟩ : ∃ z : Int32, z = x4 + Int32.ofInt (5) := ⟨_, rfl⟩
              have h := h n2316 en2316
              refine gg_iinc (pc := 2316) cx 6 [(4, .int n2316), (6, .int r1690), (5, .int r1678), (0, .ref (gScB t)), (1, .ref (gAd t 8 o1)), (2, .ref (gAd t 9 o2)), (3, .ref (gAd t 59 o3))] dL_law_2316 rfl en2316.symm (by decide) rfl ?_
              refine gg_goto (pc := 2319) cx (tgt := 33) dL_law_2319 (by decide) ?_
              refine gg_lv (lv' := [(0, .ref (gScB t)), (1, .ref (gAd t 8 o1)), (2, .ref (gAd t 9 o2)), (3, .ref (gAd t 59 o3)), (4, .int n2316)]) [3, 4, 5, 6, 0] rfl ?_
              refine gg_wide (k' := k + 64) (n' := n + 512) (by (try simp only [rm_L_flowOf, rm_X9_flowOf, rm_X9_thrown]); omega) (by (try simp only [rm_L_flowOf, rm_X9_flowOf, rm_X9_thrown]); omega) ?_
              exact ih (k + 64) (n + 512) o1 o2 o3 n2316 M1696 (by omega) (by omega) v1 v2 v3 h
            · have h := g_if c1717 h
              refine gg_iconst (pc := 1721) cx (v := 0) dL_law_1721 (by decide) ?_
              exact gg_lawret (pc := 1722) cx hQ ha hB (by (try simp only [rm_L_flowOf, rm_X9_flowOf, rm_X9_thrown]); omega) (by (try simp only [rm_L_flowOf, rm_X9_flowOf, rm_X9_thrown]); omega) h dL_law_1722
        · have h := g_if c1701 h
          refine gg_iconst (pc := 1704) cx (v := 0) dL_law_1704 (by decide) ?_
          exact gg_lawret (pc := 1705) cx hQ ha hB (by (try simp only [rm_L_flowOf, rm_X9_flowOf, rm_X9_thrown]); omega) (by (try simp only [rm_L_flowOf, rm_X9_flowOf, rm_X9_thrown]); omega) h dL_law_1705
      have h := g_if c49_30 h
      by_cases c49_31 : ((gScX t x4.toNatClampNeg) &&& 63) = 31
      · have h := g_it c49_31 h
        refine gg_swv c49_31 ?_
        refine gg_tableIn (pc := 49) cx (off := 1677) (tgt := 1726) dL_law_49 (by decide) (by decide) rfl (by decide) ?_
        refine gg_aload_n (pc := 1726) cx 1 rfl dL_law_1726 rfl ?_
        refine gg_aload_n (pc := 1727) cx 0 rfl dL_law_1727 rfl ?_
        refine gg_iload (pc := 1728) cx 4 rfl dL_law_1728 ?_
        refine gg_iconst (pc := 1730) cx (v := 1) dL_law_1730 (by decide) ?_
        refine gg_iadd (pc := 1731) cx dL_law_1731 ?_
        have q1732 := h.1
        have h := h.2
        refine gg_sld (pc := 1732) cx q1732 dL_law_1732 ?_
        refine gg_aload_n (pc := 1733) cx 3 rfl dL_law_1733 rfl ?_
        refine gg_callSWi (pc := 1734) cx cal_L_deadlineOf tw_1100 (ct_L_deadlineOf cx.tr hC hM hO v1 v3 h) tw_1099 rfl (st := []) rfl (Nat.le_of_ble_eq_true rfl) ⟨Nat.le_of_ble_eq_true rfl, Nat.le_of_ble_eq_true rfl⟩ ⟨by show _ ≤ 601024; (try simp only [rm_L_deadlineOf]); omega, by show _ ≤ 7293000; (try simp only [rm_L_deadlineOf]); omega⟩ dL_law_1734 (fun r1734 M1734 h => ?_)
        refine gg_istore (pc := 1737) cx [(5, .int r1734), (0, .ref (gScB t)), (1, .ref (gAd t 8 o1)), (2, .ref (gAd t 9 o2)), (3, .ref (gAd t 59 o3)), (4, .int x4)] dL_law_1737 (by decide) rfl ?_
        refine gg_aload_n (pc := 1739) cx 3 rfl dL_law_1739 rfl ?_
        refine gg_aload_n (pc := 1740) cx 1 rfl dL_law_1740 rfl ?_
        refine gg_iload (pc := 1741) cx 5 rfl dL_law_1741 ?_
        refine gg_iconst (pc := 1743) cx (v := 1) dL_law_1743 (by decide) ?_
        refine gg_iadd (pc := 1744) cx dL_law_1744 ?_
        have q1745 := h.1
        have h := h.2
        refine gg_sld (pc := 1745) cx q1745 dL_law_1745 ?_
        refine gg_callVl (pc := 1746) cx cal_X9_deadlineOf calv_X9_deadlineOf (ct_X9_deadlineOf cx.tr hM v2 h) tw_1622 (hM 9 _ rfl v2) rfl rfl rfl (st := []) rfl (Nat.le_of_ble_eq_true rfl) ⟨Nat.le_of_ble_eq_true rfl, Nat.le_of_ble_eq_true rfl⟩ ⟨by show _ ≤ 601024; (try simp only [rm_L_deadlineOf, rm_X9_deadlineOf]); omega, by show _ ≤ 7293000; (try simp only [rm_L_deadlineOf, rm_X9_deadlineOf]); omega⟩ dL_law_1746 (fun r1746 M1746 h => ?_)
        refine gg_lstore (pc := 1749) cx [(6, .long r1746), (5, .int r1734), (0, .ref (gScB t)), (1, .ref (gAd t 8 o1)), (2, .ref (gAd t 9 o2)), (3, .ref (gAd t 59 o3)), (4, .int x4)] dL_law_1749 (by decide) rfl ?_
        refine gg_aload_n (pc := 1751) cx 4 rfl dL_law_1751 rfl ?_
        refine gg_callVi (pc := 1752) cx cal_X9_thrown calv_X9_thrown (ct_X9_thrown cx.tr hM v2 h) tw_1367 (hM 9 _ rfl v2) rfl rfl rfl (st := []) rfl (Nat.le_of_ble_eq_true rfl) ⟨Nat.le_of_ble_eq_true rfl, Nat.le_of_ble_eq_true rfl⟩ ⟨by show _ ≤ 601024; (try simp only [rm_L_deadlineOf, rm_X9_deadlineOf, rm_X9_thrown]); omega, by show _ ≤ 7293000; (try simp only [rm_L_deadlineOf, rm_X9_deadlineOf, rm_X9_thrown]); omega⟩ dL_law_1752 (fun r1752 M1752 h => ?_)
        refine gg_iload (pc := 1755) cx 1 rfl dL_law_1755 ?_
        refine gg_icmp_eq (pc := 1757) cx (tgt := 1762) dL_law_1757 (by decide) (fun c1757 => ?_) (fun c1757 => ?_)
        · have h := g_it c1757 h
          refine gg_iload (pc := 1762) cx 1 rfl dL_law_1762 ?_
          refine gg_if_ne (pc := 1764) cx (tgt := 1778) dL_law_1764 (by decide) (fun c1764 => ?_) (fun c1764 => ?_)
          · have h := g_if c1764 h
            refine gg_goto (pc := 1778) cx (tgt := 2316) dL_law_1778 (by decide) ?_
            obtain ⟨n2316, en2316⟩ : ∃ z : Int32, z = x4 + Int32.ofInt (5) := ⟨_, rfl⟩
            have h := h n2316 en2316
            refine gg_iinc (pc := 2316) cx 6 [(4, .int n2316), (6, .long r1746), (5, .int r1734), (0, .ref (gScB t)), (1, .ref (gAd t 8 o1)), (2, .ref (gAd t 9 o2)), (3, .ref (gAd t 59 o3))] dL_law_2316 rfl en2316.symm (by decide) rfl ?_
            refine gg_goto (pc := 2319) cx (tgt := 33) dL_law_2319 (by decide) ?_
            refine gg_lv (lv' := [(0, .ref (gScB t)), (1, .ref (gAd t 8 o1)), (2, .ref (gAd t 9 o2)), (3, .ref (gAd t 59 o3)), (4, .int n2316)]) [3, 4, 5, 6, 0] rfl ?_
            refine gg_wide (k' := k + 64) (n' := n + 512) (by (try simp only [rm_L_deadlineOf, rm_X9_deadlineOf, rm_X9_thrown]); omega) (by (try simp only [rm_L_deadlineOf, rm_X9_deadlineOf, rm_X9_thrown]); omega) ?_
            exact ih (k + 64) (n + 512) o1 o2 o3 n2316 M1752 (by omega) (by omega) v1 v2 v3 h
          · have h := g_it c1764 h
            refine gg_aload_n (pc := 1767) cx 5 rfl dL_law_1767 rfl ?_
            refine gg_iconst (pc := 1768) cx (v := 0) dL_law_1768 (by decide) ?_
            have q1769 := h.1
            have h := h.2
            refine gg_lald (pc := 1769) cx (hO 59 _ rfl v3) rfl q1769 dL_law_1769 ?_
            refine gg_lload (pc := 1770) cx 0 rfl dL_law_1770 ?_
            refine gg_lcmp_eq (pc := 1772) cx (tgt := 1778) dL_law_1772 dL_law_1773 (by decide) (fun c1772 => ?_) (fun c1772 => ?_)
            · have h := g_it c1772 h
              refine gg_goto (pc := 1778) cx (tgt := 2316) dL_law_1778 (by decide) ?_
              obtain ⟨n2316, en2316⟩ : ∃ z : Int32, z = x4 + Int32.ofInt (5) := ⟨_, rfl⟩
              have h := h n2316 en2316
              refine gg_iinc (pc := 2316) cx 6 [(4, .int n2316), (6, .long r1746), (5, .int r1734), (0, .ref (gScB t)), (1, .ref (gAd t 8 o1)), (2, .ref (gAd t 9 o2)), (3, .ref (gAd t 59 o3))] dL_law_2316 rfl en2316.symm (by decide) rfl ?_
              refine gg_goto (pc := 2319) cx (tgt := 33) dL_law_2319 (by decide) ?_
              refine gg_lv (lv' := [(0, .ref (gScB t)), (1, .ref (gAd t 8 o1)), (2, .ref (gAd t 9 o2)), (3, .ref (gAd t 59 o3)), (4, .int n2316)]) [3, 4, 5, 6, 0] rfl ?_
              refine gg_wide (k' := k + 64) (n' := n + 512) (by (try simp only [rm_L_deadlineOf, rm_X9_deadlineOf, rm_X9_thrown]); omega) (by (try simp only [rm_L_deadlineOf, rm_X9_deadlineOf, rm_X9_thrown]); omega) ?_
              exact ih (k + 64) (n + 512) o1 o2 o3 n2316 M1752 (by omega) (by omega) v1 v2 v3 h
            · have h := g_if c1772 h
              refine gg_iconst (pc := 1776) cx (v := 0) dL_law_1776 (by decide) ?_
              exact gg_lawret (pc := 1777) cx hQ ha hB (by (try simp only [rm_L_deadlineOf, rm_X9_deadlineOf, rm_X9_thrown]); omega) (by (try simp only [rm_L_deadlineOf, rm_X9_deadlineOf, rm_X9_thrown]); omega) h dL_law_1777
        · have h := g_if c1757 h
          refine gg_iconst (pc := 1760) cx (v := 0) dL_law_1760 (by decide) ?_
          exact gg_lawret (pc := 1761) cx hQ ha hB (by (try simp only [rm_L_deadlineOf, rm_X9_deadlineOf, rm_X9_thrown]); omega) (by (try simp only [rm_L_deadlineOf, rm_X9_deadlineOf, rm_X9_thrown]); omega) h dL_law_1761
      have h := g_if c49_31 h
      by_cases c49_32 : ((gScX t x4.toNatClampNeg) &&& 63) = 32
      · have h := g_it c49_32 h
        refine gg_swv c49_32 ?_
        refine gg_tableIn (pc := 49) cx (off := 1732) (tgt := 1781) dL_law_49 (by decide) (by decide) rfl (by decide) ?_
        refine gg_aload_n (pc := 1781) cx 1 rfl dL_law_1781 rfl ?_
        refine gg_aload_n (pc := 1782) cx 0 rfl dL_law_1782 rfl ?_
        refine gg_iload (pc := 1783) cx 4 rfl dL_law_1783 ?_
        refine gg_iconst (pc := 1785) cx (v := 1) dL_law_1785 (by decide) ?_
        refine gg_iadd (pc := 1786) cx dL_law_1786 ?_
        have q1787 := h.1
        have h := h.2
        refine gg_sld (pc := 1787) cx q1787 dL_law_1787 ?_
        refine gg_aload_n (pc := 1788) cx 3 rfl dL_law_1788 rfl ?_
        refine gg_callSWi (pc := 1789) cx cal_L_departureOf tw_1107 (ct_L_departureOf cx.tr hC hM hO v1 v3 h) tw_1106 rfl (st := []) rfl (Nat.le_of_ble_eq_true rfl) ⟨Nat.le_of_ble_eq_true rfl, Nat.le_of_ble_eq_true rfl⟩ ⟨by show _ ≤ 601024; (try simp only [rm_L_departureOf]); omega, by show _ ≤ 7293000; (try simp only [rm_L_departureOf]); omega⟩ dL_law_1789 (fun r1789 M1789 h => ?_)
        refine gg_istore (pc := 1792) cx [(5, .int r1789), (0, .ref (gScB t)), (1, .ref (gAd t 8 o1)), (2, .ref (gAd t 9 o2)), (3, .ref (gAd t 59 o3)), (4, .int x4)] dL_law_1792 (by decide) rfl ?_
        refine gg_aload_n (pc := 1794) cx 3 rfl dL_law_1794 rfl ?_
        refine gg_aload_n (pc := 1795) cx 1 rfl dL_law_1795 rfl ?_
        refine gg_iload (pc := 1796) cx 5 rfl dL_law_1796 ?_
        refine gg_iconst (pc := 1798) cx (v := 1) dL_law_1798 (by decide) ?_
        refine gg_iadd (pc := 1799) cx dL_law_1799 ?_
        have q1800 := h.1
        have h := h.2
        refine gg_sld (pc := 1800) cx q1800 dL_law_1800 ?_
        refine gg_callVl (pc := 1801) cx cal_X9_departureOf calv_X9_departureOf (ct_X9_departureOf cx.tr hM v2 h) tw_1626 (hM 9 _ rfl v2) rfl rfl rfl (st := []) rfl (Nat.le_of_ble_eq_true rfl) ⟨Nat.le_of_ble_eq_true rfl, Nat.le_of_ble_eq_true rfl⟩ ⟨by show _ ≤ 601024; (try simp only [rm_L_departureOf, rm_X9_departureOf]); omega, by show _ ≤ 7293000; (try simp only [rm_L_departureOf, rm_X9_departureOf]); omega⟩ dL_law_1801 (fun r1801 M1801 h => ?_)
        refine gg_lstore (pc := 1804) cx [(6, .long r1801), (5, .int r1789), (0, .ref (gScB t)), (1, .ref (gAd t 8 o1)), (2, .ref (gAd t 9 o2)), (3, .ref (gAd t 59 o3)), (4, .int x4)] dL_law_1804 (by decide) rfl ?_
        refine gg_aload_n (pc := 1806) cx 4 rfl dL_law_1806 rfl ?_
        refine gg_callVi (pc := 1807) cx cal_X9_thrown calv_X9_thrown (ct_X9_thrown cx.tr hM v2 h) tw_1367 (hM 9 _ rfl v2) rfl rfl rfl (st := []) rfl (Nat.le_of_ble_eq_true rfl) ⟨Nat.le_of_ble_eq_true rfl, Nat.le_of_ble_eq_true rfl⟩ ⟨by show _ ≤ 601024; (try simp only [rm_L_departureOf, rm_X9_departureOf, rm_X9_thrown]); omega, by show _ ≤ 7293000; (try simp only [rm_L_departureOf, rm_X9_departureOf, rm_X9_thrown]); omega⟩ dL_law_1807 (fun r1807 M1807 h => ?_)
        refine gg_iload (pc := 1810) cx 1 rfl dL_law_1810 ?_
        refine gg_icmp_eq (pc := 1812) cx (tgt := 1817) dL_law_1812 (by decide) (fun c1812 => ?_) (fun c1812 => ?_)
        · have h := g_it c1812 h
          refine gg_iload (pc := 1817) cx 1 rfl dL_law_1817 ?_
          refine gg_if_ne (pc := 1819) cx (tgt := 1833) dL_law_1819 (by decide) (fun c1819 => ?_) (fun c1819 => ?_)
          · have h := g_if c1819 h
            refine gg_goto (pc := 1833) cx (tgt := 2316) dL_law_1833 (by decide) ?_
            obtain ⟨n2316, en2316⟩ : ∃ z : Int32, z = x4 + Int32.ofInt (5) := ⟨_, rfl⟩
            have h := h n2316 en2316
            refine gg_iinc (pc := 2316) cx 6 [(4, .int n2316), (6, .long r1801), (5, .int r1789), (0, .ref (gScB t)), (1, .ref (gAd t 8 o1)), (2, .ref (gAd t 9 o2)), (3, .ref (gAd t 59 o3))] dL_law_2316 rfl en2316.symm (by decide) rfl ?_
            refine gg_goto (pc := 2319) cx (tgt := 33) dL_law_2319 (by decide) ?_
            refine gg_lv (lv' := [(0, .ref (gScB t)), (1, .ref (gAd t 8 o1)), (2, .ref (gAd t 9 o2)), (3, .ref (gAd t 59 o3)), (4, .int n2316)]) [3, 4, 5, 6, 0] rfl ?_
            refine gg_wide (k' := k + 64) (n' := n + 512) (by (try simp only [rm_L_departureOf, rm_X9_departureOf, rm_X9_thrown]); omega) (by (try simp only [rm_L_departureOf, rm_X9_departureOf, rm_X9_thrown]); omega) ?_
            exact ih (k + 64) (n + 512) o1 o2 o3 n2316 M1807 (by omega) (by omega) v1 v2 v3 h
          · have h := g_it c1819 h
            refine gg_aload_n (pc := 1822) cx 5 rfl dL_law_1822 rfl ?_
            refine gg_iconst (pc := 1823) cx (v := 0) dL_law_1823 (by decide) ?_
            have q1824 := h.1
            have h := h.2
            refine gg_lald (pc := 1824) cx (hO 59 _ rfl v3) rfl q1824 dL_law_1824 ?_
            refine gg_lload (pc := 1825) cx 0 rfl dL_law_1825 ?_
            refine gg_lcmp_eq (pc := 1827) cx (tgt := 1833) dL_law_1827 dL_law_1828 (by decide) (fun c1827 => ?_) (fun c1827 => ?_)
            · have h := g_it c1827 h
              refine gg_goto (pc := 1833) cx (tgt := 2316) dL_law_1833 (by decide) ?_
              obtain ⟨n2316, en2316⟩ : ∃ z : Int32, z = x4 + Int32.ofInt (5) := ⟨_, rfl⟩
              have h := h n2316 en2316
              refine gg_iinc (pc := 2316) cx 6 [(4, .int n2316), (6, .long r1801), (5, .int r1789), (0, .ref (gScB t)), (1, .ref (gAd t 8 o1)), (2, .ref (gAd t 9 o2)), (3, .ref (gAd t 59 o3))] dL_law_2316 rfl en2316.symm (by decide) rfl ?_
              refine gg_goto (pc := 2319) cx (tgt := 33) dL_law_2319 (by decide) ?_
              refine gg_lv (lv' := [(0, .ref (gScB t)), (1, .ref (gAd t 8 o1)), (2, .ref (gAd t 9 o2)), (3, .ref (gAd t 59 o3)), (4, .int n2316)]) [3, 4, 5, 6, 0] rfl ?_
              refine gg_wide (k' := k + 64) (n' := n + 512) (by (try simp only [rm_L_departureOf, rm_X9_departureOf, rm_X9_thrown]); omega) (by (try simp only [rm_L_departureOf, rm_X9_departureOf, rm_X9_thrown]); omega) ?_
              exact ih (k + 64) (n + 512) o1 o2 o3 n2316 M1807 (by omega) (by omega) v1 v2 v3 h
            · have h := g_if c1827 h
              refine gg_iconst (pc := 1831) cx (v := 0) dL_law_1831 (by decide) ?_
              exact gg_lawret (pc := 1832) cx hQ ha hB (by (try simp only [rm_L_departureOf, rm_X9_departureOf, rm_X9_thrown]); omega) (by (try simp only [rm_L_departureOf, rm_X9_departureOf, rm_X9_thrown]); omega) h dL_law_1832
        · have h := g_if c1812 h
          refine gg_iconst (pc := 1815) cx (v := 0) dL_law_1815 (by decide) ?_
          exact gg_lawret (pc := 1816) cx hQ ha hB (by (try simp only [rm_L_departureOf, rm_X9_departureOf, rm_X9_thrown]); omega) (by (try simp only [rm_L_departureOf, rm_X9_departureOf, rm_X9_thrown]); omega) h dL_law_1816
      have h := g_if c49_32 h
      by_cases c49_33 : ((gScX t x4.toNatClampNeg) &&& 63) = 33
      · have h := g_it c49_33 h
        refine gg_swv c49_33 ?_
        refine gg_tableIn (pc := 49) cx (off := 1787) (tgt := 1836) dL_law_49 (by decide) (by decide) rfl (by decide) ?_
        refine gg_aload_n (pc := 1836) cx 1 rfl dL_law_1836 rfl ?_
        refine gg_aload_n (pc := 1837) cx 0 rfl dL_law_1837 rfl ?_
        refine gg_iload (pc := 1838) cx 4 rfl dL_law_1838 ?_
        refine gg_iconst (pc := 1840) cx (v := 1) dL_law_1840 (by decide) ?_
        refine gg_iadd (pc := 1841) cx dL_law_1841 ?_
        have q1842 := h.1
        have h := h.2
        refine gg_sld (pc := 1842) cx q1842 dL_law_1842 ?_
        refine gg_aload_n (pc := 1843) cx 3 rfl dL_law_1843 rfl ?_
        refine gg_callSWi (pc := 1844) cx cal_L_sent tw_1114 (ct_L_sent cx.tr hC hM hO v1 v3 h) tw_1113 rfl (st := []) rfl (Nat.le_of_ble_eq_true rfl) ⟨Nat.le_of_ble_eq_true rfl, Nat.le_of_ble_eq_true rfl⟩ ⟨by show _ ≤ 601024; (try simp only [rm_L_sent]); omega, by show _ ≤ 7293000; (try simp only [rm_L_sent]); omega⟩ dL_law_1844 (fun r1844 M1844 h => ?_)
        refine gg_istore (pc := 1847) cx [(5, .int r1844), (0, .ref (gScB t)), (1, .ref (gAd t 8 o1)), (2, .ref (gAd t 9 o2)), (3, .ref (gAd t 59 o3)), (4, .int x4)] dL_law_1847 (by decide) rfl ?_
        refine gg_aload_n (pc := 1849) cx 3 rfl dL_law_1849 rfl ?_
        refine gg_aload_n (pc := 1850) cx 1 rfl dL_law_1850 rfl ?_
        refine gg_iload (pc := 1851) cx 5 rfl dL_law_1851 ?_
        refine gg_iconst (pc := 1853) cx (v := 1) dL_law_1853 (by decide) ?_
        refine gg_iadd (pc := 1854) cx dL_law_1854 ?_
        have q1855 := h.1
        have h := h.2
        refine gg_sld (pc := 1855) cx q1855 dL_law_1855 ?_
        refine gg_callVi (pc := 1856) cx cal_X9_sent calv_X9_sent (ct_X9_sent cx.tr hM v2 h) tw_1630 (hM 9 _ rfl v2) rfl rfl rfl (st := []) rfl (Nat.le_of_ble_eq_true rfl) ⟨Nat.le_of_ble_eq_true rfl, Nat.le_of_ble_eq_true rfl⟩ ⟨by show _ ≤ 601024; (try simp only [rm_L_sent, rm_X9_sent]); omega, by show _ ≤ 7293000; (try simp only [rm_L_sent, rm_X9_sent]); omega⟩ dL_law_1856 (fun r1856 M1856 h => ?_)
        refine gg_istore (pc := 1859) cx [(6, .int r1856), (5, .int r1844), (0, .ref (gScB t)), (1, .ref (gAd t 8 o1)), (2, .ref (gAd t 9 o2)), (3, .ref (gAd t 59 o3)), (4, .int x4)] dL_law_1859 (by decide) rfl ?_
        refine gg_aload_n (pc := 1861) cx 4 rfl dL_law_1861 rfl ?_
        refine gg_callVi (pc := 1862) cx cal_X9_thrown calv_X9_thrown (ct_X9_thrown cx.tr hM v2 h) tw_1367 (hM 9 _ rfl v2) rfl rfl rfl (st := []) rfl (Nat.le_of_ble_eq_true rfl) ⟨Nat.le_of_ble_eq_true rfl, Nat.le_of_ble_eq_true rfl⟩ ⟨by show _ ≤ 601024; (try simp only [rm_L_sent, rm_X9_sent, rm_X9_thrown]); omega, by show _ ≤ 7293000; (try simp only [rm_L_sent, rm_X9_sent, rm_X9_thrown]); omega⟩ dL_law_1862 (fun r1862 M1862 h => ?_)
        refine gg_iload (pc := 1865) cx 1 rfl dL_law_1865 ?_
        refine gg_icmp_eq (pc := 1867) cx (tgt := 1872) dL_law_1867 (by decide) (fun c1867 => ?_) (fun c1867 => ?_)
        · have h := g_it c1867 h
          refine gg_iload (pc := 1872) cx 1 rfl dL_law_1872 ?_
          refine gg_if_ne (pc := 1874) cx (tgt := 1889) dL_law_1874 (by decide) (fun c1874 => ?_) (fun c1874 => ?_)
          · have h := g_if c1874 h
            refine gg_goto (pc := 1889) cx (tgt := 2316) dL_law_1889 (by decide) ?_
            obtain ⟨n2316, en2316⟩ : ∃ z : Int32, z = x4 + Int32.ofInt (5) := ⟨_, rfl⟩
            have h := h n2316 en2316
            refine gg_iinc (pc := 2316) cx 6 [(4, .int n2316), (6, .int r1856), (5, .int r1844), (0, .ref (gScB t)), (1, .ref (gAd t 8 o1)), (2, .ref (gAd t 9 o2)), (3, .ref (gAd t 59 o3))] dL_law_2316 rfl en2316.symm (by decide) rfl ?_
            refine gg_goto (pc := 2319) cx (tgt := 33) dL_law_2319 (by decide) ?_
            refine gg_lv (lv' := [(0, .ref (gScB t)), (1, .ref (gAd t 8 o1)), (2, .ref (gAd t 9 o2)), (3, .ref (gAd t 59 o3)), (4, .int n2316)]) [3, 4, 5, 6, 0] rfl ?_
            refine gg_wide (k' := k + 64) (n' := n + 512) (by (try simp only [rm_L_sent, rm_X9_sent, rm_X9_thrown]); omega) (by (try simp only [rm_L_sent, rm_X9_sent, rm_X9_thrown]); omega) ?_
            exact ih (k + 64) (n + 512) o1 o2 o3 n2316 M1862 (by omega) (by omega) v1 v2 v3 h
          · have h := g_it c1874 h
            refine gg_aload_n (pc := 1877) cx 5 rfl dL_law_1877 rfl ?_
            refine gg_iconst (pc := 1878) cx (v := 0) dL_law_1878 (by decide) ?_
            have q1879 := h.1
            have h := h.2
            refine gg_lald (pc := 1879) cx (hO 59 _ rfl v3) rfl q1879 dL_law_1879 ?_
            refine gg_iload (pc := 1880) cx 0 rfl dL_law_1880 ?_
            refine gg_i2l (pc := 1882) cx dL_law_1882 ?_
            refine gg_lcmp_eq (pc := 1883) cx (tgt := 1889) dL_law_1883 dL_law_1884 (by decide) (fun c1883 => ?_) (fun c1883 => ?_)
            · have h := g_it c1883 h
              refine gg_goto (pc := 1889) cx (tgt := 2316) dL_law_1889 (by decide) ?_
              obtain ⟨n2316, en2316⟩ : ∃ z : Int32, z = x4 + Int32.ofInt (5) := ⟨_, rfl⟩
              have h := h n2316 en2316
              refine gg_iinc (pc := 2316) cx 6 [(4, .int n2316), (6, .int r1856), (5, .int r1844), (0, .ref (gScB t)), (1, .ref (gAd t 8 o1)), (2, .ref (gAd t 9 o2)), (3, .ref (gAd t 59 o3))] dL_law_2316 rfl en2316.symm (by decide) rfl ?_
              refine gg_goto (pc := 2319) cx (tgt := 33) dL_law_2319 (by decide) ?_
              refine gg_lv (lv' := [(0, .ref (gScB t)), (1, .ref (gAd t 8 o1)), (2, .ref (gAd t 9 o2)), (3, .ref (gAd t 59 o3)), (4, .int n2316)]) [3, 4, 5, 6, 0] rfl ?_
              refine gg_wide (k' := k + 64) (n' := n + 512) (by (try simp only [rm_L_sent, rm_X9_sent, rm_X9_thrown]); omega) (by (try simp only [rm_L_sent, rm_X9_sent, rm_X9_thrown]); omega) ?_
              exact ih (k + 64) (n + 512) o1 o2 o3 n2316 M1862 (by omega) (by omega) v1 v2 v3 h
            · have h := g_if c1883 h
              refine gg_iconst (pc := 1887) cx (v := 0) dL_law_1887 (by decide) ?_
              exact gg_lawret (pc := 1888) cx hQ ha hB (by (try simp only [rm_L_sent, rm_X9_sent, rm_X9_thrown]); omega) (by (try simp only [rm_L_sent, rm_X9_sent, rm_X9_thrown]); omega) h dL_law_1888
        · have h := g_if c1867 h
          refine gg_iconst (pc := 1870) cx (v := 0) dL_law_1870 (by decide) ?_
          exact gg_lawret (pc := 1871) cx hQ ha hB (by (try simp only [rm_L_sent, rm_X9_sent, rm_X9_thrown]); omega) (by (try simp only [rm_L_sent, rm_X9_sent, rm_X9_thrown]); omega) h dL_law_1871
      have h := g_if c49_33 h
      by_cases c49_34 : ((gScX t x4.toNatClampNeg) &&& 63) = 34
      · have h := g_it c49_34 h
        refine gg_swv c49_34 ?_
        refine gg_tableIn (pc := 49) cx (off := 1843) (tgt := 1892) dL_law_49 (by decide) (by decide) rfl (by decide) ?_
        refine gg_aload_n (pc := 1892) cx 1 rfl dL_law_1892 rfl ?_
        refine gg_aload_n (pc := 1893) cx 0 rfl dL_law_1893 rfl ?_
        refine gg_iload (pc := 1894) cx 4 rfl dL_law_1894 ?_
        refine gg_iconst (pc := 1896) cx (v := 1) dL_law_1896 (by decide) ?_
        refine gg_iadd (pc := 1897) cx dL_law_1897 ?_
        have q1898 := h.1
        have h := h.2
        refine gg_sld (pc := 1898) cx q1898 dL_law_1898 ?_
        refine gg_aload_n (pc := 1899) cx 3 rfl dL_law_1899 rfl ?_
        refine gg_callSWi (pc := 1900) cx cal_L_sentBytes tw_1121 (ct_L_sentBytes cx.tr hC hM hO v1 v3 h) tw_1120 rfl (st := []) rfl (Nat.le_of_ble_eq_true rfl) ⟨Nat.le_of_ble_eq_true rfl, Nat.le_of_ble_eq_true rfl⟩ ⟨by show _ ≤ 601024; (try simp only [rm_L_sentBytes]); omega, by show _ ≤ 7293000; (try simp only [rm_L_sentBytes]); omega⟩ dL_law_1900 (fun r1900 M1900 h => ?_)
        refine gg_istore (pc := 1903) cx [(5, .int r1900), (0, .ref (gScB t)), (1, .ref (gAd t 8 o1)), (2, .ref (gAd t 9 o2)), (3, .ref (gAd t 59 o3)), (4, .int x4)] dL_law_1903 (by decide) rfl ?_
        refine gg_aload_n (pc := 1905) cx 3 rfl dL_law_1905 rfl ?_
        refine gg_aload_n (pc := 1906) cx 1 rfl dL_law_1906 rfl ?_
        refine gg_iload (pc := 1907) cx 5 rfl dL_law_1907 ?_
        refine gg_iconst (pc := 1909) cx (v := 1) dL_law_1909 (by decide) ?_
        refine gg_iadd (pc := 1910) cx dL_law_1910 ?_
        have q1911 := h.1
        have h := h.2
        refine gg_sld (pc := 1911) cx q1911 dL_law_1911 ?_
        refine gg_callVi (pc := 1912) cx cal_X9_sentBytes calv_X9_sentBytes (ct_X9_sentBytes cx.tr hM v2 h) tw_1634 (hM 9 _ rfl v2) rfl rfl rfl (st := []) rfl (Nat.le_of_ble_eq_true rfl) ⟨Nat.le_of_ble_eq_true rfl, Nat.le_of_ble_eq_true rfl⟩ ⟨by show _ ≤ 601024; (try simp only [rm_L_sentBytes, rm_X9_sentBytes]); omega, by show _ ≤ 7293000; (try simp only [rm_L_sentBytes, rm_X9_sentBytes]); omega⟩ dL_law_1912 (fun r1912 M1912 h => ?_)
        refine gg_istore (pc := 1915) cx [(6, .int r1912), (5, .int r1900), (0, .ref (gScB t)), (1, .ref (gAd t 8 o1)), (2, .ref (gAd t 9 o2)), (3, .ref (gAd t 59 o3)), (4, .int x4)] dL_law_1915 (by decide) rfl ?_
        refine gg_aload_n (pc := 1917) cx 4 rfl dL_law_1917 rfl ?_
        refine gg_callVi (pc := 1918) cx cal_X9_thrown calv_X9_thrown (ct_X9_thrown cx.tr hM v2 h) tw_1367 (hM 9 _ rfl v2) rfl rfl rfl (st := []) rfl (Nat.le_of_ble_eq_true rfl) ⟨Nat.le_of_ble_eq_true rfl, Nat.le_of_ble_eq_true rfl⟩ ⟨by show _ ≤ 601024; (try simp only [rm_L_sentBytes, rm_X9_sentBytes, rm_X9_thrown]); omega, by show _ ≤ 7293000; (try simp only [rm_L_sentBytes, rm_X9_sentBytes, rm_X9_thrown]); omega⟩ dL_law_1918 (fun r1918 M1918 h => ?_)
        refine gg_iload (pc := 1921) cx 1 rfl dL_law_1921 ?_
        refine gg_icmp_eq (pc := 1923) cx (tgt := 1928) dL_law_1923 (by decide) (fun c1923 => ?_) (fun c1923 => ?_)
        · have h := g_it c1923 h
          refine gg_iload (pc := 1928) cx 1 rfl dL_law_1928 ?_
          refine gg_if_ne (pc := 1930) cx (tgt := 1945) dL_law_1930 (by decide) (fun c1930 => ?_) (fun c1930 => ?_)
          · have h := g_if c1930 h
            refine gg_goto (pc := 1945) cx (tgt := 2316) dL_law_1945 (by decide) ?_
            obtain ⟨n2316, en2316⟩ : ∃ z : Int32, z = x4 + Int32.ofInt (5) := ⟨_, rfl⟩
            have h := h n2316 en2316
            refine gg_iinc (pc := 2316) cx 6 [(4, .int n2316), (6, .int r1912), (5, .int r1900), (0, .ref (gScB t)), (1, .ref (gAd t 8 o1)), (2, .ref (gAd t 9 o2)), (3, .ref (gAd t 59 o3))] dL_law_2316 rfl en2316.symm (by decide) rfl ?_
            refine gg_goto (pc := 2319) cx (tgt := 33) dL_law_2319 (by decide) ?_
            refine gg_lv (lv' := [(0, .ref (gScB t)), (1, .ref (gAd t 8 o1)), (2, .ref (gAd t 9 o2)), (3, .ref (gAd t 59 o3)), (4, .int n2316)]) [3, 4, 5, 6, 0] rfl ?_
            refine gg_wide (k' := k + 64) (n' := n + 512) (by (try simp only [rm_L_sentBytes, rm_X9_sentBytes, rm_X9_thrown]); omega) (by (try simp only [rm_L_sentBytes, rm_X9_sentBytes, rm_X9_thrown]); omega) ?_
            exact ih (k + 64) (n + 512) o1 o2 o3 n2316 M1918 (by omega) (by omega) v1 v2 v3 h
          · have h := g_it c1930 h
            refine gg_aload_n (pc := 1933) cx 5 rfl dL_law_1933 rfl ?_
            refine gg_iconst (pc := 1934) cx (v := 0) dL_law_1934 (by decide) ?_
            have q1935 := h.1
            have h := h.2
            refine gg_lald (pc := 1935) cx (hO 59 _ rfl v3) rfl q1935 dL_law_1935 ?_
            refine gg_iload (pc := 1936) cx 0 rfl dL_law_1936 ?_
            refine gg_i2l (pc := 1938) cx dL_law_1938 ?_
            refine gg_lcmp_eq (pc := 1939) cx (tgt := 1945) dL_law_1939 dL_law_1940 (by decide) (fun c1939 => ?_) (fun c1939 => ?_)
            · have h := g_it c1939 h
              refine gg_goto (pc := 1945) cx (tgt := 2316) dL_law_1945 (by decide) ?_
              obtain ⟨n2316, en2316⟩ : ∃ z : Int32, z = x4 + Int32.ofInt (5) := ⟨_, rfl⟩
              have h := h n2316 en2316
              refine gg_iinc (pc := 2316) cx 6 [(4, .int n2316), (6, .int r1912), (5, .int r1900), (0, .ref (gScB t)), (1, .ref (gAd t 8 o1)), (2, .ref (gAd t 9 o2)), (3, .ref (gAd t 59 o3))] dL_law_2316 rfl en2316.symm (by decide) rfl ?_
              refine gg_goto (pc := 2319) cx (tgt := 33) dL_law_2319 (by decide) ?_
              refine gg_lv (lv' := [(0, .ref (gScB t)), (1, .ref (gAd t 8 o1)), (2, .ref (gAd t 9 o2)), (3, .ref (gAd t 59 o3)), (4, .int n2316)]) [3, 4, 5, 6, 0] rfl ?_
              refine gg_wide (k' := k + 64) (n' := n + 512) (by (try simp only [rm_L_sentBytes, rm_X9_sentBytes, rm_X9_thrown]); omega) (by (try simp only [rm_L_sentBytes, rm_X9_sentBytes, rm_X9_thrown]); omega) ?_
              exact ih (k + 64) (n + 512) o1 o2 o3 n2316 M1918 (by omega) (by omega) v1 v2 v3 h
            · have h := g_if c1939 h
              refine gg_iconst (pc := 1943) cx (v := 0) dL_law_1943 (by decide) ?_
              exact gg_lawret (pc := 1944) cx hQ ha hB (by (try simp only [rm_L_sentBytes, rm_X9_sentBytes, rm_X9_thrown]); omega) (by (try simp only [rm_L_sentBytes, rm_X9_sentBytes, rm_X9_thrown]); omega) h dL_law_1944
        · have h := g_if c1923 h
          refine gg_iconst (pc := 1926) cx (v := 0) dL_law_1926 (by decide) ?_
          exact gg_lawret (pc := 1927) cx hQ ha hB (by (try simp only [rm_L_sentBytes, rm_X9_sentBytes, rm_X9_thrown]); omega) (by (try simp only [rm_L_sentBytes, rm_X9_sentBytes, rm_X9_thrown]); omega) h dL_law_1927
      have h := g_if c49_34 h
      by_cases c49_35 : ((gScX t x4.toNatClampNeg) &&& 63) = 35
      · have h := g_it c49_35 h
        refine gg_swv c49_35 ?_
        refine gg_tableIn (pc := 49) cx (off := 1899) (tgt := 1948) dL_law_49 (by decide) (by decide) rfl (by decide) ?_
        refine gg_aload_n (pc := 1948) cx 1 rfl dL_law_1948 rfl ?_
        refine gg_aload_n (pc := 1949) cx 0 rfl dL_law_1949 rfl ?_
        refine gg_iload (pc := 1950) cx 4 rfl dL_law_1950 ?_
        refine gg_iconst (pc := 1952) cx (v := 1) dL_law_1952 (by decide) ?_
        refine gg_iadd (pc := 1953) cx dL_law_1953 ?_
        have q1954 := h.1
        have h := h.2
        refine gg_sld (pc := 1954) cx q1954 dL_law_1954 ?_
        refine gg_aload_n (pc := 1955) cx 3 rfl dL_law_1955 rfl ?_
        refine gg_callSWi (pc := 1956) cx cal_L_totalDelay tw_1128 (ct_L_totalDelay cx.tr hC hM hO v1 v3 h) tw_1127 rfl (st := []) rfl (Nat.le_of_ble_eq_true rfl) ⟨Nat.le_of_ble_eq_true rfl, Nat.le_of_ble_eq_true rfl⟩ ⟨by show _ ≤ 601024; (try simp only [rm_L_totalDelay]); omega, by show _ ≤ 7293000; (try simp only [rm_L_totalDelay]); omega⟩ dL_law_1956 (fun r1956 M1956 h => ?_)
        refine gg_istore (pc := 1959) cx [(5, .int r1956), (0, .ref (gScB t)), (1, .ref (gAd t 8 o1)), (2, .ref (gAd t 9 o2)), (3, .ref (gAd t 59 o3)), (4, .int x4)] dL_law_1959 (by decide) rfl ?_
        refine gg_aload_n (pc := 1961) cx 3 rfl dL_law_1961 rfl ?_
        refine gg_aload_n (pc := 1962) cx 1 rfl dL_law_1962 rfl ?_
        refine gg_iload (pc := 1963) cx 5 rfl dL_law_1963 ?_
        refine gg_iconst (pc := 1965) cx (v := 1) dL_law_1965 (by decide) ?_
        refine gg_iadd (pc := 1966) cx dL_law_1966 ?_
        have q1967 := h.1
        have h := h.2
        refine gg_sld (pc := 1967) cx q1967 dL_law_1967 ?_
        refine gg_callVl (pc := 1968) cx cal_X9_totalDelay calv_X9_totalDelay (ct_X9_totalDelay cx.tr hM v2 h) tw_1638 (hM 9 _ rfl v2) rfl rfl rfl (st := []) rfl (Nat.le_of_ble_eq_true rfl) ⟨Nat.le_of_ble_eq_true rfl, Nat.le_of_ble_eq_true rfl⟩ ⟨by show _ ≤ 601024; (try simp only [rm_L_totalDelay, rm_X9_totalDelay]); omega, by show _ ≤ 7293000; (try simp only [rm_L_totalDelay, rm_X9_totalDelay]); omega⟩ dL_law_1968 (fun r1968 M1968 h => ?_)
        refine gg_lstore (pc := 1971) cx [(6, .long r1968), (5, .int r1956), (0, .ref (gScB t)), (1, .ref (gAd t 8 o1)), (2, .ref (gAd t 9 o2)), (3, .ref (gAd t 59 o3)), (4, .int x4)] dL_law_1971 (by decide) rfl ?_
        refine gg_aload_n (pc := 1973) cx 4 rfl dL_law_1973 rfl ?_
        refine gg_callVi (pc := 1974) cx cal_X9_thrown calv_X9_thrown (ct_X9_thrown cx.tr hM v2 h) tw_1367 (hM 9 _ rfl v2) rfl rfl rfl (st := []) rfl (Nat.le_of_ble_eq_true rfl) ⟨Nat.le_of_ble_eq_true rfl, Nat.le_of_ble_eq_true rfl⟩ ⟨by show _ ≤ 601024; (try simp only [rm_L_totalDelay, rm_X9_totalDelay, rm_X9_thrown]); omega, by show _ ≤ 7293000; (try simp only [rm_L_totalDelay, rm_X9_totalDelay, rm_X9_thrown]); omega⟩ dL_law_1974 (fun r1974 M1974 h => ?_)
        refine gg_iload (pc := 1977) cx 1 rfl dL_law_1977 ?_
        refine gg_icmp_eq (pc := 1979) cx (tgt := 1984) dL_law_1979 (by decide) (fun c1979 => ?_) (fun c1979 => ?_)
        · have h := g_it c1979 h
          refine gg_iload (pc := 1984) cx 1 rfl dL_law_1984 ?_
          refine gg_if_ne (pc := 1986) cx (tgt := 2000) dL_law_1986 (by decide) (fun c1986 => ?_) (fun c1986 => ?_)
          · have h := g_if c1986 h
            refine gg_goto (pc := 2000) cx (tgt := 2316) dL_law_2000 (by decide) ?_
            obtain ⟨n2316, en2316⟩ : ∃ z : Int32, z = x4 + Int32.ofInt (5) := ⟨_, rfl⟩
            have h := h n2316 en2316
            refine gg_iinc (pc := 2316) cx 6 [(4, .int n2316), (6, .long r1968), (5, .int r1956), (0, .ref (gScB t)), (1, .ref (gAd t 8 o1)), (2, .ref (gAd t 9 o2)), (3, .ref (gAd t 59 o3))] dL_law_2316 rfl en2316.symm (by decide) rfl ?_
            refine gg_goto (pc := 2319) cx (tgt := 33) dL_law_2319 (by decide) ?_
            refine gg_lv (lv' := [(0, .ref (gScB t)), (1, .ref (gAd t 8 o1)), (2, .ref (gAd t 9 o2)), (3, .ref (gAd t 59 o3)), (4, .int n2316)]) [3, 4, 5, 6, 0] rfl ?_
            refine gg_wide (k' := k + 64) (n' := n + 512) (by (try simp only [rm_L_totalDelay, rm_X9_totalDelay, rm_X9_thrown]); omega) (by (try simp only [rm_L_totalDelay, rm_X9_totalDelay, rm_X9_thrown]); omega) ?_
            exact ih (k + 64) (n + 512) o1 o2 o3 n2316 M1974 (by omega) (by omega) v1 v2 v3 h
          · have h := g_it c1986 h
            refine gg_aload_n (pc := 1989) cx 5 rfl dL_law_1989 rfl ?_
            refine gg_iconst (pc := 1990) cx (v := 0) dL_law_1990 (by decide) ?_
            have q1991 := h.1
            have h := h.2
            refine gg_lald (pc := 1991) cx (hO 59 _ rfl v3) rfl q1991 dL_law_1991 ?_
            refine gg_lload (pc := 1992) cx 0 rfl dL_law_1992 ?_
            refine gg_lcmp_eq (pc := 1994) cx (tgt := 2000) dL_law_1994 dL_law_1995 (by decide) (fun c1994 => ?_) (fun c1994 => ?_)
            · have h := g_it c1994 h
              refine gg_goto (pc := 2000) cx (tgt := 2316) dL_law_2000 (by decide) ?_
              obtain ⟨n2316, en2316⟩ : ∃ z : Int32, z = x4 + Int32.ofInt (5) := ⟨_, rfl⟩
              have h := h n2316 en2316
              refine gg_iinc (pc := 2316) cx 6 [(4, .int n2316), (6, .long r1968), (5, .int r1956), (0, .ref (gScB t)), (1, .ref (gAd t 8 o1)), (2, .ref (gAd t 9 o2)), (3, .ref (gAd t 59 o3))] dL_law_2316 rfl en2316.symm (by decide) rfl ?_
              refine gg_goto (pc := 2319) cx (tgt := 33) dL_law_2319 (by decide) ?_
              refine gg_lv (lv' := [(0, .ref (gScB t)), (1, .ref (gAd t 8 o1)), (2, .ref (gAd t 9 o2)), (3, .ref (gAd t 59 o3)), (4, .int n2316)]) [3, 4, 5, 6, 0] rfl ?_
              refine gg_wide (k' := k + 64) (n' := n + 512) (by (try simp only [rm_L_totalDelay, rm_X9_totalDelay, rm_X9_thrown]); omega) (by (try simp only [rm_L_totalDelay, rm_X9_totalDelay, rm_X9_thrown]); omega) ?_
              exact ih (k + 64) (n + 512) o1 o2 o3 n2316 M1974 (by omega) (by omega) v1 v2 v3 h
            · have h := g_if c1994 h
              refine gg_iconst (pc := 1998) cx (v := 0) dL_law_1998 (by decide) ?_
              exact gg_lawret (pc := 1999) cx hQ ha hB (by (try simp only [rm_L_totalDelay, rm_X9_totalDelay, rm_X9_thrown]); omega) (by (try simp only [rm_L_totalDelay, rm_X9_totalDelay, rm_X9_thrown]); omega) h dL_law_1999
        · have h := g_if c1979 h
          refine gg_iconst (pc := 1982) cx (v := 0) dL_law_1982 (by decide) ?_
          exact gg_lawret (pc := 1983) cx hQ ha hB (by (try simp only [rm_L_totalDelay, rm_X9_totalDelay, rm_X9_thrown]); omega) (by (try simp only [rm_L_totalDelay, rm_X9_totalDelay, rm_X9_thrown]); omega) h dL_law_1983
      have h := g_if c49_35 h
      by_cases c49_36 : ((gScX t x4.toNatClampNeg) &&& 63) = 36
      · have h := g_it c49_36 h
        refine gg_swv c49_36 ?_
        refine gg_tableIn (pc := 49) cx (off := 1954) (tgt := 2003) dL_law_49 (by decide) (by decide) rfl (by decide) ?_
        refine gg_aload_n (pc := 2003) cx 1 rfl dL_law_2003 rfl ?_
        refine gg_aload_n (pc := 2004) cx 0 rfl dL_law_2004 rfl ?_
        refine gg_iload (pc := 2005) cx 4 rfl dL_law_2005 ?_
        refine gg_iconst (pc := 2007) cx (v := 1) dL_law_2007 (by decide) ?_
        refine gg_iadd (pc := 2008) cx dL_law_2008 ?_
        have q2009 := h.1
        have h := h.2
        refine gg_sld (pc := 2009) cx q2009 dL_law_2009 ?_
        refine gg_aload_n (pc := 2010) cx 3 rfl dL_law_2010 rfl ?_
        refine gg_callSWi (pc := 2011) cx cal_L_greatestDelay tw_1135 (ct_L_greatestDelay cx.tr hC hM hO v1 v3 h) tw_1134 rfl (st := []) rfl (Nat.le_of_ble_eq_true rfl) ⟨Nat.le_of_ble_eq_true rfl, Nat.le_of_ble_eq_true rfl⟩ ⟨by show _ ≤ 601024; (try simp only [rm_L_greatestDelay]); omega, by show _ ≤ 7293000; (try simp only [rm_L_greatestDelay]); omega⟩ dL_law_2011 (fun r2011 M2011 h => ?_)
        refine gg_istore (pc := 2014) cx [(5, .int r2011), (0, .ref (gScB t)), (1, .ref (gAd t 8 o1)), (2, .ref (gAd t 9 o2)), (3, .ref (gAd t 59 o3)), (4, .int x4)] dL_law_2014 (by decide) rfl ?_
        refine gg_aload_n (pc := 2016) cx 3 rfl dL_law_2016 rfl ?_
        refine gg_aload_n (pc := 2017) cx 1 rfl dL_law_2017 rfl ?_
        refine gg_iload (pc := 2018) cx 5 rfl dL_law_2018 ?_
        refine gg_iconst (pc := 2020) cx (v := 1) dL_law_2020 (by decide) ?_
        refine gg_iadd (pc := 2021) cx dL_law_2021 ?_
        have q2022 := h.1
        have h := h.2
        refine gg_sld (pc := 2022) cx q2022 dL_law_2022 ?_
        refine gg_callVl (pc := 2023) cx cal_X9_greatestDelay calv_X9_greatestDelay (ct_X9_greatestDelay cx.tr hM v2 h) tw_1642 (hM 9 _ rfl v2) rfl rfl rfl (st := []) rfl (Nat.le_of_ble_eq_true rfl) ⟨Nat.le_of_ble_eq_true rfl, Nat.le_of_ble_eq_true rfl⟩ ⟨by show _ ≤ 601024; (try simp only [rm_L_greatestDelay, rm_X9_greatestDelay]); omega, by show _ ≤ 7293000; (try simp only [rm_L_greatestDelay, rm_X9_greatestDelay]); omega⟩ dL_law_2023 (fun r2023 M2023 h => ?_)
        refine gg_lstore (pc := 2026) cx [(6, .long r2023), (5, .int r2011), (0, .ref (gScB t)), (1, .ref (gAd t 8 o1)), (2, .ref (gAd t 9 o2)), (3, .ref (gAd t 59 o3)), (4, .int x4)] dL_law_2026 (by decide) rfl ?_
        refine gg_aload_n (pc := 2028) cx 4 rfl dL_law_2028 rfl ?_
        refine gg_callVi (pc := 2029) cx cal_X9_thrown calv_X9_thrown (ct_X9_thrown cx.tr hM v2 h) tw_1367 (hM 9 _ rfl v2) rfl rfl rfl (st := []) rfl (Nat.le_of_ble_eq_true rfl) ⟨Nat.le_of_ble_eq_true rfl, Nat.le_of_ble_eq_true rfl⟩ ⟨by show _ ≤ 601024; (try simp only [rm_L_greatestDelay, rm_X9_greatestDelay, rm_X9_thrown]); omega, by show _ ≤ 7293000; (try simp only [rm_L_greatestDelay, rm_X9_greatestDelay, rm_X9_thrown]); omega⟩ dL_law_2029 (fun r2029 M2029 h => ?_)
        refine gg_iload (pc := 2032) cx 1 rfl dL_law_2032 ?_
        refine gg_icmp_eq (pc := 2034) cx (tgt := 2039) dL_law_2034 (by decide) (fun c2034 => ?_) (fun c2034 => ?_)
        · have h := g_it c2034 h
          refine gg_iload (pc := 2039) cx 1 rfl dL_law_2039 ?_
          refine gg_if_ne (pc := 2041) cx (tgt := 2055) dL_law_2041 (by decide) (fun c2041 => ?_) (fun c2041 => ?_)
          · have h := g_if c2041 h
            refine gg_goto (pc := 2055) cx (tgt := 2316) dL_law_2055 (by decide) ?_
            obtain ⟨n2316, en2316⟩ : ∃ z : Int32, z = x4 + Int32.ofInt (5) := ⟨_, rfl⟩
            have h := h n2316 en2316
            refine gg_iinc (pc := 2316) cx 6 [(4, .int n2316), (6, .long r2023), (5, .int r2011), (0, .ref (gScB t)), (1, .ref (gAd t 8 o1)), (2, .ref (gAd t 9 o2)), (3, .ref (gAd t 59 o3))] dL_law_2316 rfl en2316.symm (by decide) rfl ?_
            refine gg_goto (pc := 2319) cx (tgt := 33) dL_law_2319 (by decide) ?_
            refine gg_lv (lv' := [(0, .ref (gScB t)), (1, .ref (gAd t 8 o1)), (2, .ref (gAd t 9 o2)), (3, .ref (gAd t 59 o3)), (4, .int n2316)]) [3, 4, 5, 6, 0] rfl ?_
            refine gg_wide (k' := k + 64) (n' := n + 512) (by (try simp only [rm_L_greatestDelay, rm_X9_greatestDelay, rm_X9_thrown]); omega) (by (try simp only [rm_L_greatestDelay, rm_X9_greatestDelay, rm_X9_thrown]); omega) ?_
            exact ih (k + 64) (n + 512) o1 o2 o3 n2316 M2029 (by omega) (by omega) v1 v2 v3 h
          · have h := g_it c2041 h
            refine gg_aload_n (pc := 2044) cx 5 rfl dL_law_2044 rfl ?_
            refine gg_iconst (pc := 2045) cx (v := 0) dL_law_2045 (by decide) ?_
            have q2046 := h.1
            have h := h.2
            refine gg_lald (pc := 2046) cx (hO 59 _ rfl v3) rfl q2046 dL_law_2046 ?_
            refine gg_lload (pc := 2047) cx 0 rfl dL_law_2047 ?_
            refine gg_lcmp_eq (pc := 2049) cx (tgt := 2055) dL_law_2049 dL_law_2050 (by decide) (fun c2049 => ?_) (fun c2049 => ?_)
            · have h := g_it c2049 h
              refine gg_goto (pc := 2055) cx (tgt := 2316) dL_law_2055 (by decide) ?_
              obtain ⟨n2316, en2316⟩ : ∃ z : Int32, z = x4 + Int32.ofInt (5) := ⟨_, rfl⟩
              have h := h n2316 en2316
              refine gg_iinc (pc := 2316) cx 6 [(4, .int n2316), (6, .long r2023), (5, .int r2011), (0, .ref (gScB t)), (1, .ref (gAd t 8 o1)), (2, .ref (gAd t 9 o2)), (3, .ref (gAd t 59 o3))] dL_law_2316 rfl en2316.symm (by decide) rfl ?_
              refine gg_goto (pc := 2319) cx (tgt := 33) dL_law_2319 (by decide) ?_
              refine gg_lv (lv' := [(0, .ref (gScB t)), (1, .ref (gAd t 8 o1)), (2, .ref (gAd t 9 o2)), (3, .ref (gAd t 59 o3)), (4, .int n2316)]) [3, 4, 5, 6, 0] rfl ?_
              refine gg_wide (k' := k + 64) (n' := n + 512) (by (try simp only [rm_L_greatestDelay, rm_X9_greatestDelay, rm_X9_thrown]); omega) (by (try simp only [rm_L_greatestDelay, rm_X9_greatestDelay, rm_X9_thrown]); omega) ?_
              exact ih (k + 64) (n + 512) o1 o2 o3 n2316 M2029 (by omega) (by omega) v1 v2 v3 h
            · have h := g_if c2049 h
              refine gg_iconst (pc := 2053) cx (v := 0) dL_law_2053 (by decide) ?_
              exact gg_lawret (pc := 2054) cx hQ ha hB (by (try simp only [rm_L_greatestDelay, rm_X9_greatestDelay, rm_X9_thrown]); omega) (by (try simp only [rm_L_greatestDelay, rm_X9_greatestDelay, rm_X9_thrown]); omega) h dL_law_2054
        · have h := g_if c2034 h
          refine gg_iconst (pc := 2037) cx (v := 0) dL_law_2037 (by decide) ?_
          exact gg_lawret (pc := 2038) cx hQ ha hB (by (try simp only [rm_L_greatestDelay, rm_X9_greatestDelay, rm_X9_thrown]); omega) (by (try simp only [rm_L_greatestDelay, rm_X9_greatestDelay, rm_X9_thrown]); omega) h dL_law_2038
      have h := g_if c49_36 h
      by_cases c49_37 : ((gScX t x4.toNatClampNeg) &&& 63) = 37
      · have h := g_it c49_37 h
        refine gg_swv c49_37 ?_
        refine gg_tableIn (pc := 49) cx (off := 2009) (tgt := 2058) dL_law_49 (by decide) (by decide) rfl (by decide) ?_
        refine gg_aload_n (pc := 2058) cx 1 rfl dL_law_2058 rfl ?_
        refine gg_aload_n (pc := 2059) cx 0 rfl dL_law_2059 rfl ?_
        refine gg_iload (pc := 2060) cx 4 rfl dL_law_2060 ?_
        refine gg_iconst (pc := 2062) cx (v := 1) dL_law_2062 (by decide) ?_
        refine gg_iadd (pc := 2063) cx dL_law_2063 ?_
        have q2064 := h.1
        have h := h.2
        refine gg_sld (pc := 2064) cx q2064 dL_law_2064 ?_
        refine gg_aload_n (pc := 2065) cx 3 rfl dL_law_2065 rfl ?_
        refine gg_callSWi (pc := 2066) cx cal_L_missed tw_1142 (ct_L_missed cx.tr hC hM hO v1 v3 h) tw_1141 rfl (st := []) rfl (Nat.le_of_ble_eq_true rfl) ⟨Nat.le_of_ble_eq_true rfl, Nat.le_of_ble_eq_true rfl⟩ ⟨by show _ ≤ 601024; (try simp only [rm_L_missed]); omega, by show _ ≤ 7293000; (try simp only [rm_L_missed]); omega⟩ dL_law_2066 (fun r2066 M2066 h => ?_)
        refine gg_istore (pc := 2069) cx [(5, .int r2066), (0, .ref (gScB t)), (1, .ref (gAd t 8 o1)), (2, .ref (gAd t 9 o2)), (3, .ref (gAd t 59 o3)), (4, .int x4)] dL_law_2069 (by decide) rfl ?_
        refine gg_aload_n (pc := 2071) cx 3 rfl dL_law_2071 rfl ?_
        refine gg_aload_n (pc := 2072) cx 1 rfl dL_law_2072 rfl ?_
        refine gg_iload (pc := 2073) cx 5 rfl dL_law_2073 ?_
        refine gg_iconst (pc := 2075) cx (v := 1) dL_law_2075 (by decide) ?_
        refine gg_iadd (pc := 2076) cx dL_law_2076 ?_
        have q2077 := h.1
        have h := h.2
        refine gg_sld (pc := 2077) cx q2077 dL_law_2077 ?_
        refine gg_callVi (pc := 2078) cx cal_X9_missed calv_X9_missed (ct_X9_missed cx.tr hM v2 h) tw_1646 (hM 9 _ rfl v2) rfl rfl rfl (st := []) rfl (Nat.le_of_ble_eq_true rfl) ⟨Nat.le_of_ble_eq_true rfl, Nat.le_of_ble_eq_true rfl⟩ ⟨by show _ ≤ 601024; (try simp only [rm_L_missed, rm_X9_missed]); omega, by show _ ≤ 7293000; (try simp only [rm_L_missed, rm_X9_missed]); omega⟩ dL_law_2078 (fun r2078 M2078 h => ?_)
        refine gg_istore (pc := 2081) cx [(6, .int r2078), (5, .int r2066), (0, .ref (gScB t)), (1, .ref (gAd t 8 o1)), (2, .ref (gAd t 9 o2)), (3, .ref (gAd t 59 o3)), (4, .int x4)] dL_law_2081 (by decide) rfl ?_
        refine gg_aload_n (pc := 2083) cx 4 rfl dL_law_2083 rfl ?_
        refine gg_callVi (pc := 2084) cx cal_X9_thrown calv_X9_thrown (ct_X9_thrown cx.tr hM v2 h) tw_1367 (hM 9 _ rfl v2) rfl rfl rfl (st := []) rfl (Nat.le_of_ble_eq_true rfl) ⟨Nat.le_of_ble_eq_true rfl, Nat.le_of_ble_eq_true rfl⟩ ⟨by show _ ≤ 601024; (try simp only [rm_L_missed, rm_X9_missed, rm_X9_thrown]); omega, by show _ ≤ 7293000; (try simp only [rm_L_missed, rm_X9_missed, rm_X9_thrown]); omega⟩ dL_law_2084 (fun r2084 M2084 h => ?_)
        refine gg_iload (pc := 2087) cx 1 rfl dL_law_2087 ?_
        refine gg_icmp_eq (pc := 2089) cx (tgt := 2094) dL_law_2089 (by decide) (fun c2089 => ?_) (fun c2089 => ?_)
        · have h := g_it c2089 h
          refine gg_iload (pc := 2094) cx 1 rfl dL_law_2094 ?_
          refine gg_if_ne (pc := 2096) cx (tgt := 2111) dL_law_2096 (by decide) (fun c2096 => ?_) (fun c2096 => ?_)
          · have h := g_if c2096 h
            refine gg_goto (pc := 2111) cx (tgt := 2316) dL_law_2111 (by decide) ?_
            obtain ⟨n2316, en2316⟩ : ∃ z : Int32, z = x4 + Int32.ofInt (5) := ⟨_, rfl⟩
            have h := h n2316 en2316
            refine gg_iinc (pc := 2316) cx 6 [(4, .int n2316), (6, .int r2078), (5, .int r2066), (0, .ref (gScB t)), (1, .ref (gAd t 8 o1)), (2, .ref (gAd t 9 o2)), (3, .ref (gAd t 59 o3))] dL_law_2316 rfl en2316.symm (by decide) rfl ?_
            refine gg_goto (pc := 2319) cx (tgt := 33) dL_law_2319 (by decide) ?_
            refine gg_lv (lv' := [(0, .ref (gScB t)), (1, .ref (gAd t 8 o1)), (2, .ref (gAd t 9 o2)), (3, .ref (gAd t 59 o3)), (4, .int n2316)]) [3, 4, 5, 6, 0] rfl ?_
            refine gg_wide (k' := k + 64) (n' := n + 512) (by (try simp only [rm_L_missed, rm_X9_missed, rm_X9_thrown]); omega) (by (try simp only [rm_L_missed, rm_X9_missed, rm_X9_thrown]); omega) ?_
            exact ih (k + 64) (n + 512) o1 o2 o3 n2316 M2084 (by omega) (by omega) v1 v2 v3 h
          · have h := g_it c2096 h
            refine gg_aload_n (pc := 2099) cx 5 rfl dL_law_2099 rfl ?_
            refine gg_iconst (pc := 2100) cx (v := 0) dL_law_2100 (by decide) ?_
            have q2101 := h.1
            have h := h.2
            refine gg_lald (pc := 2101) cx (hO 59 _ rfl v3) rfl q2101 dL_law_2101 ?_
            refine gg_iload (pc := 2102) cx 0 rfl dL_law_2102 ?_
            refine gg_i2l (pc := 2104) cx dL_law_2104 ?_
            refine gg_lcmp_eq (pc := 2105) cx (tgt := 2111) dL_law_2105 dL_law_2106 (by decide) (fun c2105 => ?_) (fun c2105 => ?_)
            · have h := g_it c2105 h
              refine gg_goto (pc := 2111) cx (tgt := 2316) dL_law_2111 (by decide) ?_
              obtain ⟨n2316, en2316⟩ : ∃ z : Int32, z = x4 + Int32.ofInt (5) := ⟨_, rfl⟩
              have h := h n2316 en2316
              refine gg_iinc (pc := 2316) cx 6 [(4, .int n2316), (6, .int r2078), (5, .int r2066), (0, .ref (gScB t)), (1, .ref (gAd t 8 o1)), (2, .ref (gAd t 9 o2)), (3, .ref (gAd t 59 o3))] dL_law_2316 rfl en2316.symm (by decide) rfl ?_
              refine gg_goto (pc := 2319) cx (tgt := 33) dL_law_2319 (by decide) ?_
              refine gg_lv (lv' := [(0, .ref (gScB t)), (1, .ref (gAd t 8 o1)), (2, .ref (gAd t 9 o2)), (3, .ref (gAd t 59 o3)), (4, .int n2316)]) [3, 4, 5, 6, 0] rfl ?_
              refine gg_wide (k' := k + 64) (n' := n + 512) (by (try simp only [rm_L_missed, rm_X9_missed, rm_X9_thrown]); omega) (by (try simp only [rm_L_missed, rm_X9_missed, rm_X9_thrown]); omega) ?_
              exact ih (k + 64) (n + 512) o1 o2 o3 n2316 M2084 (by omega) (by omega) v1 v2 v3 h
            · have h := g_if c2105 h
              refine gg_iconst (pc := 2109) cx (v := 0) dL_law_2109 (by decide) ?_
              exact gg_lawret (pc := 2110) cx hQ ha hB (by (try simp only [rm_L_missed, rm_X9_missed, rm_X9_thrown]); omega) (by (try simp only [rm_L_missed, rm_X9_missed, rm_X9_thrown]); omega) h dL_law_2110
        · have h := g_if c2089 h
          refine gg_iconst (pc := 2092) cx (v := 0) dL_law_2092 (by decide) ?_
          exact gg_lawret (pc := 2093) cx hQ ha hB (by (try simp only [rm_L_missed, rm_X9_missed, rm_X9_thrown]); omega) (by (try simp only [rm_L_missed, rm_X9_missed, rm_X9_thrown]); omega) h dL_law_2093
      have h := g_if c49_37 h
      by_cases c49_38 : ((gScX t x4.toNatClampNeg) &&& 63) = 38
      · have h := g_it c49_38 h
        refine gg_swv c49_38 ?_
        refine gg_tableIn (pc := 49) cx (off := 2065) (tgt := 2114) dL_law_49 (by decide) (by decide) rfl (by decide) ?_
        refine gg_aload_n (pc := 2114) cx 1 rfl dL_law_2114 rfl ?_
        refine gg_aload_n (pc := 2115) cx 0 rfl dL_law_2115 rfl ?_
        refine gg_iload (pc := 2116) cx 4 rfl dL_law_2116 ?_
        refine gg_iconst (pc := 2118) cx (v := 1) dL_law_2118 (by decide) ?_
        refine gg_iadd (pc := 2119) cx dL_law_2119 ?_
        have q2120 := h.1
        have h := h.2
        refine gg_sld (pc := 2120) cx q2120 dL_law_2120 ?_
        refine gg_aload_n (pc := 2121) cx 3 rfl dL_law_2121 rfl ?_
        refine gg_callSWi (pc := 2122) cx cal_L_share tw_1149 (ct_L_share cx.tr hC hM hO v1 v3 h) tw_1148 rfl (st := []) rfl (Nat.le_of_ble_eq_true rfl) ⟨Nat.le_of_ble_eq_true rfl, Nat.le_of_ble_eq_true rfl⟩ ⟨by show _ ≤ 601024; (try simp only [rm_L_share]); omega, by show _ ≤ 7293000; (try simp only [rm_L_share]); omega⟩ dL_law_2122 (fun r2122 M2122 h => ?_)
        refine gg_istore (pc := 2125) cx [(5, .int r2122), (0, .ref (gScB t)), (1, .ref (gAd t 8 o1)), (2, .ref (gAd t 9 o2)), (3, .ref (gAd t 59 o3)), (4, .int x4)] dL_law_2125 (by decide) rfl ?_
        refine gg_aload_n (pc := 2127) cx 3 rfl dL_law_2127 rfl ?_
        refine gg_aload_n (pc := 2128) cx 1 rfl dL_law_2128 rfl ?_
        refine gg_iload (pc := 2129) cx 5 rfl dL_law_2129 ?_
        refine gg_iconst (pc := 2131) cx (v := 1) dL_law_2131 (by decide) ?_
        refine gg_iadd (pc := 2132) cx dL_law_2132 ?_
        have q2133 := h.1
        have h := h.2
        refine gg_sld (pc := 2133) cx q2133 dL_law_2133 ?_
        refine gg_callVi (pc := 2134) cx cal_X9_share calv_X9_share (ct_X9_share cx.tr hM v2 h) tw_1650 (hM 9 _ rfl v2) rfl rfl rfl (st := []) rfl (Nat.le_of_ble_eq_true rfl) ⟨Nat.le_of_ble_eq_true rfl, Nat.le_of_ble_eq_true rfl⟩ ⟨by show _ ≤ 601024; (try simp only [rm_L_share, rm_X9_share]); omega, by show _ ≤ 7293000; (try simp only [rm_L_share, rm_X9_share]); omega⟩ dL_law_2134 (fun r2134 M2134 h => ?_)
        refine gg_istore (pc := 2137) cx [(6, .int r2134), (5, .int r2122), (0, .ref (gScB t)), (1, .ref (gAd t 8 o1)), (2, .ref (gAd t 9 o2)), (3, .ref (gAd t 59 o3)), (4, .int x4)] dL_law_2137 (by decide) rfl ?_
        refine gg_aload_n (pc := 2139) cx 4 rfl dL_law_2139 rfl ?_
        refine gg_callVi (pc := 2140) cx cal_X9_thrown calv_X9_thrown (ct_X9_thrown cx.tr hM v2 h) tw_1367 (hM 9 _ rfl v2) rfl rfl rfl (st := []) rfl (Nat.le_of_ble_eq_true rfl) ⟨Nat.le_of_ble_eq_true rfl, Nat.le_of_ble_eq_true rfl⟩ ⟨by show _ ≤ 601024; (try simp only [rm_L_share, rm_X9_share, rm_X9_thrown]); omega, by show _ ≤ 7293000; (try simp only [rm_L_share, rm_X9_share, rm_X9_thrown]); omega⟩ dL_law_2140 (fun r2140 M2140 h => ?_)
        refine gg_iload (pc := 2143) cx 1 rfl dL_law_2143 ?_
        refine gg_icmp_eq (pc := 2145) cx (tgt := 2150) dL_law_2145 (by decide) (fun c2145 => ?_) (fun c2145 => ?_)
        · have h := g_it c2145 h
          refine gg_iload (pc := 2150) cx 1 rfl dL_law_2150 ?_
          refine gg_if_ne (pc := 2152) cx (tgt := 2167) dL_law_2152 (by decide) (fun c2152 => ?_) (fun c2152 => ?_)
          · have h := g_if c2152 h
            refine gg_goto (pc := 2167) cx (tgt := 2316) dL_law_2167 (by decide) ?_
            obtain ⟨n2316, en2316⟩ : ∃ z : Int32, z = x4 + Int32.ofInt (5) := ⟨_, rfl⟩
            have h := h n2316 en2316
            refine gg_iinc (pc := 2316) cx 6 [(4, .int n2316), (6, .int r2134), (5, .int r2122), (0, .ref (gScB t)), (1, .ref (gAd t 8 o1)), (2, .ref (gAd t 9 o2)), (3, .ref (gAd t 59 o3))] dL_law_2316 rfl en2316.symm (by decide) rfl ?_
            refine gg_goto (pc := 2319) cx (tgt := 33) dL_law_2319 (by decide) ?_
            refine gg_lv (lv' := [(0, .ref (gScB t)), (1, .ref (gAd t 8 o1)), (2, .ref (gAd t 9 o2)), (3, .ref (gAd t 59 o3)), (4, .int n2316)]) [3, 4, 5, 6, 0] rfl ?_
            refine gg_wide (k' := k + 64) (n' := n + 512) (by (try simp only [rm_L_share, rm_X9_share, rm_X9_thrown]); omega) (by (try simp only [rm_L_share, rm_X9_share, rm_X9_thrown]); omega) ?_
            exact ih (k + 64) (n + 512) o1 o2 o3 n2316 M2140 (by omega) (by omega) v1 v2 v3 h
          · have h := g_it c2152 h
            refine gg_aload_n (pc := 2155) cx 5 rfl dL_law_2155 rfl ?_
            refine gg_iconst (pc := 2156) cx (v := 0) dL_law_2156 (by decide) ?_
            have q2157 := h.1
            have h := h.2
            refine gg_lald (pc := 2157) cx (hO 59 _ rfl v3) rfl q2157 dL_law_2157 ?_
            refine gg_iload (pc := 2158) cx 0 rfl dL_law_2158 ?_
            refine gg_i2l (pc := 2160) cx dL_law_2160 ?_
            refine gg_lcmp_eq (pc := 2161) cx (tgt := 2167) dL_law_2161 dL_law_2162 (by decide) (fun c2161 => ?_) (fun c2161 => ?_)
            · have h := g_it c2161 h
              refine gg_goto (pc := 2167) cx (tgt := 2316) dL_law_2167 (by decide) ?_
              obtain ⟨n2316, en2316⟩ : ∃ z : Int32, z = x4 + Int32.ofInt (5) := ⟨_, rfl⟩
              have h := h n2316 en2316
              refine gg_iinc (pc := 2316) cx 6 [(4, .int n2316), (6, .int r2134), (5, .int r2122), (0, .ref (gScB t)), (1, .ref (gAd t 8 o1)), (2, .ref (gAd t 9 o2)), (3, .ref (gAd t 59 o3))] dL_law_2316 rfl en2316.symm (by decide) rfl ?_
              refine gg_goto (pc := 2319) cx (tgt := 33) dL_law_2319 (by decide) ?_
              refine gg_lv (lv' := [(0, .ref (gScB t)), (1, .ref (gAd t 8 o1)), (2, .ref (gAd t 9 o2)), (3, .ref (gAd t 59 o3)), (4, .int n2316)]) [3, 4, 5, 6, 0] rfl ?_
              refine gg_wide (k' := k + 64) (n' := n + 512) (by (try simp only [rm_L_share, rm_X9_share, rm_X9_thrown]); omega) (by (try simp only [rm_L_share, rm_X9_share, rm_X9_thrown]); omega) ?_
              exact ih (k + 64) (n + 512) o1 o2 o3 n2316 M2140 (by omega) (by omega) v1 v2 v3 h
            · have h := g_if c2161 h
              refine gg_iconst (pc := 2165) cx (v := 0) dL_law_2165 (by decide) ?_
              exact gg_lawret (pc := 2166) cx hQ ha hB (by (try simp only [rm_L_share, rm_X9_share, rm_X9_thrown]); omega) (by (try simp only [rm_L_share, rm_X9_share, rm_X9_thrown]); omega) h dL_law_2166
        · have h := g_if c2145 h
          refine gg_iconst (pc := 2148) cx (v := 0) dL_law_2148 (by decide) ?_
          exact gg_lawret (pc := 2149) cx hQ ha hB (by (try simp only [rm_L_share, rm_X9_share, rm_X9_thrown]); omega) (by (try simp only [rm_L_share, rm_X9_share, rm_X9_thrown]); omega) h dL_law_2149
      have h := g_if c49_38 h
      by_cases c49_39 : ((gScX t x4.toNatClampNeg) &&& 63) = 39
      · have h := g_it c49_39 h
        refine gg_swv c49_39 ?_
        refine gg_tableIn (pc := 49) cx (off := 2121) (tgt := 2170) dL_law_49 (by decide) (by decide) rfl (by decide) ?_
        refine gg_aload_n (pc := 2170) cx 1 rfl dL_law_2170 rfl ?_
        refine gg_aload_n (pc := 2171) cx 3 rfl dL_law_2171 rfl ?_
        refine gg_callSWi (pc := 2172) cx cal_L_checkpoint tw_1161 (ct_L_checkpoint cx.tr hC hM hO v1 v3 h) tw_1160 rfl (st := []) rfl (Nat.le_of_ble_eq_true rfl) ⟨Nat.le_of_ble_eq_true rfl, Nat.le_of_ble_eq_true rfl⟩ ⟨by show _ ≤ 601024; (try simp only [rm_L_checkpoint]); omega, by show _ ≤ 7293000; (try simp only [rm_L_checkpoint]); omega⟩ dL_law_2172 (fun r2172 M2172 h => ?_)
        refine gg_istore (pc := 2175) cx [(5, .int r2172), (0, .ref (gScB t)), (1, .ref (gAd t 8 o1)), (2, .ref (gAd t 9 o2)), (3, .ref (gAd t 59 o3)), (4, .int x4)] dL_law_2175 (by decide) rfl ?_
        refine gg_aload_n (pc := 2177) cx 3 rfl dL_law_2177 rfl ?_
        refine gg_callVi (pc := 2178) cx cal_X9_checkpoint calv_X9_checkpoint (ct_X9_checkpoint cx.tr hM v2 h) tw_1654 (hM 9 _ rfl v2) rfl rfl rfl (st := []) rfl (Nat.le_of_ble_eq_true rfl) ⟨Nat.le_of_ble_eq_true rfl, Nat.le_of_ble_eq_true rfl⟩ ⟨by show _ ≤ 601024; (try simp only [rm_L_checkpoint, rm_X9_checkpoint]); omega, by show _ ≤ 7293000; (try simp only [rm_L_checkpoint, rm_X9_checkpoint]); omega⟩ dL_law_2178 (fun r2178 M2178 h => ?_)
        refine gg_istore (pc := 2181) cx [(6, .int r2178), (5, .int r2172), (0, .ref (gScB t)), (1, .ref (gAd t 8 o1)), (2, .ref (gAd t 9 o2)), (3, .ref (gAd t 59 o3)), (4, .int x4)] dL_law_2181 (by decide) rfl ?_
        refine gg_aload_n (pc := 2183) cx 4 rfl dL_law_2183 rfl ?_
        refine gg_callVi (pc := 2184) cx cal_X9_thrown calv_X9_thrown (ct_X9_thrown cx.tr hM v2 h) tw_1367 (hM 9 _ rfl v2) rfl rfl rfl (st := []) rfl (Nat.le_of_ble_eq_true rfl) ⟨Nat.le_of_ble_eq_true rfl, Nat.le_of_ble_eq_true rfl⟩ ⟨by show _ ≤ 601024; (try simp only [rm_L_checkpoint, rm_X9_checkpoint, rm_X9_thrown]); omega, by show _ ≤ 7293000; (try simp only [rm_L_checkpoint, rm_X9_checkpoint, rm_X9_thrown]); omega⟩ dL_law_2184 (fun r2184 M2184 h => ?_)
        refine gg_iload (pc := 2187) cx 1 rfl dL_law_2187 ?_
        refine gg_icmp_eq (pc := 2189) cx (tgt := 2194) dL_law_2189 (by decide) (fun c2189 => ?_) (fun c2189 => ?_)
        · have h := g_it c2189 h
          refine gg_iload (pc := 2194) cx 1 rfl dL_law_2194 ?_
          refine gg_if_ne (pc := 2196) cx (tgt := 2211) dL_law_2196 (by decide) (fun c2196 => ?_) (fun c2196 => ?_)
          · have h := g_if c2196 h
            refine gg_goto (pc := 2211) cx (tgt := 2316) dL_law_2211 (by decide) ?_
            obtain ⟨n2316, en2316⟩ : ∃ z : Int32, z = x4 + Int32.ofInt (5) := ⟨_, rfl⟩
            have h := h n2316 en2316
            refine gg_iinc (pc := 2316) cx 6 [(4, .int n2316), (6, .int r2178), (5, .int r2172), (0, .ref (gScB t)), (1, .ref (gAd t 8 o1)), (2, .ref (gAd t 9 o2)), (3, .ref (gAd t 59 o3))] dL_law_2316 rfl en2316.symm (by decide) rfl ?_
            refine gg_goto (pc := 2319) cx (tgt := 33) dL_law_2319 (by decide) ?_
            refine gg_lv (lv' := [(0, .ref (gScB t)), (1, .ref (gAd t 8 o1)), (2, .ref (gAd t 9 o2)), (3, .ref (gAd t 59 o3)), (4, .int n2316)]) [3, 4, 5, 6, 0] rfl ?_
            refine gg_wide (k' := k + 64) (n' := n + 512) (by (try simp only [rm_L_checkpoint, rm_X9_checkpoint, rm_X9_thrown]); omega) (by (try simp only [rm_L_checkpoint, rm_X9_checkpoint, rm_X9_thrown]); omega) ?_
            exact ih (k + 64) (n + 512) o1 o2 o3 n2316 M2184 (by omega) (by omega) v1 v2 v3 h
          · have h := g_it c2196 h
            refine gg_aload_n (pc := 2199) cx 5 rfl dL_law_2199 rfl ?_
            refine gg_iconst (pc := 2200) cx (v := 0) dL_law_2200 (by decide) ?_
            have q2201 := h.1
            have h := h.2
            refine gg_lald (pc := 2201) cx (hO 59 _ rfl v3) rfl q2201 dL_law_2201 ?_
            refine gg_iload (pc := 2202) cx 0 rfl dL_law_2202 ?_
            refine gg_i2l (pc := 2204) cx dL_law_2204 ?_
            refine gg_lcmp_eq (pc := 2205) cx (tgt := 2211) dL_law_2205 dL_law_2206 (by decide) (fun c2205 => ?_) (fun c2205 => ?_)
            · have h := g_it c2205 h
              refine gg_goto (pc := 2211) cx (tgt := 2316) dL_law_2211 (by decide) ?_
              obtain ⟨n2316, en2316⟩ : ∃ z : Int32, z = x4 + Int32.ofInt (5) := ⟨_, rfl⟩
              have h := h n2316 en2316
              refine gg_iinc (pc := 2316) cx 6 [(4, .int n2316), (6, .int r2178), (5, .int r2172), (0, .ref (gScB t)), (1, .ref (gAd t 8 o1)), (2, .ref (gAd t 9 o2)), (3, .ref (gAd t 59 o3))] dL_law_2316 rfl en2316.symm (by decide) rfl ?_
              refine gg_goto (pc := 2319) cx (tgt := 33) dL_law_2319 (by decide) ?_
              refine gg_lv (lv' := [(0, .ref (gScB t)), (1, .ref (gAd t 8 o1)), (2, .ref (gAd t 9 o2)), (3, .ref (gAd t 59 o3)), (4, .int n2316)]) [3, 4, 5, 6, 0] rfl ?_
              refine gg_wide (k' := k + 64) (n' := n + 512) (by (try simp only [rm_L_checkpoint, rm_X9_checkpoint, rm_X9_thrown]); omega) (by (try simp only [rm_L_checkpoint, rm_X9_checkpoint, rm_X9_thrown]); omega) ?_
              exact ih (k + 64) (n + 512) o1 o2 o3 n2316 M2184 (by omega) (by omega) v1 v2 v3 h
            · have h := g_if c2205 h
              refine gg_iconst (pc := 2209) cx (v := 0) dL_law_2209 (by decide) ?_
              exact gg_lawret (pc := 2210) cx hQ ha hB (by (try simp only [rm_L_checkpoint, rm_X9_checkpoint, rm_X9_thrown]); omega) (by (try simp only [rm_L_checkpoint, rm_X9_checkpoint, rm_X9_thrown]); omega) h dL_law_2210
        · have h := g_if c2189 h
          refine gg_iconst (pc := 2192) cx (v := 0) dL_law_2192 (by decide) ?_
          exact gg_lawret (pc := 2193) cx hQ ha hB (by (try simp only [rm_L_checkpoint, rm_X9_checkpoint, rm_X9_thrown]); omega) (by (try simp only [rm_L_checkpoint, rm_X9_checkpoint, rm_X9_thrown]); omega) h dL_law_2193
      have h := g_if c49_39 h
      by_cases c49_40 : ((gScX t x4.toNatClampNeg) &&& 63) = 40
      · have h := g_it c49_40 h
        refine gg_swv c49_40 ?_
        refine gg_tableIn (pc := 49) cx (off := 2165) (tgt := 2214) dL_law_49 (by decide) (by decide) rfl (by decide) ?_
        refine gg_aload_n (pc := 2214) cx 1 rfl dL_law_2214 rfl ?_
        refine gg_aload_n (pc := 2215) cx 3 rfl dL_law_2215 rfl ?_
        refine gg_callSWi (pc := 2216) cx cal_L_rollback tw_1169 (ct_L_rollback cx.tr hC hM hO v1 v3 h) tw_1168 rfl (st := []) rfl (Nat.le_of_ble_eq_true rfl) ⟨Nat.le_of_ble_eq_true rfl, Nat.le_of_ble_eq_true rfl⟩ ⟨by show _ ≤ 601024; (try simp only [rm_L_rollback]); omega, by show _ ≤ 7293000; (try simp only [rm_L_rollback]); omega⟩ dL_law_2216 (fun r2216 M2216 h => ?_)
        refine gg_istore (pc := 2219) cx [(5, .int r2216), (0, .ref (gScB t)), (1, .ref (gAd t 8 o1)), (2, .ref (gAd t 9 o2)), (3, .ref (gAd t 59 o3)), (4, .int x4)] dL_law_2219 (by decide) rfl ?_
        refine gg_aload_n (pc := 2221) cx 3 rfl dL_law_2221 rfl ?_
        refine gg_callVi (pc := 2222) cx cal_X9_rollback calv_X9_rollback (ct_X9_rollback cx.tr hM v2 h) tw_1658 (hM 9 _ rfl v2) rfl rfl rfl (st := []) rfl (Nat.le_of_ble_eq_true rfl) ⟨Nat.le_of_ble_eq_true rfl, Nat.le_of_ble_eq_true rfl⟩ ⟨by show _ ≤ 601024; (try simp only [rm_L_rollback, rm_X9_rollback]); omega, by show _ ≤ 7293000; (try simp only [rm_L_rollback, rm_X9_rollback]); omega⟩ dL_law_2222 (fun r2222 M2222 h => ?_)
        refine gg_istore (pc := 2225) cx [(6, .int r2222), (5, .int r2216), (0, .ref (gScB t)), (1, .ref (gAd t 8 o1)), (2, .ref (gAd t 9 o2)), (3, .ref (gAd t 59 o3)), (4, .int x4)] dL_law_2225 (by decide) rfl ?_
        refine gg_aload_n (pc := 2227) cx 4 rfl dL_law_2227 rfl ?_
        refine gg_callVi (pc := 2228) cx cal_X9_thrown calv_X9_thrown (ct_X9_thrown cx.tr hM v2 h) tw_1367 (hM 9 _ rfl v2) rfl rfl rfl (st := []) rfl (Nat.le_of_ble_eq_true rfl) ⟨Nat.le_of_ble_eq_true rfl, Nat.le_of_ble_eq_true rfl⟩ ⟨by show _ ≤ 601024; (try simp only [rm_L_rollback, rm_X9_rollback, rm_X9_thrown]); omega, by show _ ≤ 7293000; (try simp only [rm_L_rollback, rm_X9_rollback, rm_X9_thrown]); omega⟩ dL_law_2228 (fun r2228 M2228 h => ?_)
        refine gg_iload (pc := 2231) cx 1 rfl dL_law_2231 ?_
        refine gg_icmp_eq (pc := 2233) cx (tgt := 2238) dL_law_2233 (by decide) (fun c2233 => ?_) (fun c2233 => ?_)
        · have h := g_it c2233 h
          refine gg_iload (pc := 2238) cx 1 rfl dL_law_2238 ?_
          refine gg_if_ne (pc := 2240) cx (tgt := 2255) dL_law_2240 (by decide) (fun c2240 => ?_) (fun c2240 => ?_)
          · have h := g_if c2240 h
            refine gg_goto (pc := 2255) cx (tgt := 2316) dL_law_2255 (by decide) ?_
            obtain ⟨n2316, en2316⟩ : ∃ z : Int32, z = x4 + Int32.ofInt (5) := ⟨_, rfl⟩
            have h := h n2316 en2316
            refine gg_iinc (pc := 2316) cx 6 [(4, .int n2316), (6, .int r2222), (5, .int r2216), (0, .ref (gScB t)), (1, .ref (gAd t 8 o1)), (2, .ref (gAd t 9 o2)), (3, .ref (gAd t 59 o3))] dL_law_2316 rfl en2316.symm (by decide) rfl ?_
            refine gg_goto (pc := 2319) cx (tgt := 33) dL_law_2319 (by decide) ?_
            refine gg_lv (lv' := [(0, .ref (gScB t)), (1, .ref (gAd t 8 o1)), (2, .ref (gAd t 9 o2)), (3, .ref (gAd t 59 o3)), (4, .int n2316)]) [3, 4, 5, 6, 0] rfl ?_
            refine gg_wide (k' := k + 64) (n' := n + 512) (by (try simp only [rm_L_rollback, rm_X9_rollback, rm_X9_thrown]); omega) (by (try simp only [rm_L_rollback, rm_X9_rollback, rm_X9_thrown]); omega) ?_
            exact ih (k + 64) (n + 512) o1 o2 o3 n2316 M2228 (by omega) (by omega) v1 v2 v3 h
          · have h := g_it c2240 h
            refine gg_aload_n (pc := 2243) cx 5 rfl dL_law_2243 rfl ?_
            refine gg_iconst (pc := 2244) cx (v := 0) dL_law_2244 (by decide) ?_
            have q2245 := h.1
            have h := h.2
            refine gg_lald (pc := 2245) cx (hO 59 _ rfl v3) rfl q2245 dL_law_2245 ?_
            refine gg_iload (pc := 2246) cx 0 rfl dL_law_2246 ?_
            refine gg_i2l (pc := 2248) cx dL_law_2248 ?_
            refine gg_lcmp_eq (pc := 2249) cx (tgt := 2255) dL_law_2249 dL_law_2250 (by decide) (fun c2249 => ?_) (fun c2249 => ?_)
            · have h := g_it c2249 h
              refine gg_goto (pc := 2255) cx (tgt := 2316) dL_law_2255 (by decide) ?_
              obtain ⟨n2316, en2316⟩ : ∃ z : Int32, z = x4 + Int32.ofInt (5) := ⟨_, rfl⟩
              have h := h n2316 en2316
              refine gg_iinc (pc := 2316) cx 6 [(4, .int n2316), (6, .int r2222), (5, .int r2216), (0, .ref (gScB t)), (1, .ref (gAd t 8 o1)), (2, .ref (gAd t 9 o2)), (3, .ref (gAd t 59 o3))] dL_law_2316 rfl en2316.symm (by decide) rfl ?_
              refine gg_goto (pc := 2319) cx (tgt := 33) dL_law_2319 (by decide) ?_
              refine gg_lv (lv' := [(0, .ref (gScB t)), (1, .ref (gAd t 8 o1)), (2, .ref (gAd t 9 o2)), (3, .ref (gAd t 59 o3)), (4, .int n2316)]) [3, 4, 5, 6, 0] rfl ?_
              refine gg_wide (k' := k + 64) (n' := n + 512) (by (try simp only [rm_L_rollback, rm_X9_rollback, rm_X9_thrown]); omega) (by (try simp only [rm_L_rollback, rm_X9_rollback, rm_X9_thrown]); omega) ?_
              exact ih (k + 64) (n + 512) o1 o2 o3 n2316 M2228 (by omega) (by omega) v1 v2 v3 h
            · have h := g_if c2249 h
              refine gg_iconst (pc := 2253) cx (v := 0) dL_law_2253 (by decide) ?_
              exact gg_lawret (pc := 2254) cx hQ ha hB (by (try simp only [rm_L_rollback, rm_X9_rollback, rm_X9_thrown]); omega) (by (try simp only [rm_L_rollback, rm_X9_rollback, rm_X9_thrown]); omega) h dL_law_2254
        · have h := g_if c2233 h
          refine gg_iconst (pc := 2236) cx (v := 0) dL_law_2236 (by decide) ?_
          exact gg_lawret (pc := 2237) cx hQ ha hB (by (try simp only [rm_L_rollback, rm_X9_rollback, rm_X9_thrown]); omega) (by (try simp only [rm_L_rollback, rm_X9_rollback, rm_X9_thrown]); omega) h dL_law_2237
      have h := g_if c49_40 h
      by_cases c49_41 : ((gScX t x4.toNatClampNeg) &&& 63) = 41
      · have h := g_it c49_41 h
        refine gg_swv c49_41 ?_
        refine gg_tableIn (pc := 49) cx (off := 2209) (tgt := 2258) dL_law_49 (by decide) (by decide) rfl (by decide) ?_
        refine gg_aload_n (pc := 2258) cx 1 rfl dL_law_2258 rfl ?_
        refine gg_aload_n (pc := 2259) cx 3 rfl dL_law_2259 rfl ?_
        refine gg_callSWi (pc := 2260) cx cal_L_commit tw_1181 (ct_L_commit cx.tr hC hM hO v1 v3 h) tw_1180 rfl (st := []) rfl (Nat.le_of_ble_eq_true rfl) ⟨Nat.le_of_ble_eq_true rfl, Nat.le_of_ble_eq_true rfl⟩ ⟨by show _ ≤ 601024; (try simp only [rm_L_commit]); omega, by show _ ≤ 7293000; (try simp only [rm_L_commit]); omega⟩ dL_law_2260 (fun r2260 M2260 h => ?_)
        refine gg_istore (pc := 2263) cx [(5, .int r2260), (0, .ref (gScB t)), (1, .ref (gAd t 8 o1)), (2, .ref (gAd t 9 o2)), (3, .ref (gAd t 59 o3)), (4, .int x4)] dL_law_2263 (by decide) rfl ?_
        refine gg_aload_n (pc := 2265) cx 3 rfl dL_law_2265 rfl ?_
        refine gg_callVi (pc := 2266) cx cal_X9_commit calv_X9_commit (ct_X9_commit cx.tr hM v2 h) tw_1662 (hM 9 _ rfl v2) rfl rfl rfl (st := []) rfl (Nat.le_of_ble_eq_true rfl) ⟨Nat.le_of_ble_eq_true rfl, Nat.le_of_ble_eq_true rfl⟩ ⟨by show _ ≤ 601024; (try simp only [rm_L_commit, rm_X9_commit]); omega, by show _ ≤ 7293000; (try simp only [rm_L_commit, rm_X9_commit]); omega⟩ dL_law_2266 (fun r2266 M2266 h => ?_)
        refine gg_istore (pc := 2269) cx [(6, .int r2266), (5, .int r2260), (0, .ref (gScB t)), (1, .ref (gAd t 8 o1)), (2, .ref (gAd t 9 o2)), (3, .ref (gAd t 59 o3)), (4, .int x4)] dL_law_2269 (by decide) rfl ?_
        refine gg_aload_n (pc := 2271) cx 4 rfl dL_law_2271 rfl ?_
        refine gg_callVi (pc := 2272) cx cal_X9_thrown calv_X9_thrown (ct_X9_thrown cx.tr hM v2 h) tw_1367 (hM 9 _ rfl v2) rfl rfl rfl (st := []) rfl (Nat.le_of_ble_eq_true rfl) ⟨Nat.le_of_ble_eq_true rfl, Nat.le_of_ble_eq_true rfl⟩ ⟨by show _ ≤ 601024; (try simp only [rm_L_commit, rm_X9_commit, rm_X9_thrown]); omega, by show _ ≤ 7293000; (try simp only [rm_L_commit, rm_X9_commit, rm_X9_thrown]); omega⟩ dL_law_2272 (fun r2272 M2272 h => ?_)
        refine gg_iload (pc := 2275) cx 1 rfl dL_law_2275 ?_
        refine gg_icmp_eq (pc := 2277) cx (tgt := 2282) dL_law_2277 (by decide) (fun c2277 => ?_) (fun c2277 => ?_)
        · have h := g_it c2277 h
          refine gg_iload (pc := 2282) cx 1 rfl dL_law_2282 ?_
          refine gg_if_ne (pc := 2284) cx (tgt := 2299) dL_law_2284 (by decide) (fun c2284 => ?_) (fun c2284 => ?_)
          · have h := g_if c2284 h
            refine gg_goto (pc := 2299) cx (tgt := 2316) dL_law_2299 (by decide) ?_
            obtain ⟨n2316, en2316⟩ : ∃ z : Int32, z = x4 + Int32.ofInt (5) := ⟨_, rfl⟩
            have h := h n2316 en2316
            refine gg_iinc (pc := 2316) cx 6 [(4, .int n2316), (6, .int r2266), (5, .int r2260), (0, .ref (gScB t)), (1, .ref (gAd t 8 o1)), (2, .ref (gAd t 9 o2)), (3, .ref (gAd t 59 o3))] dL_law_2316 rfl en2316.symm (by decide) rfl ?_
            refine gg_goto (pc := 2319) cx (tgt := 33) dL_law_2319 (by decide) ?_
            refine gg_lv (lv' := [(0, .ref (gScB t)), (1, .ref (gAd t 8 o1)), (2, .ref (gAd t 9 o2)), (3, .ref (gAd t 59 o3)), (4, .int n2316)]) [3, 4, 5, 6, 0] rfl ?_
            refine gg_wide (k' := k + 64) (n' := n + 512) (by (try simp only [rm_L_commit, rm_X9_commit, rm_X9_thrown]); omega) (by (try simp only [rm_L_commit, rm_X9_commit, rm_X9_thrown]); omega) ?_
            exact ih (k + 64) (n + 512) o1 o2 o3 n2316 M2272 (by omega) (by omega) v1 v2 v3 h
          · have h := g_it c2284 h
            refine gg_aload_n (pc := 2287) cx 5 rfl dL_law_2287 rfl ?_
            refine gg_iconst (pc := 2288) cx (v := 0) dL_law_2288 (by decide) ?_
            have q2289 := h.1
            have h := h.2
            refine gg_lald (pc := 2289) cx (hO 59 _ rfl v3) rfl q2289 dL_law_2289 ?_
            refine gg_iload (pc := 2290) cx 0 rfl dL_law_2290 ?_
            refine gg_i2l (pc := 2292) cx dL_law_2292 ?_
            refine gg_lcmp_eq (pc := 2293) cx (tgt := 2299) dL_law_2293 dL_law_2294 (by decide) (fun c2293 => ?_) (fun c2293 => ?_)
            · have h := g_it c2293 h
              refine gg_goto (pc := 2299) cx (tgt := 2316) dL_law_2299 (by decide) ?_
              obtain ⟨n2316, en2316⟩ : ∃ z : Int32, z = x4 + Int32.ofInt (5) := ⟨_, rfl⟩
              have h := h n2316 en2316
              refine gg_iinc (pc := 2316) cx 6 [(4, .int n2316), (6, .int r2266), (5, .int r2260), (0, .ref (gScB t)), (1, .ref (gAd t 8 o1)), (2, .ref (gAd t 9 o2)), (3, .ref (gAd t 59 o3))] dL_law_2316 rfl en2316.symm (by decide) rfl ?_
              refine gg_goto (pc := 2319) cx (tgt := 33) dL_law_2319 (by decide) ?_
              refine gg_lv (lv' := [(0, .ref (gScB t)), (1, .ref (gAd t 8 o1)), (2, .ref (gAd t 9 o2)), (3, .ref (gAd t 59 o3)), (4, .int n2316)]) [3, 4, 5, 6, 0] rfl ?_
              refine gg_wide (k' := k + 64) (n' := n + 512) (by (try simp only [rm_L_commit, rm_X9_commit, rm_X9_thrown]); omega) (by (try simp only [rm_L_commit, rm_X9_commit, rm_X9_thrown]); omega) ?_
              exact ih (k + 64) (n + 512) o1 o2 o3 n2316 M2272 (by omega) (by omega) v1 v2 v3 h
            · have h := g_if c2293 h
              refine gg_iconst (pc := 2297) cx (v := 0) dL_law_2297 (by decide) ?_
              exact gg_lawret (pc := 2298) cx hQ ha hB (by (try simp only [rm_L_commit, rm_X9_commit, rm_X9_thrown]); omega) (by (try simp only [rm_L_commit, rm_X9_commit, rm_X9_thrown]); omega) h dL_law_2298
        · have h := g_if c2277 h
          refine gg_iconst (pc := 2280) cx (v := 0) dL_law_2280 (by decide) ?_
          exact gg_lawret (pc := 2281) cx hQ ha hB (by (try simp only [rm_L_commit, rm_X9_commit, rm_X9_thrown]); omega) (by (try simp only [rm_L_commit, rm_X9_commit, rm_X9_thrown]); omega) h dL_law_2281
      have h := g_if c49_41 h
      by_cases c49_42 : ((gScX t x4.toNatClampNeg) &&& 63) = 42
      · have h := g_it c49_42 h
        refine gg_swv c49_42 ?_
        refine gg_tableIn (pc := 49) cx (off := 2253) (tgt := 2302) dL_law_49 (by decide) (by decide) rfl (by decide) ?_
        refine gg_aload_n (pc := 2302) cx 1 rfl dL_law_2302 rfl ?_
        refine gg_callVl (pc := 2303) cx cal_X8_fingerprint calv_X8_fingerprint (ct_X8_fingerprint cx.tr hC v1 h) tw_745 (hC 8 _ rfl v1) rfl rfl rfl (st := []) rfl (Nat.le_of_ble_eq_true rfl) ⟨Nat.le_of_ble_eq_true rfl, Nat.le_of_ble_eq_true rfl⟩ ⟨by show _ ≤ 601024; (try simp only [rm_X8_fingerprint]); omega, by show _ ≤ 7293000; (try simp only [rm_X8_fingerprint]); omega⟩ dL_law_2303 (fun r2303 M2303 h => ?_)
        refine gg_aload_n (pc := 2306) cx 2 rfl dL_law_2306 rfl ?_
        refine gg_callVl (pc := 2307) cx cal_X9_fingerprint calv_X9_fingerprint (ct_X9_fingerprint cx.tr hM v2 h) tw_1666 (hM 9 _ rfl v2) rfl rfl rfl (st := [.long r2303]) rfl (Nat.le_of_ble_eq_true rfl) ⟨Nat.le_of_ble_eq_true rfl, Nat.le_of_ble_eq_true rfl⟩ ⟨by show _ ≤ 601024; (try simp only [rm_X8_fingerprint, rm_X9_fingerprint]); omega, by show _ ≤ 7293000; (try simp only [rm_X8_fingerprint, rm_X9_fingerprint]); omega⟩ dL_law_2307 (fun r2307 M2307 h => ?_)
        refine gg_lcmp_eq (pc := 2310) cx (tgt := 2316) dL_law_2310 dL_law_2311 (by decide) (fun c2310 => ?_) (fun c2310 => ?_)
        · have h := g_it c2310 h
          obtain ⟨n2316, en2316⟩ : ∃ z : Int32, z = x4 + Int32.ofInt (5) := ⟨_, rfl⟩
          have h := h n2316 en2316
          refine gg_iinc (pc := 2316) cx 4 [(4, .int n2316), (0, .ref (gScB t)), (1, .ref (gAd t 8 o1)), (2, .ref (gAd t 9 o2)), (3, .ref (gAd t 59 o3))] dL_law_2316 rfl en2316.symm (by decide) rfl ?_
          refine gg_goto (pc := 2319) cx (tgt := 33) dL_law_2319 (by decide) ?_
          refine gg_lv (lv' := [(0, .ref (gScB t)), (1, .ref (gAd t 8 o1)), (2, .ref (gAd t 9 o2)), (3, .ref (gAd t 59 o3)), (4, .int n2316)]) [1, 2, 3, 4, 0] rfl ?_
          refine gg_wide (k' := k + 64) (n' := n + 512) (by (try simp only [rm_X8_fingerprint, rm_X9_fingerprint]); omega) (by (try simp only [rm_X8_fingerprint, rm_X9_fingerprint]); omega) ?_
          exact ih (k + 64) (n + 512) o1 o2 o3 n2316 M2307 (by omega) (by omega) v1 v2 v3 h
        · have h := g_if c2310 h
          refine gg_iconst (pc := 2314) cx (v := 0) dL_law_2314 (by decide) ?_
          exact gg_lawret (pc := 2315) cx hQ ha hB (by (try simp only [rm_X8_fingerprint, rm_X9_fingerprint]); omega) (by (try simp only [rm_X8_fingerprint, rm_X9_fingerprint]); omega) h dL_law_2315
      have h := g_if c49_42 h
      refine gg_tableOut (pc := 49) cx (tgt := 2316) dL_law_49 (g_tout_L_law c49_0 c49_1 c49_2 c49_3 c49_4 c49_5 c49_6 c49_7 c49_8 c49_9 c49_10 c49_11 c49_12 c49_13 c49_14 c49_15 c49_16 c49_17 c49_18 c49_19 c49_20 c49_21 c49_22 c49_23 c49_24 c49_25 c49_26 c49_27 c49_28 c49_29 c49_30 c49_31 c49_32 c49_33 c49_34 c49_35 c49_36 c49_37 c49_38 c49_39 c49_40 c49_41 c49_42) (by decide) ?_
      obtain ⟨n2316, en2316⟩ : ∃ z : Int32, z = x4 + Int32.ofInt (5) := ⟨_, rfl⟩
      have h := h n2316 en2316
      refine gg_iinc (pc := 2316) cx 4 [(4, .int n2316), (0, .ref (gScB t)), (1, .ref (gAd t 8 o1)), (2, .ref (gAd t 9 o2)), (3, .ref (gAd t 59 o3))] dL_law_2316 rfl en2316.symm (by decide) rfl ?_
      refine gg_goto (pc := 2319) cx (tgt := 33) dL_law_2319 (by decide) ?_
      refine gg_lv (lv' := [(0, .ref (gScB t)), (1, .ref (gAd t 8 o1)), (2, .ref (gAd t 9 o2)), (3, .ref (gAd t 59 o3)), (4, .int n2316)]) [1, 2, 3, 4, 0] rfl ?_
      refine gg_wide (k' := k + 64) (n' := n + 512) (by (try simp only [Nat.add_zero]); omega) (by (try simp only [Nat.add_zero]); omega) ?_
      exact ih (k + 64) (n + 512) o1 o2 o3 n2316 M (by omega) (by omega) v1 v2 v3 h
