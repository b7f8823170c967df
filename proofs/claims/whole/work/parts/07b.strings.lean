section GS
variable {t : gT} {R : Room} {X : gX} {nL k n : Nat} {M : gM} {lv : List (Nat × Value)} {st : List Value} {pc : Nat} {cc : ByteArray} {own : String} {ret : Option FieldType}
theorem g_vS (cx : g_Cx t X cc nL own ret) {i : Nat} (hi : i < g_nS) : va_OF "java/lang/String" "coder" "B" (.int 0) (gSK t i) (g_A t) (gXs X) (gXs X).heap ∧ va_OF "java/lang/String" "value" "[B" (.ref (gSV t i)) (gSK t i) (g_A t) (gXs X) (gXs X).heap ∧ va_T .byte (gSV t i) (g_sLen.getD i 0) (fun j => .int ((g_sByt.getD i []).getD j 0)) (g_A t) (gXs X) (gXs X).heap := (cx.S.2.1 i hi).2
theorem gg_sval (cx : g_Cx t X cc nL own ret) {i ix : Nat} (hi : i < g_nS) (hl : Cond.fieldLink own ix "java/lang/String" "value" "[B" ∈ WL) (d : decode cc pc = .ok (.getfield ix, 3)) (kk : G t R X nL k n M lv (.ref (gSV t i) :: st) (pc + 3)) : G t R X nL k n M lv (.ref (gSK t i) :: st) pc := fun H locs ls a b c => vk_getf cx.x cx.b (g_vS cx hi).2.1 b cx.ow (cx.ts _ hl) (fun _ h => h) d (kk H locs ls a b c)
theorem gg_scod (cx : g_Cx t X cc nL own ret) {i ix : Nat} (hi : i < g_nS) (hl : Cond.fieldLink own ix "java/lang/String" "coder" "B" ∈ WL) (d : decode cc pc = .ok (.getfield ix, 3)) (kk : G t R X nL k n M lv (.int 0 :: st) (pc + 3)) : G t R X nL k n M lv (.ref (gSK t i) :: st) pc := fun H locs ls a b c => vk_getf cx.x cx.b (g_vS cx hi).1 b cx.ow (cx.ts _ hl) (fun _ h => h) d (kk H locs ls a b c)
theorem gg_scmp (cx : g_Cx t X cc nL own ret) {ix : Nat} (hl : Cond.fieldLink own ix "java/lang/String" "COMPACT_STRINGS" "Z" ∈ WL) (d : decode cc pc = .ok (.getstatic ix, 3)) (kk : G t R X nL k n M lv (.int 1 :: st) (pc + 3)) : G t R X nL k n M lv st pc := fun H locs ls a b c => va_gets cx.x cx.b cx.S.2.2.2.2.1 b cx.ow (cx.ts _ hl) (fun _ h => h) d (kk H locs ls a b c)
theorem gg_sfmt (cx : g_Cx t X cc nL own ret) {ix : Nat} (hl : Cond.fieldLink own ix "jdk/internal/util/Preconditions" "SIOOBE_FORMATTER" "Ljava/util/function/BiFunction;" ∈ WL) (d : decode cc pc = .ok (.getstatic ix, 3)) (kk : ∀ v : Value, (v = .null ∨ ∃ q : Nat, v = .ref q) → G t R X nL k n M lv (v :: st) (pc + 3)) : G t R X nL k n M lv st pc := fun H locs ls a b c => by
  rcases cx.S.2.2.2.2.2.1 with h | ⟨q, h⟩
  · exact va_gets cx.x cx.b h b cx.ow (cx.ts _ hl) (fun _ h => h) d (kk .null (Or.inl rfl) H locs ls a b c)
  · exact va_gets cx.x cx.b h b cx.ow (cx.ts _ hl) (fun _ h => h) d (kk (.ref q) (Or.inr ⟨q, rfl⟩) H locs ls a b c)
theorem gg_blen (cx : g_Cx t X cc nL own ret) {i : Nat} (hi : i < g_nS) (d : decode cc pc = .ok (.arraylength, 1)) (kk : G t R X nL k n M lv (.int (nI (g_sLen.getD i 0)) :: st) (pc + 1)) : G t R X nL k n M lv (.ref (gSV t i) :: st) pc := fun H locs ls a b c => va_tlen cx.x cx.b (g_vS cx hi).2.2 b rfl d (kk H locs ls a b c)
theorem gg_bald (cx : g_Cx t X cc nL own ret) {i : Nat} {x : Int32} (hi : i < g_nS) (hx : vp_in x (g_sLen.getD i 0)) (d : decode cc pc = .ok (.baload, 1)) (kk : G t R X nL k n M lv (.int (g_sCh i x.toNatClampNeg) :: st) (pc + 1)) : G t R X nL k n M lv (.int x :: .ref (gSV t i) :: st) pc := fun H locs ls a b c => va_tb cx.x cx.b (g_vS cx hi).2.2 b hx rfl d (kk H locs ls a b c)
theorem gg_ishr (cx : g_Cx t X cc nL own ret) {x y : Int32} (d : decode cc pc = .ok (.ishr, 1)) (kk : G t R X nL k n M lv (.int (x >>> (y &&& 31)) :: st) (pc + 1)) : G t R X nL k n M lv (.int y :: .int x :: st) pc := fun H locs ls a b c => lv_ishr cx.x cx.b d (kk H locs ls a b c)
theorem gg_i2b (cx : g_Cx t X cc nL own ret) {x : Int32} (d : decode cc pc = .ok (.i2b, 1)) (kk : G t R X nL k n M lv (.int x.toInt8.toInt32 :: st) (pc + 1)) : G t R X nL k n M lv (.int x :: st) pc := fun H locs ls a b c => lv_i2b cx.x cx.b d rfl (kk H locs ls a b c)
theorem gg_callTi (cx : g_Cx t X cc nL own ret) {y : MethodName} {bytes : ByteArray} {maxL nA ix i : Nat} {rt : Option FieldType} {rm : Room} {As st0 : List Value} {K : Int32 → gM → Prop} (hyc : y.cls = "java/lang/String") (hy : g_Cal y bytes maxL rt nA) (hv : g_CalV y) (hM : Met (gXl X) y (g_y y bytes maxL rt) rm (va_Pc (.ref (gSK t i) :: As) (g_Pre t M)) (va_Qi K (g_B t) (g_A t)) rm.cells rm.slots (g_A t))
    (hl : Cond.methodLink own ix y ∈ WL) (hi : i < g_nS) (hn : As.length = nA) (hst : st0 = As.reverse ++ .ref (gSK t i) :: st) (hsm : (st.map fun v => v.category).sum ≤ 8) (hR : rm.frames + 1 ≤ R.frames ∧ 8 + (maxL + 11) + rm.locals ≤ R.locals) (hf : k + rm.cells ≤ R.cells ∧ n + rm.slots ≤ R.slots) (d : decode cc pc = .ok (.invokevirtual ix, 3))
    (kk : ∀ (r : Int32) (M' : gM), K r M' → G t R X nL (k + rm.cells) (n + rm.slots) M' lv (.int r :: st) (pc + 3)) : G t R X nL k n M lv st0 pc := fun H locs ls a b c => by
  subst hst
  have hpre : PreV (gXs X) H y.cls (gSK t i) (va_Pc (.ref (gSK t i) :: As) (g_Pre t M)) As := ⟨g_blind, by
    rw [hyc]
    obtain ⟨cell, h1, h2, h3, -⟩ := (cx.S.2.1 i hi).1.kept b.2.1
    exact ⟨cell, h1, h2, h3⟩, fun U hU hW => ⟨rfl, cx.T.warm hW, by rw [hU]; exact a.moved hW.alike⟩⟩
  have hrun := va_runV (H := H) (locs := locs) (cells := k) (slots := n) (e := gXe X) (below := gXb X) (meth := gXt X) (As := As) (rest := st) (g := F0 (gXm X) pc ls (As.reverse ++ .ref (gSK t i) :: st)) ⟨cx.x, cx.b, cx.ml, cx.ow, cx.ts⟩ hM (g_cwV cx.ts hy hv hl hR) hpre rfl hn c.1 rfl (lv_room hsm) d hf
  refine va_calli hrun b (fun _ _ h => h) (fun _ h => h) (fun r u tt H1 locs1 ht hvm hp hB hz1 hk1 hS => ?_)
  exact kk r u hp H1 locs1 ls ⟨by rw [← ht]; exact hB.1, hB.2.1, cx.SH hS⟩ hS c
end GS
/-- every text: its length, and each sign is a small one -/
theorem g_sOk : ∀ i, i < g_nS → g_sLen.getD i 0 = (g_sByt.getD i []).length ∧ g_sLen.getD i 0 < 200 ∧ ∀ b ∈ g_sByt.getD i [], ((b &&& 255).toUInt32 % 65536).toInt32 = b ∧ narrow .char (.int b) = .int b ∧ b.toInt8.toInt32 = b := by decide +kernel
theorem g_getD_mem (l : List Int32) (j : Nat) (h : j < l.length) : l.getD j 0 ∈ l := by
  rw [List.getD_eq_getElem?_getD, List.getElem?_eq_getElem h]
  exact List.getElem_mem h
theorem g_sCh_in {i j : Nat} (hi : i < g_nS) (hj : j < g_sLen.getD i 0) : g_sCh i j ∈ g_sByt.getD i [] :=
  g_getD_mem _ j (by have h := (g_sOk i hi).1; omega)
theorem cal_J3_checkIndex_8e157 : g_Cal yJ3_checkIndex_8e157 cJ3_checkIndex_8e157 3 (some .int) 3 := ⟨tw_12, tw_370, by decide, by decide, by decide +kernel⟩
def rm_J3_checkIndex_8e157 : Room := { frames := 1, cells := 0, slots := 0, locals := 60 }
set_option maxRecDepth 100000 in
set_option maxHeartbeats 4000000 in
theorem ct_J3_checkIndex_8e157 {l : Launch} (hl : l.stackTraces = false) {t : gT} {x y : Int32} {v : Value} (hv : v = .null ∨ ∃ q : Nat, v = .ref q) {M : gM} {K : Int32 → gM → Prop} (h0 : ¬ x < 0) (h1 : x < y) (h : K x M) : Met l yJ3_checkIndex_8e157 (g_y yJ3_checkIndex_8e157 cJ3_checkIndex_8e157 3 (some .int)) rm_J3_checkIndex_8e157 (va_Pc [.int x, .int y, v] (g_Pre t M)) (va_Qi K (g_B t) (g_A t)) rm_J3_checkIndex_8e157.cells rm_J3_checkIndex_8e157.slots (g_A t) := by
  refine g_met hl rfl (by rcases hv with rfl | ⟨q, rfl⟩ <;> exact Nat.le_of_ble_eq_true rfl) (fun X hlX cx hQ => ?_)
  subst hlX
  refine gg_iload_n (pc := 0) cx 0 rfl dJ3_checkIndex_8e157_0 rfl ?_
  refine gg_if_lt (pc := 1) cx (tgt := 9) dJ3_checkIndex_8e157_1 (by decide) (fun c1 => absurd c1 h0) (fun c1 => ?_)
  refine gg_iload_n (pc := 4) cx 0 rfl dJ3_checkIndex_8e157_4 rfl ?_
  refine gg_iload_n (pc := 5) cx 1 rfl dJ3_checkIndex_8e157_5 rfl ?_
  refine gg_icmp_lt (pc := 6) cx (tgt := 16) dJ3_checkIndex_8e157_6 (by decide) (fun c6 => ?_) (fun c6 => absurd h1 c6)
  refine gg_iload_n (pc := 16) cx 0 rfl dJ3_checkIndex_8e157_16 rfl ?_
  exact gg_iret (pc := 17) cx hQ h dJ3_checkIndex_8e157_17
theorem cal_J0_checkIndex_df160 : g_Cal yJ0_checkIndex_df160 cJ0_checkIndex_df160 2 (none) 2 := ⟨tw_10, tw_365, by decide, by decide, by decide +kernel⟩
def rm_J0_checkIndex_df160 : Room := { frames := 2, cells := 0, slots := 0, locals := 100 }
set_option maxRecDepth 100000 in
set_option maxHeartbeats 4000000 in
theorem ct_J0_checkIndex_df160 {l : Launch} (hl : l.stackTraces = false) {t : gT} {x y : Int32} {M : gM} {K : gM → Prop} (h0 : ¬ x < 0) (h1 : x < y) (h : K M) : Met l yJ0_checkIndex_df160 (g_y yJ0_checkIndex_df160 cJ0_checkIndex_df160 2 (none)) rm_J0_checkIndex_df160 (va_Pc [.int x, .int y] (g_Pre t M)) (va_Qv K (g_B t) (g_A t)) rm_J0_checkIndex_df160.cells rm_J0_checkIndex_df160.slots (g_A t) := by
  refine g_met hl rfl (Nat.le_of_ble_eq_true rfl) (fun X hlX cx hQ => ?_)
  subst hlX
  refine gg_iload_n (pc := 0) cx 0 rfl dJ0_checkIndex_df160_0 rfl ?_
  refine gg_iload_n (pc := 1) cx 1 rfl dJ0_checkIndex_df160_1 rfl ?_
  refine gg_sfmt (pc := 2) cx tw_366 dJ0_checkIndex_df160_2 (fun v hv => ?_)
  refine gg_callSi (pc := 5) cx cal_J3_checkIndex_8e157 tw_369 (ct_J3_checkIndex_8e157 (K := fun _ M => K M) cx.tr hv h0 h1 h) tw_368 rfl (st := []) rfl (Nat.le_of_ble_eq_true rfl) ⟨Nat.le_of_ble_eq_true rfl, Nat.le_of_ble_eq_true rfl⟩ ⟨Nat.le_of_ble_eq_true rfl, Nat.le_of_ble_eq_true rfl⟩ dJ0_checkIndex_df160_5 (fun r M h => ?_)
  refine gg_pop (pc := 8) cx dJ0_checkIndex_df160_8 rfl ?_
  exact gg_vret (pc := 9) cx hQ h dJ0_checkIndex_df160_9
theorem cal_J0_coder_7d493 : g_Cal yJ0_coder_7d493 cJ0_coder_7d493 1 (some .byte) 0 := ⟨tw_10, tw_349, by decide, by decide, by decide +kernel⟩
theorem calv_J0_coder_7d493 : g_CalV yJ0_coder_7d493 := ⟨tw_347, tw_348⟩
def rm_J0_coder_7d493 : Room := { frames := 1, cells := 0, slots := 0, locals := 60 }
set_option maxRecDepth 100000 in
set_option maxHeartbeats 4000000 in
theorem ct_J0_coder_7d493 {l : Launch} (hl : l.stackTraces = false) {t : gT} {i : Nat} (hi : i < g_nS) {M : gM} {K : Int32 → gM → Prop} (h : K 0 M) : Met l yJ0_coder_7d493 (g_y yJ0_coder_7d493 cJ0_coder_7d493 1 (some .byte)) rm_J0_coder_7d493 (va_Pc [.ref (gSK t i)] (g_Pre t M)) (va_Qi K (g_B t) (g_A t)) rm_J0_coder_7d493.cells rm_J0_coder_7d493.slots (g_A t) := by
  refine g_met hl rfl (Nat.le_of_ble_eq_true rfl) (fun X hlX cx hQ => ?_)
  subst hlX
  refine gg_scmp (pc := 0) cx tw_350 dJ0_coder_7d493_0 ?_
  refine gg_if_eq (pc := 3) cx (tgt := 13) dJ0_coder_7d493_3 (by decide) (fun c => absurd c (by decide)) (fun _ => ?_)
  refine gg_aload_n (pc := 6) cx 0 rfl dJ0_coder_7d493_6 rfl ?_
  refine gg_scod (pc := 7) cx hi tw_1674 dJ0_coder_7d493_7 ?_
  refine gg_goto (pc := 10) cx (tgt := 14) dJ0_coder_7d493_10 (by decide) ?_
  exact gg_zret (pc := 14) cx hQ rfl h dJ0_coder_7d493_14
theorem cal_J0_isLatin1_aae02 : g_Cal yJ0_isLatin1_aae02 cJ0_isLatin1_aae02 1 (some .boolean) 0 := ⟨tw_10, tw_359, by decide, by decide, by decide +kernel⟩
theorem calv_J0_isLatin1_aae02 : g_CalV yJ0_isLatin1_aae02 := ⟨tw_357, tw_358⟩
def rm_J0_isLatin1_aae02 : Room := { frames := 1, cells := 0, slots := 0, locals := 60 }
set_option maxRecDepth 100000 in
set_option maxHeartbeats 4000000 in
theorem ct_J0_isLatin1_aae02 {l : Launch} (hl : l.stackTraces = false) {t : gT} {i : Nat} (hi : i < g_nS) {M : gM} {K : Int32 → gM → Prop} (h : K 1 M) : Met l yJ0_isLatin1_aae02 (g_y yJ0_isLatin1_aae02 cJ0_isLatin1_aae02 1 (some .boolean)) rm_J0_isLatin1_aae02 (va_Pc [.ref (gSK t i)] (g_Pre t M)) (va_Qi K (g_B t) (g_A t)) rm_J0_isLatin1_aae02.cells rm_J0_isLatin1_aae02.slots (g_A t) := by
  refine g_met hl rfl (Nat.le_of_ble_eq_true rfl) (fun X hlX cx hQ => ?_)
  subst hlX
  refine gg_scmp (pc := 0) cx tw_350 dJ0_isLatin1_aae02_0 ?_
  refine gg_if_eq (pc := 3) cx (tgt := 17) dJ0_isLatin1_aae02_3 (by decide) (fun c => absurd c (by decide)) (fun _ => ?_)
  refine gg_aload_n (pc := 6) cx 0 rfl dJ0_isLatin1_aae02_6 rfl ?_
  refine gg_scod (pc := 7) cx hi tw_1674 dJ0_isLatin1_aae02_7 ?_
  refine gg_if_ne (pc := 10) cx (tgt := 17) dJ0_isLatin1_aae02_10 (by decide) (fun c => absurd rfl c) (fun _ => ?_)
  refine gg_iconst (pc := 13) cx (v := 1) dJ0_isLatin1_aae02_13 (by decide) ?_
  refine gg_goto (pc := 14) cx (tgt := 18) dJ0_isLatin1_aae02_14 (by decide) ?_
  exact gg_zret (pc := 18) cx hQ rfl h dJ0_isLatin1_aae02_18
theorem cal_J0_length_8abf5 : g_Cal yJ0_length_8abf5 cJ0_length_8abf5 1 (some .int) 0 := ⟨tw_10, tw_345, by decide, by decide, by decide +kernel⟩
theorem calv_J0_length_8abf5 : g_CalV yJ0_length_8abf5 := ⟨tw_343, tw_344⟩
theorem g_shr0 {n : Nat} (h : n < 2 ^ 31) : nI n >>> ((0 : Int32) &&& 31) = nI n := by
  have h1 := pk_shrN h ((0 : Int32) &&& 31) 0 (by decide)
  rw [h1]; simp
def rm_J0_length_8abf5 : Room := { frames := 2, cells := 0, slots := 0, locals := 90 }
set_option maxRecDepth 100000 in
set_option maxHeartbeats 4000000 in
theorem ct_J0_length_8abf5 {l : Launch} (hl : l.stackTraces = false) {t : gT} {i : Nat} (hi : i < g_nS) {M : gM} {K : Int32 → gM → Prop} (h : K (nI (g_sLen.getD i 0)) M) : Met l yJ0_length_8abf5 (g_y yJ0_length_8abf5 cJ0_length_8abf5 1 (some .int)) rm_J0_length_8abf5 (va_Pc [.ref (gSK t i)] (g_Pre t M)) (va_Qi K (g_B t) (g_A t)) rm_J0_length_8abf5.cells rm_J0_length_8abf5.slots (g_A t) := by
  refine g_met hl rfl (Nat.le_of_ble_eq_true rfl) (fun X hlX cx hQ => ?_)
  subst hlX
  refine gg_aload_n (pc := 0) cx 0 rfl dJ0_length_8abf5_0 rfl ?_
  refine gg_sval (pc := 1) cx hi tw_1673 dJ0_length_8abf5_1 ?_
  refine gg_blen (pc := 4) cx hi dJ0_length_8abf5_4 ?_
  refine gg_aload_n (pc := 5) cx 0 rfl dJ0_length_8abf5_5 rfl ?_
  refine gg_callTi (pc := 6) cx rfl cal_J0_coder_7d493 calv_J0_coder_7d493 (ct_J0_coder_7d493 (K := fun r M => r = 0 ∧ K (nI (g_sLen.getD i 0)) M) cx.tr hi ⟨rfl, h⟩) tw_346 hi rfl (st := [.int (nI (g_sLen.getD i 0))]) rfl (Nat.le_of_ble_eq_true rfl) ⟨Nat.le_of_ble_eq_true rfl, Nat.le_of_ble_eq_true rfl⟩ ⟨Nat.le_of_ble_eq_true rfl, Nat.le_of_ble_eq_true rfl⟩ dJ0_length_8abf5_6 (fun r M h => ?_)
  obtain ⟨rfl, h⟩ := h
  refine gg_ishr (pc := 9) cx dJ0_length_8abf5_9 ?_
  rw [g_shr0 (Nat.lt_trans (g_sOk i hi).2.1 (by decide))]
  exact gg_iret (pc := 10) cx hQ h dJ0_length_8abf5_10
theorem cal_J1_charAt_3b067 : g_Cal yJ1_charAt_3b067 cJ1_charAt_3b067 2 (some .char) 2 := ⟨tw_11, tw_362, by decide, by decide, by decide +kernel⟩
def rm_J1_charAt_3b067 : Room := { frames := 3, cells := 0, slots := 0, locals := 140 }
set_option maxRecDepth 100000 in
set_option maxHeartbeats 4000000 in
theorem ct_J1_charAt_3b067 {l : Launch} (hl : l.stackTraces = false) {t : gT} {i : Nat} {x : Int32} (hi : i < g_nS) (hx : vp_in x (g_sLen.getD i 0)) {M : gM} {K : Int32 → gM → Prop} (h : K (g_sCh i x.toNatClampNeg) M) : Met l yJ1_charAt_3b067 (g_y yJ1_charAt_3b067 cJ1_charAt_3b067 2 (some .char)) rm_J1_charAt_3b067 (va_Pc [.ref (gSV t i), .int x] (g_Pre t M)) (va_Qi K (g_B t) (g_A t)) rm_J1_charAt_3b067.cells rm_J1_charAt_3b067.slots (g_A t) := by
  refine g_met hl rfl (Nat.le_of_ble_eq_true rfl) (fun X hlX cx hQ => ?_)
  subst hlX
  have hx0 : ¬ x < 0 := fun q => hx (Or.inl q)
  have hx1 : x.toNatClampNeg < g_sLen.getD i 0 := Nat.not_le.mp fun q => hx (Or.inr q)
  have hx2 : x < nI (g_sLen.getD i 0) := by
    obtain ⟨j, hj, rfl⟩ := vp_in_of hx (Nat.lt_trans (g_sOk i hi).2.1 (by decide))
    exact nI_lt hj (Nat.lt_trans (g_sOk i hi).2.1 (by decide))
  have hb := (g_sOk i hi).2.2 _ (g_sCh_in hi hx1)
  refine gg_iload_n (pc := 0) cx 1 rfl dJ1_charAt_3b067_0 rfl ?_
  refine gg_aload_n (pc := 1) cx 0 rfl dJ1_charAt_3b067_1 rfl ?_
  refine gg_blen (pc := 2) cx hi dJ1_charAt_3b067_2 ?_
  refine gg_callSv (pc := 3) cx cal_J0_checkIndex_df160 tw_364 (ct_J0_checkIndex_df160 (K := fun M => K (g_sCh i x.toNatClampNeg) M) cx.tr hx0 hx2 h) tw_363 rfl (st := []) rfl (Nat.le_of_ble_eq_true rfl) ⟨Nat.le_of_ble_eq_true rfl, Nat.le_of_ble_eq_true rfl⟩ ⟨Nat.le_of_ble_eq_true rfl, Nat.le_of_ble_eq_true rfl⟩ dJ1_charAt_3b067_3 (fun M h => ?_)
  refine gg_aload_n (pc := 6) cx 0 rfl dJ1_charAt_3b067_6 rfl ?_
  refine gg_iload_n (pc := 7) cx 1 rfl dJ1_charAt_3b067_7 rfl ?_
  refine gg_bald (pc := 8) cx hi hx dJ1_charAt_3b067_8 ?_
  refine gg_sipush (pc := 9) cx (v := 255) dJ1_charAt_3b067_9 (by decide) ?_
  refine gg_iand (pc := 12) cx dJ1_charAt_3b067_12 ?_
  refine gg_i2c (pc := 13) cx dJ1_charAt_3b067_13 ?_
  rw [hb.1]
  exact gg_zret (pc := 14) cx hQ hb.2.1 h dJ1_charAt_3b067_14
theorem cal_J0_charAt_5068e : g_Cal yJ0_charAt_5068e cJ0_charAt_5068e 2 (some .char) 1 := ⟨tw_10, tw_355, by decide, by decide, by decide +kernel⟩
theorem calv_J0_charAt_5068e : g_CalV yJ0_charAt_5068e := ⟨tw_353, tw_354⟩
def rm_J0_charAt_5068e : Room := { frames := 4, cells := 0, slots := 0, locals := 170 }
set_option maxRecDepth 100000 in
set_option maxHeartbeats 4000000 in
theorem ct_J0_charAt_5068e {l : Launch} (hl : l.stackTraces = false) {t : gT} {i : Nat} {x : Int32} (hi : i < g_nS) (hx : vp_in x (g_sLen.getD i 0)) {M : gM} {K : Int32 → gM → Prop} (h : K (g_sCh i x.toNatClampNeg) M) : Met l yJ0_charAt_5068e (g_y yJ0_charAt_5068e cJ0_charAt_5068e 2 (some .char)) rm_J0_charAt_5068e (va_Pc [.ref (gSK t i), .int x] (g_Pre t M)) (va_Qi K (g_B t) (g_A t)) rm_J0_charAt_5068e.cells rm_J0_charAt_5068e.slots (g_A t) := by
  refine g_met hl rfl (Nat.le_of_ble_eq_true rfl) (fun X hlX cx hQ => ?_)
  subst hlX
  have hx1 : x.toNatClampNeg < g_sLen.getD i 0 := Nat.not_le.mp fun q => hx (Or.inr q)
  have hb := (g_sOk i hi).2.2 _ (g_sCh_in hi hx1)
  refine gg_aload_n (pc := 0) cx 0 rfl dJ0_charAt_5068e_0 rfl ?_
  refine gg_callTi (pc := 1) cx rfl cal_J0_isLatin1_aae02 calv_J0_isLatin1_aae02 (ct_J0_isLatin1_aae02 (K := fun r M => r = 1 ∧ K (g_sCh i x.toNatClampNeg) M) cx.tr hi ⟨rfl, h⟩) tw_356 hi rfl (st := []) rfl (Nat.le_of_ble_eq_true rfl) ⟨Nat.le_of_ble_eq_true rfl, Nat.le_of_ble_eq_true rfl⟩ ⟨Nat.le_of_ble_eq_true rfl, Nat.le_of_ble_eq_true rfl⟩ dJ0_charAt_5068e_1 (fun r M h => ?_)
  obtain ⟨rfl, h⟩ := h
  refine gg_if_eq (pc := 4) cx (tgt := 16) dJ0_charAt_5068e_4 (by decide) (fun c => absurd c (by decide)) (fun _ => ?_)
  refine gg_aload_n (pc := 7) cx 0 rfl dJ0_charAt_5068e_7 rfl ?_
  refine gg_sval (pc := 8) cx hi tw_1673 dJ0_charAt_5068e_8 ?_
  refine gg_iload_n (pc := 11) cx 1 rfl dJ0_charAt_5068e_11 rfl ?_
  refine gg_callSi (pc := 12) cx cal_J1_charAt_3b067 tw_361 (ct_J1_charAt_3b067 (K := fun r M => r = g_sCh i x.toNatClampNeg ∧ K (g_sCh i x.toNatClampNeg) M) cx.tr hi hx ⟨rfl, h⟩) tw_360 rfl (st := []) rfl (Nat.le_of_ble_eq_true rfl) ⟨Nat.le_of_ble_eq_true rfl, Nat.le_of_ble_eq_true rfl⟩ ⟨Nat.le_of_ble_eq_true rfl, Nat.le_of_ble_eq_true rfl⟩ dJ0_charAt_5068e_12 (fun r M h => ?_)
  obtain ⟨rfl, h⟩ := h
  exact gg_zret (pc := 15) cx hQ hb.2.1 h dJ0_charAt_5068e_15
theorem cal_J1_canEncode_9a6ad : g_Cal yJ1_canEncode_9a6ad cJ1_canEncode_9a6ad 1 (some .boolean) 1 := ⟨tw_11, tw_456, by decide, by decide, by decide +kernel⟩
def rm_J1_canEncode_9a6ad : Room := { frames := 1, cells := 0, slots := 0, locals := 60 }
set_option maxRecDepth 100000 in
set_option maxHeartbeats 4000000 in
theorem ct_J1_canEncode_9a6ad {l : Launch} (hl : l.stackTraces = false) {t : gT} {x : Int32} (h0 : ¬ x < 0) (h1 : ¬ 255 < x) {M : gM} {K : Int32 → gM → Prop} (h : K 1 M) : Met l yJ1_canEncode_9a6ad (g_y yJ1_canEncode_9a6ad cJ1_canEncode_9a6ad 1 (some .boolean)) rm_J1_canEncode_9a6ad (va_Pc [.int x] (g_Pre t M)) (va_Qi K (g_B t) (g_A t)) rm_J1_canEncode_9a6ad.cells rm_J1_canEncode_9a6ad.slots (g_A t) := by
  refine g_met hl rfl (Nat.le_of_ble_eq_true rfl) (fun X hlX cx hQ => ?_)
  subst hlX
  refine gg_iload_n (pc := 0) cx 0 rfl dJ1_canEncode_9a6ad_0 rfl ?_
  refine gg_if_lt (pc := 1) cx (tgt := 15) dJ1_canEncode_9a6ad_1 (by decide) (fun c => absurd c h0) (fun _ => ?_)
  refine gg_iload_n (pc := 4) cx 0 rfl dJ1_canEncode_9a6ad_4 rfl ?_
  refine gg_sipush (pc := 5) cx (v := 255) dJ1_canEncode_9a6ad_5 (by decide) ?_
  refine gg_icmp_gt (pc := 8) cx (tgt := 15) dJ1_canEncode_9a6ad_8 (by decide) (fun c => absurd c h1) (fun _ => ?_)
  refine gg_iconst (pc := 11) cx (v := 1) dJ1_canEncode_9a6ad_11 (by decide) ?_
  refine gg_goto (pc := 12) cx (tgt := 16) dJ1_canEncode_9a6ad_12 (by decide) ?_
  exact gg_zret (pc := 16) cx hQ rfl h dJ1_canEncode_9a6ad_16
theorem cal_J1_indexOfChar_4cfef : g_Cal yJ1_indexOfChar_4cfef cJ1_indexOfChar_4cfef 6 (some .int) 4 := ⟨tw_11, tw_465, by decide, by decide, by decide +kernel⟩
def rm_J1_indexOfChar_4cfef : Room := { frames := 1, cells := 0, slots := 0, locals := 60 }
set_option maxRecDepth 100000 in
set_option maxHeartbeats 4000000 in
theorem wk_J1_indexOfChar {t : gT} {X : gX} (cx : g_Cx t X cJ1_indexOfChar_4cfef 6 RJ1 (some .int)) {K : Int32 → gM → Prop} (hQ : gXQ X = MQ (gXb X) (va_Qi K (g_B t) (g_A t)) (gXa X) (gXs X) rm_J1_indexOfChar_4cfef.cells rm_J1_indexOfChar_4cfef.slots (g_A t)) {i : Nat} (hi : i < g_nS) {x : Int32} {M : gM} : ∀ (l : List Int32) (j : Nat), j ≤ g_sLen.getD i 0 → (g_sByt.getD i []).drop j = l → K (g_sIxF x l j) M → G t rm_J1_indexOfChar_4cfef X 6 0 0 M [(0, .ref (gSV t i)), (3, .int (nI (g_sLen.getD i 0))), (4, .int x), (5, .int (nI j))] [] 7 := by
  intro l
  have hL := (g_sOk i hi).2.1
  have hE := (g_sOk i hi).1
  induction l with
  | nil =>
    intro j hj hd h
    have hq : g_sLen.getD i 0 ≤ j := by rw [hE]; exact List.drop_eq_nil_iff.mp hd
    refine gg_iload (pc := 7) cx 3 rfl dJ1_indexOfChar_4cfef_7 ?_
    refine gg_iload_n (pc := 9) cx 1 rfl dJ1_indexOfChar_4cfef_9 rfl ?_
    refine gg_icmp_ge (pc := 10) cx (tgt := 31) dJ1_indexOfChar_4cfef_10 (by decide) (fun _ => ?_) (fun c => absurd (nI_le hq (by omega)) c)
    refine gg_iconst (pc := 31) cx (v := (-1)) dJ1_indexOfChar_4cfef_31 (by decide) ?_
    exact gg_iret (pc := 32) cx hQ h dJ1_indexOfChar_4cfef_32
  | cons b l ih =>
    intro j hj hd h
    have hlt : j < (g_sByt.getD i []).length := by
      rcases Nat.lt_or_ge j (g_sByt.getD i []).length with q | q
      · exact q
      · rw [List.drop_eq_nil_iff.mpr q] at hd; cases hd
    rw [List.drop_eq_getElem_cons hlt] at hd
    injection hd with hb hd2
    have hch : g_sCh i j = b := by
      show (g_sByt.getD i []).getD j 0 = b
      rw [List.getD_eq_getElem?_getD, List.getElem?_eq_getElem hlt]; exact hb
    have hj2 : j < g_sLen.getD i 0 := by omega
    refine gg_iload (pc := 7) cx 3 rfl dJ1_indexOfChar_4cfef_7 ?_
    refine gg_iload_n (pc := 9) cx 1 rfl dJ1_indexOfChar_4cfef_9 rfl ?_
    refine gg_icmp_ge (pc := 10) cx (tgt := 31) dJ1_indexOfChar_4cfef_10 (by decide) (fun c => absurd c (nI_ge hj2 (by omega))) (fun _ => ?_)
    refine gg_aload_n (pc := 13) cx 0 rfl dJ1_indexOfChar_4cfef_13 rfl ?_
    refine gg_iload (pc := 14) cx 3 rfl dJ1_indexOfChar_4cfef_14 ?_
    refine gg_bald (pc := 16) cx hi (vp_in_nI hj2 (by omega)) dJ1_indexOfChar_4cfef_16 ?_
    rw [nI_clamp (by omega), hch]
    refine gg_iload (pc := 17) cx 2 rfl dJ1_indexOfChar_4cfef_17 ?_
    refine gg_icmp_ne (pc := 19) cx (tgt := 25) dJ1_indexOfChar_4cfef_19 (by decide) (fun c => ?_) (fun c => ?_)
    · have h : K (if b = x then nI j else g_sIxF x l (j + 1)) M := h
      rw [if_neg c] at h
      refine gg_iinc (pc := 25) cx 3 [(5, .int (nI (j + 1))), (0, .ref (gSV t i)), (3, .int (nI (g_sLen.getD i 0))), (4, .int x)] dJ1_indexOfChar_4cfef_25 rfl (nI_1 j) (by decide) rfl ?_
      refine gg_goto (pc := 28) cx (tgt := 7) dJ1_indexOfChar_4cfef_28 (by decide) ?_
      refine gg_lv (lv' := [(0, .ref (gSV t i)), (3, .int (nI (g_sLen.getD i 0))), (4, .int x), (5, .int (nI (j + 1)))]) [1, 2, 3, 0] rfl ?_
      exact ih (j + 1) hj2 hd2 h
    · have h : K (if b = x then nI j else g_sIxF x l (j + 1)) M := h
      rw [if_pos c] at h
      refine gg_iload (pc := 22) cx 3 rfl dJ1_indexOfChar_4cfef_22 ?_
      exact gg_iret (pc := 24) cx hQ h dJ1_indexOfChar_4cfef_24
theorem g_i2b {x : Int32} (h0 : 0 ≤ x) (h1 : x < 128) : x.toInt8.toInt32 = x := by
  obtain ⟨j, hj, rfl⟩ := nI_of (x := x) (Int32.not_lt.mpr h0)
  have hj2 : j < 128 := by
    rcases Nat.lt_or_ge j 128 with q | q
    · exact q
    · exact absurd h1 (nI_nlt (b := 128) q hj)
  have hall : ∀ k : Nat, k < 128 → (nI k).toInt8.toInt32 = nI k := by decide +kernel
  exact hall j hj2
set_option maxRecDepth 100000 in
set_option maxHeartbeats 4000000 in
theorem ct_J1_indexOfChar_4cfef {l : Launch} (hl : l.stackTraces = false) {t : gT} {i : Nat} (hi : i < g_nS) {x : Int32} (h0 : 0 ≤ x) (h1 : x < 128) {M : gM} {K : Int32 → gM → Prop} (h : K (g_sIx i x) M) : Met l yJ1_indexOfChar_4cfef (g_y yJ1_indexOfChar_4cfef cJ1_indexOfChar_4cfef 6 (some .int)) rm_J1_indexOfChar_4cfef (va_Pc [.ref (gSV t i), .int x, .int 0, .int (nI (g_sLen.getD i 0))] (g_Pre t M)) (va_Qi K (g_B t) (g_A t)) rm_J1_indexOfChar_4cfef.cells rm_J1_indexOfChar_4cfef.slots (g_A t) := by
  refine g_met hl rfl (Nat.le_of_ble_eq_true rfl) (fun X hlX cx hQ => ?_)
  subst hlX
  refine gg_iload_n (pc := 0) cx 1 rfl dJ1_indexOfChar_4cfef_0 rfl ?_
  refine gg_i2b (pc := 1) cx dJ1_indexOfChar_4cfef_1 ?_
  rw [g_i2b h0 h1]
  refine gg_istore (pc := 2) cx [(4, .int x), (0, .ref (gSV t i)), (1, .int x), (2, .int 0), (3, .int (nI (g_sLen.getD i 0)))] dJ1_indexOfChar_4cfef_2 (by decide) rfl ?_
  refine gg_iload_n (pc := 4) cx 3 rfl dJ1_indexOfChar_4cfef_4 rfl ?_
  refine gg_istore (pc := 5) cx [(5, .int 0), (4, .int x), (0, .ref (gSV t i)), (1, .int x), (2, .int 0), (3, .int (nI (g_sLen.getD i 0)))] dJ1_indexOfChar_4cfef_5 (by decide) rfl ?_
  refine gg_lv (lv' := [(0, .ref (gSV t i)), (3, .int (nI (g_sLen.getD i 0))), (4, .int x), (5, .int (nI 0))]) [2, 5, 1, 0] rfl ?_
  exact wk_J1_indexOfChar cx hQ hi _ 0 (Nat.zero_le _) rfl h
theorem cal_J1_indexOf_4cfef : g_Cal yJ1_indexOf_4cfef cJ1_indexOf_4cfef 4 (some .int) 4 := ⟨tw_11, tw_453, by decide, by decide, by decide +kernel⟩
def rm_J1_indexOf_4cfef : Room := { frames := 2, cells := 0, slots := 0, locals := 100 }
set_option maxRecDepth 100000 in
set_option maxHeartbeats 4000000 in
theorem ct_J1_indexOf_4cfef {l : Launch} (hl : l.stackTraces = false) {t : gT} {i : Nat} (hi : i < g_nS) (hp : 0 < g_sLen.getD i 0) {x : Int32} (h0 : 0 ≤ x) (h1 : x < 128) {M : gM} {K : Int32 → gM → Prop} (h : K (g_sIx i x) M) : Met l yJ1_indexOf_4cfef (g_y yJ1_indexOf_4cfef cJ1_indexOf_4cfef 4 (some .int)) rm_J1_indexOf_4cfef (va_Pc [.ref (gSV t i), .int x, .int 0, .int (nI (g_sLen.getD i 0))] (g_Pre t M)) (va_Qi K (g_B t) (g_A t)) rm_J1_indexOf_4cfef.cells rm_J1_indexOf_4cfef.slots (g_A t) := by
  refine g_met hl rfl (Nat.le_of_ble_eq_true rfl) (fun X hlX cx hQ => ?_)
  subst hlX
  have hL := (g_sOk i hi).2.1
  have e1 : (if (0 : Int32) < 0 then (0 : Int32) else 0) = 0 := by decide
  have e2 : (if nI (g_sLen.getD i 0) < nI (g_sLen.getD i 0) then nI (g_sLen.getD i 0) else nI (g_sLen.getD i 0)) = nI (g_sLen.getD i 0) := by split <;> rfl
  refine gg_iload_n (pc := 0) cx 1 rfl dJ1_indexOf_4cfef_0 rfl ?_
  refine gg_callSi (pc := 1) cx cal_J1_canEncode_9a6ad tw_455 (ct_J1_canEncode_9a6ad (K := fun r M => r = 1 ∧ K (g_sIx i x) M) cx.tr (Int32.not_lt.mpr h0) (fun q => absurd (Int32.lt_trans q h1) (by decide)) ⟨rfl, h⟩) tw_454 rfl (st := []) rfl (Nat.le_of_ble_eq_true rfl) ⟨Nat.le_of_ble_eq_true rfl, Nat.le_of_ble_eq_true rfl⟩ ⟨Nat.le_of_ble_eq_true rfl, Nat.le_of_ble_eq_true rfl⟩ dJ1_indexOf_4cfef_1 (fun r M h => ?_)
  obtain ⟨rfl, h⟩ := h
  refine gg_if_ne (pc := 4) cx (tgt := 9) dJ1_indexOf_4cfef_4 (by decide) (fun _ => ?_) (fun c => absurd c (by decide))
  refine gg_iload_n (pc := 9) cx 2 rfl dJ1_indexOf_4cfef_9 rfl ?_
  refine gg_iconst (pc := 10) cx (v := 0) dJ1_indexOf_4cfef_10 (by decide) ?_
  refine gg_mmaxI (pc := 11) cx tw_457 g_wmaxI ⟨Nat.le_of_ble_eq_true rfl, Nat.le_of_ble_eq_true rfl, Nat.le_of_ble_eq_true rfl, Nat.le_of_ble_eq_true rfl⟩ dJ1_indexOf_4cfef_11 ?_
  rw [e1]
  refine gg_istore_n (pc := 14) cx [(2, .int 0), (0, .ref (gSV t i)), (1, .int x), (3, .int (nI (g_sLen.getD i 0)))] dJ1_indexOf_4cfef_14 rfl (by decide) rfl ?_
  refine gg_iload_n (pc := 15) cx 3 rfl dJ1_indexOf_4cfef_15 rfl ?_
  refine gg_aload_n (pc := 16) cx 1 rfl dJ1_indexOf_4cfef_16 rfl ?_
  refine gg_blen (pc := 17) cx hi dJ1_indexOf_4cfef_17 ?_
  refine gg_mminI (pc := 18) cx tw_460 g_wminI ⟨Nat.le_of_ble_eq_true rfl, Nat.le_of_ble_eq_true rfl, Nat.le_of_ble_eq_true rfl, Nat.le_of_ble_eq_true rfl⟩ dJ1_indexOf_4cfef_18 ?_
  rw [e2]
  refine gg_istore_n (pc := 21) cx [(3, .int (nI (g_sLen.getD i 0))), (2, .int 0), (0, .ref (gSV t i)), (1, .int x)] dJ1_indexOf_4cfef_21 rfl (by decide) rfl ?_
  refine gg_iload_n (pc := 22) cx 1 rfl dJ1_indexOf_4cfef_22 rfl ?_
  refine gg_iload_n (pc := 23) cx 0 rfl dJ1_indexOf_4cfef_23 rfl ?_
  refine gg_icmp_lt (pc := 24) cx (tgt := 29) dJ1_indexOf_4cfef_24 (by decide) (fun _ => ?_) (fun c => absurd (show (0 : Int32) < nI (g_sLen.getD i 0) from nI_lt (a := 0) hp (by omega)) c)
  refine gg_aload_n (pc := 29) cx 2 rfl dJ1_indexOf_4cfef_29 rfl ?_
  refine gg_iload_n (pc := 30) cx 3 rfl dJ1_indexOf_4cfef_30 rfl ?_
  refine gg_iload_n (pc := 31) cx 1 rfl dJ1_indexOf_4cfef_31 rfl ?_
  refine gg_iload_n (pc := 32) cx 0 rfl dJ1_indexOf_4cfef_32 rfl ?_
  refine gg_callSi (pc := 33) cx cal_J1_indexOfChar_4cfef tw_464 (ct_J1_indexOfChar_4cfef (K := K) cx.tr hi h0 h1 h) tw_463 rfl (st := []) rfl (Nat.le_of_ble_eq_true rfl) ⟨Nat.le_of_ble_eq_true rfl, Nat.le_of_ble_eq_true rfl⟩ ⟨Nat.le_of_ble_eq_true rfl, Nat.le_of_ble_eq_true rfl⟩ dJ1_indexOf_4cfef_33 (fun r M h => ?_)
  exact gg_iret (pc := 36) cx hQ h dJ1_indexOf_4cfef_36
theorem cal_J0_indexOf_7cf53 : g_Cal yJ0_indexOf_7cf53 cJ0_indexOf_7cf53 3 (some .int) 2 := ⟨tw_10, tw_449, by decide, by decide, by decide +kernel⟩
theorem calv_J0_indexOf_7cf53 : g_CalV yJ0_indexOf_7cf53 := ⟨tw_447, tw_448⟩
def rm_J0_indexOf_7cf53 : Room := { frames := 3, cells := 0, slots := 0, locals := 140 }
set_option maxRecDepth 100000 in
set_option maxHeartbeats 4000000 in
theorem ct_J0_indexOf_7cf53 {l : Launch} (hl : l.stackTraces = false) {t : gT} {i : Nat} (hi : i < g_nS) (hp : 0 < g_sLen.getD i 0) {x : Int32} (h0 : 0 ≤ x) (h1 : x < 128) {M : gM} {K : Int32 → gM → Prop} (h : K (g_sIx i x) M) : Met l yJ0_indexOf_7cf53 (g_y yJ0_indexOf_7cf53 cJ0_indexOf_7cf53 3 (some .int)) rm_J0_indexOf_7cf53 (va_Pc [.ref (gSK t i), .int x, .int 0] (g_Pre t M)) (va_Qi K (g_B t) (g_A t)) rm_J0_indexOf_7cf53.cells rm_J0_indexOf_7cf53.slots (g_A t) := by
  refine g_met hl rfl (Nat.le_of_ble_eq_true rfl) (fun X hlX cx hQ => ?_)
  subst hlX
  refine gg_aload_n (pc := 0) cx 0 rfl dJ0_indexOf_7cf53_0 rfl ?_
  refine gg_callTi (pc := 1) cx rfl cal_J0_isLatin1_aae02 calv_J0_isLatin1_aae02 (ct_J0_isLatin1_aae02 (K := fun r M => r = 1 ∧ K (g_sIx i x) M) cx.tr hi ⟨rfl, h⟩) tw_356 hi rfl (st := []) rfl (Nat.le_of_ble_eq_true rfl) ⟨Nat.le_of_ble_eq_true rfl, Nat.le_of_ble_eq_true rfl⟩ ⟨Nat.le_of_ble_eq_true rfl, Nat.le_of_ble_eq_true rfl⟩ dJ0_indexOf_7cf53_1 (fun r M h => ?_)
  obtain ⟨rfl, h⟩ := h
  refine gg_if_eq (pc := 4) cx (tgt := 23) dJ0_indexOf_7cf53_4 (by decide) (fun c => absurd c (by decide)) (fun _ => ?_)
  refine gg_aload_n (pc := 7) cx 0 rfl dJ0_indexOf_7cf53_7 rfl ?_
  refine gg_sval (pc := 8) cx hi tw_1673 dJ0_indexOf_7cf53_8 ?_
  refine gg_iload_n (pc := 11) cx 1 rfl dJ0_indexOf_7cf53_11 rfl ?_
  refine gg_iload_n (pc := 12) cx 2 rfl dJ0_indexOf_7cf53_12 rfl ?_
  refine gg_aload_n (pc := 13) cx 0 rfl dJ0_indexOf_7cf53_13 rfl ?_
  refine gg_callTi (pc := 14) cx rfl cal_J0_length_8abf5 calv_J0_length_8abf5 (ct_J0_length_8abf5 (K := fun r M => r = nI (g_sLen.getD i 0) ∧ K (g_sIx i x) M) cx.tr hi ⟨rfl, h⟩) tw_450 hi rfl (st := [.int 0, .int x, .ref (gSV t i)]) rfl (Nat.le_of_ble_eq_true rfl) ⟨Nat.le_of_ble_eq_true rfl, Nat.le_of_ble_eq_true rfl⟩ ⟨Nat.le_of_ble_eq_true rfl, Nat.le_of_ble_eq_true rfl⟩ dJ0_indexOf_7cf53_14 (fun r M h => ?_)
  obtain ⟨rfl, h⟩ := h
  refine gg_callSi (pc := 17) cx cal_J1_indexOf_4cfef tw_452 (ct_J1_indexOf_4cfef (K := K) cx.tr hi hp h0 h1 h) tw_451 rfl (st := []) rfl (Nat.le_of_ble_eq_true rfl) ⟨Nat.le_of_ble_eq_true rfl, Nat.le_of_ble_eq_true rfl⟩ ⟨Nat.le_of_ble_eq_true rfl, Nat.le_of_ble_eq_true rfl⟩ dJ0_indexOf_7cf53_17 (fun r M h => ?_)
  refine gg_goto (pc := 20) cx (tgt := 36) dJ0_indexOf_7cf53_20 (by decide) ?_
  exact gg_iret (pc := 36) cx hQ h dJ0_indexOf_7cf53_36
theorem cal_J0_indexOf_0f7a4 : g_Cal yJ0_indexOf_0f7a4 cJ0_indexOf_0f7a4 2 (some .int) 1 := ⟨tw_10, tw_445, by decide, by decide, by decide +kernel⟩
theorem calv_J0_indexOf_0f7a4 : g_CalV yJ0_indexOf_0f7a4 := ⟨tw_443, tw_444⟩
def rm_J0_indexOf_0f7a4 : Room := { frames := 4, cells := 0, slots := 0, locals := 170 }
set_option maxRecDepth 100000 in
set_option maxHeartbeats 4000000 in
theorem ct_J0_indexOf_0f7a4 {l : Launch} (hl : l.stackTraces = false) {t : gT} {i : Nat} (hi : i < g_nS) (hp : 0 < g_sLen.getD i 0) {x : Int32} (h0 : 0 ≤ x) (h1 : x < 128) {M : gM} {K : Int32 → gM → Prop} (h : K (g_sIx i x) M) : Met l yJ0_indexOf_0f7a4 (g_y yJ0_indexOf_0f7a4 cJ0_indexOf_0f7a4 2 (some .int)) rm_J0_indexOf_0f7a4 (va_Pc [.ref (gSK t i), .int x] (g_Pre t M)) (va_Qi K (g_B t) (g_A t)) rm_J0_indexOf_0f7a4.cells rm_J0_indexOf_0f7a4.slots (g_A t) := by
  refine g_met hl rfl (Nat.le_of_ble_eq_true rfl) (fun X hlX cx hQ => ?_)
  subst hlX
  refine gg_aload_n (pc := 0) cx 0 rfl dJ0_indexOf_0f7a4_0 rfl ?_
  refine gg_iload_n (pc := 1) cx 1 rfl dJ0_indexOf_0f7a4_1 rfl ?_
  refine gg_iconst (pc := 2) cx (v := 0) dJ0_indexOf_0f7a4_2 (by decide) ?_
  refine gg_callTi (pc := 3) cx rfl cal_J0_indexOf_7cf53 calv_J0_indexOf_7cf53 (ct_J0_indexOf_7cf53 (K := K) cx.tr hi hp h0 h1 h) tw_446 hi rfl (st := []) rfl (Nat.le_of_ble_eq_true rfl) ⟨Nat.le_of_ble_eq_true rfl, Nat.le_of_ble_eq_true rfl⟩ ⟨Nat.le_of_ble_eq_true rfl, Nat.le_of_ble_eq_true rfl⟩ dJ0_indexOf_0f7a4_3 (fun r M h => ?_)
  exact gg_iret (pc := 6) cx hQ h dJ0_indexOf_0f7a4_6
theorem gg_call_S_length {t : gT} {R : Room} {X : gX} {nL k n : Nat} {M : gM} {lv : List (Nat × Value)} {st : List Value} {pc : Nat} {cc : ByteArray} {own : String} {ret : Option FieldType} (cx : g_Cx t X cc nL own ret) {ix i : Nat} (hl : Cond.methodLink own ix ⟨"java/lang/String", "length", "()I"⟩ ∈ WL) (d : decode cc pc = .ok (.invokevirtual ix, 3)) (hsm : (st.map fun v => v.category).sum ≤ 8) (hR : 6 ≤ R.frames ∧ 200 ≤ R.locals) (hf : k ≤ R.cells ∧ n ≤ R.slots) {K : Int32 → gM → Prop} (h : wp_S_length i M K) (kk : ∀ r M', K r M' → G t R X nL k n M' lv (.int r :: st) (pc + 3)) : G t R X nL k n M lv (.ref (gSK t i) :: st) pc :=
  gg_callTi cx rfl cal_J0_length_8abf5 calv_J0_length_8abf5 (ct_J0_length_8abf5 cx.tr h.1 h.2) hl h.1 rfl rfl hsm ⟨Nat.le_trans (by decide) hR.1, Nat.le_trans (by decide) hR.2⟩ hf d kk
theorem gg_call_S_charAt {t : gT} {R : Room} {X : gX} {nL k n : Nat} {M : gM} {lv : List (Nat × Value)} {st : List Value} {pc : Nat} {cc : ByteArray} {own : String} {ret : Option FieldType} (cx : g_Cx t X cc nL own ret) {ix i : Nat} {x : Int32} (hl : Cond.methodLink own ix ⟨"java/lang/String", "charAt", "(I)C"⟩ ∈ WL) (d : decode cc pc = .ok (.invokevirtual ix, 3)) (hsm : (st.map fun v => v.category).sum ≤ 8) (hR : 6 ≤ R.frames ∧ 200 ≤ R.locals) (hf : k ≤ R.cells ∧ n ≤ R.slots) {K : Int32 → gM → Prop} (h : wp_S_charAt i x M K) (kk : ∀ r M', K r M' → G t R X nL k n M' lv (.int r :: st) (pc + 3)) : G t R X nL k n M lv (.int x :: .ref (gSK t i) :: st) pc :=
  gg_callTi (As := [.int x]) cx rfl cal_J0_charAt_5068e calv_J0_charAt_5068e (ct_J0_charAt_5068e cx.tr h.1 h.2.1 h.2.2) hl h.1 rfl rfl hsm ⟨Nat.le_trans (by decide) hR.1, Nat.le_trans (by decide) hR.2⟩ hf d kk
theorem gg_call_S_indexOf {t : gT} {R : Room} {X : gX} {nL k n : Nat} {M : gM} {lv : List (Nat × Value)} {st : List Value} {pc : Nat} {cc : ByteArray} {own : String} {ret : Option FieldType} (cx : g_Cx t X cc nL own ret) {ix i : Nat} {x : Int32} (hl : Cond.methodLink own ix ⟨"java/lang/String", "indexOf", "(I)I"⟩ ∈ WL) (d : decode cc pc = .ok (.invokevirtual ix, 3)) (hsm : (st.map fun v => v.category).sum ≤ 8) (hR : 6 ≤ R.frames ∧ 200 ≤ R.locals) (hf : k ≤ R.cells ∧ n ≤ R.slots) {K : Int32 → gM → Prop} (h : wp_S_indexOf i x M K) (kk : ∀ r M', K r M' → G t R X nL k n M' lv (.int r :: st) (pc + 3)) : G t R X nL k n M lv (.int x :: .ref (gSK t i) :: st) pc :=
  gg_callTi (As := [.int x]) cx rfl cal_J0_indexOf_0f7a4 calv_J0_indexOf_0f7a4 (ct_J0_indexOf_0f7a4 cx.tr h.1 h.2.1 h.2.2.1 h.2.2.2.1 h.2.2.2.2) hl h.1 rfl rfl hsm ⟨Nat.le_trans (by decide) hR.1, Nat.le_trans (by decide) hR.2⟩ hf d kk
