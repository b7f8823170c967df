/-- the end of a constructor that has made its cells: a place and a memory -/
def g_Qt (t0 : gT) (KK : gT × gM → Prop) : Array Value → State → Outcome → State → Prop := va_Qv KK (fun (u : gT × gM) U => g_B u.1 u.2 U) (g_A t0)
theorem gg_vretT {t t0 : gT} {R : Room} {X : gX} {nL k n : Nat} {M : gM} {lv : List (Nat × Value)} {pc : Nat} {cc : ByteArray} {own : String} (cx : g_Cx t X cc nL own none) {KK : gT × gM → Prop} (hQ : gXQ X = MQ (gXb X) (g_Qt t0 KK) (gXa X) (gXs X) k n (g_A t0)) (hA : g_A t0 = g_A t) (h : KK (t, M)) (d : decode cc pc = .ok (.return_, 1)) : G t R X nL k n M lv [] pc := fun H locs ls a b c => by
  rw [hQ]
  unfold g_Qt
  rw [hA]
  exact W.vret cx.x cx.b cx.r (fun u hu hW => ⟨⟨(t, M), rfl, h, g_Bof a hu hW⟩, g_F cx b hu⟩) (fun q hq => b.2.2 q hq) d cx.lk
def rm_X8_init : Room := { frames := 11, cells := 474, slots := 31539, locals := 320 }
def wp_X8_init_b140 (K : gM → Prop) (o0 : Nat) (os0 : Nat) (xs1 : Int32) (M : gM) : Prop := ∀ M140 : gM, M140 = g_uI M 7 os0 1 xs1 → wp_X8_plant o0 0 M140 (fun M145 => K M145)
def wp_X8_initR (o0 : Nat) (x1 : Int32) (M : gM) (K : gM → Prop) : Prop := (if 1 ≤ x1 then (if x1 ≤ 9999 then wp_X8_init_b140 K o0 0 x1 M else wp_X8_init_b140 K o0 0 9999 M) else wp_X8_init_b140 K o0 0 1 M)
def rm_X9_init : Room := { frames := 8, cells := 12, slots := 38910, locals := 221 }
def wp_X9_init_L719 (K : gM → Prop) : Nat → Nat → Int32 → gM → Prop
  | 0, _, _, _ => False
  | f + 1, o0, x2, M => (if 3 ≤ x2 then wp_X9_takesTemplate o0 0 M (fun M739 => wp_X9_reads o0 M739 (fun r743 M743 => wp_X9_loads o0 M743 (fun M748 => K M748))) else vp_in x2 3 ∧ ∀ M730 : gM, M730 = g_uI M 52 o0 x2.toNatClampNeg (-1) → ∀ n731 : Int32, n731 = x2 + Int32.ofInt (1) → wp_X9_init_L719 K f o0 n731 M730)
def wp_X9_init_L690 (K : gM → Prop) : Nat → Nat → Int32 → gM → Prop
  | 0, _, _, _ => False
  | f + 1, o0, x2, M => (if 16 ≤ x2 then ∃ f719 : Nat, wp_X9_init_L719 K f719 o0 0 M else vp_in ((10 + (7 * x2)) + 0) 7600 ∧ ∀ M710 : gM, M710 = g_uL M 47 o0 ((10 + (7 * x2)) + 0).toNatClampNeg 1 → ∀ n711 : Int32, n711 = x2 + Int32.ofInt (1) → wp_X9_init_L690 K f o0 n711 M710)
def wp_X9_init_b687 (K : gM → Prop) (o0 : Nat) (os0 : Nat) (xs1 : Int32) (ys2 : Int64) (M : gM) : Prop := vp_in xs1 7600 ∧ ∀ M687 : gM, M687 = g_uL M 47 os0 xs1.toNatClampNeg ys2 → ∃ f690 : Nat, wp_X9_init_L690 K f690 o0 0 M687
def wp_X9_initR (o0 : Nat) (x1 : Int32) (M : gM) (K : gM → Prop) : Prop := (if 1 ≤ x1 then (if x1 ≤ 9999 then wp_X9_init_b687 K o0 o0 1 x1.toInt64 M else wp_X9_init_b687 K o0 o0 1 9999 M) else wp_X9_init_b687 K o0 o0 1 1 M)
set_option maxRecDepth 100000 in
set_option maxHeartbeats 4000000 in
theorem wk_X8_init_b140 {t t0 : gT} {X : gX} (cx : g_Cx t X cX8_init 4 RX8 (none)) (hC : g_hC t) {K : gM → Prop} {KK : gT × gM → Prop} (hT : ∀ M, K M → KK (t, M)) (hA : g_A t0 = g_A t) (hQ : gXQ X = MQ (gXb X) (g_Qt t0 KK) (gXa X) (gXs X) rm_X8_init.cells rm_X8_init.slots (g_A t0)) {o0 : Nat} {os0 : Nat} {xs1 : Int32} {M : gM} (v0 : o0 < 1) (vs0 : os0 < 5) (h : wp_X8_init_b140 K o0 os0 xs1 M) : G t rm_X8_init X 4 474 31539 M [(0, .ref (gAd t 8 o0))] [.int xs1, .ref (gAd t 7 os0)] 140 := by
  refine gp_World_linkRate (pc := 140) cx (hC 7 _ rfl vs0) tw_296 dX8_init_140 ?_
  refine gg_mem (fun M140 eM140 => ?_)
  have h := h M140 eM140
  refine gg_aload_n (pc := 143) cx 0 rfl dX8_init_143 rfl ?_
  refine gg_iconst (pc := 144) cx (v := 0) dX8_init_144 (by decide) ?_
  refine gg_callVv (pc := 145) cx cal_X8_plant calv_X8_plant (ct_X8_plant cx.tr hC v0 h) tw_325 (hC 8 _ rfl v0) rfl rfl rfl (st := []) rfl (Nat.le_of_ble_eq_true rfl) ⟨Nat.le_of_ble_eq_true rfl, Nat.le_of_ble_eq_true rfl⟩ ⟨Nat.le_of_ble_eq_true rfl, Nat.le_of_ble_eq_true rfl⟩ dX8_init_145 (fun M145 h => ?_)
  exact gg_vretT (pc := 148) cx hQ hA (hT _ h) dX8_init_148
set_option maxRecDepth 100000 in
set_option maxHeartbeats 4000000 in
theorem wk_X8_initR {t t0 : gT} {X : gX} (cx : g_Cx t X cX8_init 4 RX8 (none)) (hC : g_hC t) {K : gM → Prop} {KK : gT × gM → Prop} (hT : ∀ M, K M → KK (t, M)) (hA : g_A t0 = g_A t) (hQ : gXQ X = MQ (gXb X) (g_Qt t0 KK) (gXa X) (gXs X) rm_X8_init.cells rm_X8_init.slots (g_A t0)) {o0 : Nat} {x1 : Int32} {M : gM} (v0 : o0 < 1) (h : wp_X8_initR o0 x1 M K) : G t rm_X8_init X 4 rm_X8_init.cells rm_X8_init.slots M [(0, .ref (gAd t 8 o0)), (1, .int x1)] [] 113 := by
  refine gg_aload_n (pc := 113) cx 0 rfl dX8_init_113 rfl ?_
  refine gf_Tree_now (pc := 114) cx (hC 8 _ rfl v0) tw_560 dX8_init_114 ?_
  refine gg_iload_n (pc := 117) cx 1 rfl dX8_init_117 rfl ?_
  refine gg_iconst (pc := 118) cx (v := 1) dX8_init_118 (by decide) ?_
  refine gg_icmp_ge (pc := 119) cx (tgt := 126) dX8_init_119 (by decide) (fun c119 => ?_) (fun c119 => ?_)
  · have h := g_it c119 h
    refine gg_iload_n (pc := 126) cx 1 rfl dX8_init_126 rfl ?_
    refine gg_sipush (pc := 127) cx (v := 9999) dX8_init_127 (by decide) ?_
    refine gg_icmp_le (pc := 130) cx (tgt := 139) dX8_init_130 (by decide) (fun c130 => ?_) (fun c130 => ?_)
    · have h := g_it c130 h
      refine gg_iload_n (pc := 139) cx 1 rfl dX8_init_139 rfl ?_
      refine gg_lv (lv' := [(0, .ref (gAd t 8 o0))]) [0] rfl ?_
      refine gg_wide (k' := 474) (n' := 31539) (Nat.le_of_ble_eq_true rfl) (Nat.le_of_ble_eq_true rfl) ?_
      exact wk_X8_init_b140 cx hC hT hA hQ v0 (Nat.le_of_ble_eq_true rfl) h
    · have h := g_if c130 h
      refine gg_sipush (pc := 133) cx (v := 9999) dX8_init_133 (by decide) ?_
      refine gg_goto (pc := 136) cx (tgt := 140) dX8_init_136 (by decide) ?_
      refine gg_lv (lv' := [(0, .ref (gAd t 8 o0))]) [0] rfl ?_
      refine gg_wide (k' := 474) (n' := 31539) (Nat.le_of_ble_eq_true rfl) (Nat.le_of_ble_eq_true rfl) ?_
      exact wk_X8_init_b140 cx hC hT hA hQ v0 (Nat.le_of_ble_eq_true rfl) h
  · have h := g_if c119 h
    refine gg_iconst (pc := 122) cx (v := 1) dX8_init_122 (by decide) ?_
    refine gg_goto (pc := 123) cx (tgt := 140) dX8_init_123 (by decide) ?_
    refine gg_lv (lv' := [(0, .ref (gAd t 8 o0))]) [0] rfl ?_
    refine gg_wide (k' := 474) (n' := 31539) (Nat.le_of_ble_eq_true rfl) (Nat.le_of_ble_eq_true rfl) ?_
    exact wk_X8_init_b140 cx hC hT hA hQ v0 (Nat.le_of_ble_eq_true rfl) h
set_option maxRecDepth 100000 in
set_option maxHeartbeats 4000000 in
theorem wk_X9_init_L719 {t t0 : gT} {X : gX} (cx : g_Cx t X cX9_init 3 RX9 (none)) (hM : g_hM t) {K : gM → Prop} {KK : gT × gM → Prop} (hT : ∀ M, K M → KK (t, M)) (hA : g_A t0 = g_A t) (hQ : gXQ X = MQ (gXb X) (g_Qt t0 KK) (gXa X) (gXs X) rm_X9_init.cells rm_X9_init.slots (g_A t0)) (f : Nat) : ∀ (o0 : Nat) (x2 : Int32) (M : gM), o0 < 1 → wp_X9_init_L719 K f o0 x2 M → G t rm_X9_init X 3 12 38910 M [(0, .ref (gAd t 9 o0)), (2, .int x2)] [] 719 := by
  induction f with
  | zero => intro _ _ _ _ _; exact False.elim (by assumption)
  | succ f ih =>
    intro o0 x2 M v0 h
    refine gg_iload_n (pc := 719) cx 1 rfl dX9_init_719 rfl ?_
    refine gg_iconst (pc := 720) cx (v := 3) dX9_init_720 (by decide) ?_
    refine gg_icmp_ge (pc := 721) cx (tgt := 737) dX9_init_721 (by decide) (fun c721 => ?_) (fun c721 => ?_)
    · have h := g_it c721 h
      refine gg_aload_n (pc := 737) cx 0 rfl dX9_init_737 rfl ?_
      refine gg_iconst (pc := 738) cx (v := 0) dX9_init_738 (by decide) ?_
      refine gg_callVv (pc := 739) cx cal_X9_takesTemplate calv_X9_takesTemplate (ct_X9_takesTemplate cx.tr hM v0 h) tw_1194 (hM 9 _ rfl v0) rfl rfl rfl (st := []) rfl (Nat.le_of_ble_eq_true rfl) ⟨Nat.le_of_ble_eq_true rfl, Nat.le_of_ble_eq_true rfl⟩ ⟨Nat.le_of_ble_eq_true rfl, Nat.le_of_ble_eq_true rfl⟩ dX9_init_739 (fun M739 h => ?_)
      refine gg_aload_n (pc := 742) cx 0 rfl dX9_init_742 rfl ?_
      refine gg_callVi (pc := 743) cx cal_X9_reads calv_X9_reads (ct_X9_reads cx.tr hM v0 h) tw_1198 (hM 9 _ rfl v0) rfl rfl rfl (st := []) rfl (Nat.le_of_ble_eq_true rfl) ⟨Nat.le_of_ble_eq_true rfl, Nat.le_of_ble_eq_true rfl⟩ ⟨Nat.le_of_ble_eq_true rfl, Nat.le_of_ble_eq_true rfl⟩ dX9_init_743 (fun r743 M743 h => ?_)
      refine gg_istore_n (pc := 746) cx [(2, .int r743), (0, .ref (gAd t 9 o0))] dX9_init_746 rfl (by decide) rfl ?_
      refine gg_aload_n (pc := 747) cx 1 rfl dX9_init_747 rfl ?_
      refine gg_callVv (pc := 748) cx cal_X9_loads calv_X9_loads (ct_X9_loads cx.tr hM v0 h) tw_1292 (hM 9 _ rfl v0) rfl rfl rfl (st := []) rfl (Nat.le_of_ble_eq_true rfl) ⟨Nat.le_of_ble_eq_true rfl, Nat.le_of_ble_eq_true rfl⟩ ⟨Nat.le_of_ble_eq_true rfl, Nat.le_of_ble_eq_true rfl⟩ dX9_init_748 (fun M748 h => ?_)
      exact gg_vretT (pc := 751) cx hQ hA (hT _ h) dX9_init_751
    · have h := g_if c721 h
      refine gg_aload_n (pc := 724) cx 0 rfl dX9_init_724 rfl ?_
      refine gf_Model_errors (pc := 725) cx (hM 9 _ rfl v0) tw_1314 dX9_init_725 ?_
      refine gg_iload_n (pc := 728) cx 1 rfl dX9_init_728 rfl ?_
      refine gg_iconst (pc := 729) cx (v := (-1)) dX9_init_729 (by decide) ?_
      have q730 := h.1
      have h := h.2
      refine gg_iast (pc := 730) cx (hM 52 _ rfl v0) (fun _ _ => rfl) q730 dX9_init_730 ?_
      refine gg_mem (fun M730 eM730 => ?_)
      have h := h M730 eM730
      obtain ⟨n731, en731⟩ : ∃ z : Int32, z = x2 + Int32.ofInt (1) := ⟨_, rfl⟩
      have h := h n731 en731
      refine gg_iinc (pc := 731) cx 1 [(2, .int n731), (0, .ref (gAd t 9 o0))] dX9_init_731 rfl en731.symm (by decide) rfl ?_
      refine gg_goto (pc := 734) cx (tgt := 719) dX9_init_734 (by decide) ?_
      refine gg_lv (lv' := [(0, .ref (gAd t 9 o0)), (2, .int n731)]) [1, 0] rfl ?_
      exact ih o0 n731 M730 v0 h
set_option maxRecDepth 100000 in
set_option maxHeartbeats 4000000 in
theorem wk_X9_init_L690 {t t0 : gT} {X : gX} (cx : g_Cx t X cX9_init 3 RX9 (none)) (hM : g_hM t) {K : gM → Prop} {KK : gT × gM → Prop} (hT : ∀ M, K M → KK (t, M)) (hA : g_A t0 = g_A t) (hQ : gXQ X = MQ (gXb X) (g_Qt t0 KK) (gXa X) (gXs X) rm_X9_init.cells rm_X9_init.slots (g_A t0)) (f : Nat) : ∀ (o0 : Nat) (x2 : Int32) (M : gM), o0 < 1 → wp_X9_init_L690 K f o0 x2 M → G t rm_X9_init X 3 12 38910 M [(0, .ref (gAd t 9 o0)), (2, .int x2)] [] 690 := by
  induction f with
  | zero => intro _ _ _ _ _; exact False.elim (by assumption)
  | succ f ih =>
    intro o0 x2 M v0 h
    refine gg_iload_n (pc := 690) cx 1 rfl dX9_init_690 rfl ?_
    refine gg_bipush (pc := 691) cx (v := 16) dX9_init_691 (by decide) ?_
    refine gg_icmp_ge (pc := 693) cx (tgt := 717) dX9_init_693 (by decide) (fun c693 => ?_) (fun c693 => ?_)
    · have h := g_it c693 h
      refine gg_iconst (pc := 717) cx (v := 0) dX9_init_717 (by decide) ?_
      refine gg_istore_n (pc := 718) cx [(2, .int 0), (0, .ref (gAd t 9 o0))] dX9_init_718 rfl (by decide) rfl ?_
      refine gg_lv (lv' := [(0, .ref (gAd t 9 o0)), (2, .int 0)]) [1, 0] rfl ?_
      obtain ⟨f719, h⟩ := h
      exact wk_X9_init_L719 cx hM hT hA hQ f719 o0 0 M v0 h
    · have h := g_if c693 h
      refine gg_aload_n (pc := 696) cx 0 rfl dX9_init_696 rfl ?_
      refine gf_Model_v (pc := 697) cx (hM 9 _ rfl v0) tw_1306 dX9_init_697 ?_
      refine gg_bipush (pc := 700) cx (v := 10) dX9_init_700 (by decide) ?_
      refine gg_bipush (pc := 702) cx (v := 7) dX9_init_702 (by decide) ?_
      refine gg_iload_n (pc := 704) cx 1 rfl dX9_init_704 rfl ?_
      refine gg_imul (pc := 705) cx dX9_init_705 ?_
      refine gg_iadd (pc := 706) cx dX9_init_706 ?_
      refine gg_iconst (pc := 707) cx (v := 0) dX9_init_707 (by decide) ?_
      refine gg_iadd (pc := 708) cx dX9_init_708 ?_
      refine gg_lconst (pc := 709) cx (v := 1) dX9_init_709 (by decide) ?_
      have q710 := h.1
      have h := h.2
      refine gg_last (pc := 710) cx (hM 47 _ rfl v0) (fun _ _ => rfl) q710 dX9_init_710 ?_
      refine gg_mem (fun M710 eM710 => ?_)
      have h := h M710 eM710
      obtain ⟨n711, en711⟩ : ∃ z : Int32, z = x2 + Int32.ofInt (1) := ⟨_, rfl⟩
      have h := h n711 en711
      refine gg_iinc (pc := 711) cx 1 [(2, .int n711), (0, .ref (gAd t 9 o0))] dX9_init_711 rfl en711.symm (by decide) rfl ?_
      refine gg_goto (pc := 714) cx (tgt := 690) dX9_init_714 (by decide) ?_
      refine gg_lv (lv' := [(0, .ref (gAd t 9 o0)), (2, .int n711)]) [1, 0] rfl ?_
      exact ih o0 n711 M710 v0 h
set_option maxRecDepth 100000 in
set_option maxHeartbeats 4000000 in
theorem wk_X9_init_b687 {t t0 : gT} {X : gX} (cx : g_Cx t X cX9_init 3 RX9 (none)) (hM : g_hM t) {K : gM → Prop} {KK : gT × gM → Prop} (hT : ∀ M, K M → KK (t, M)) (hA : g_A t0 = g_A t) (hQ : gXQ X = MQ (gXb X) (g_Qt t0 KK) (gXa X) (gXs X) rm_X9_init.cells rm_X9_init.slots (g_A t0)) {o0 : Nat} {os0 : Nat} {xs1 : Int32} {ys2 : Int64} {M : gM} (v0 : o0 < 1) (vs0 : os0 < 1) (h : wp_X9_init_b687 K o0 os0 xs1 ys2 M) : G t rm_X9_init X 3 12 38910 M [(0, .ref (gAd t 9 o0))] [.long ys2, .int xs1, .ref (gAd t 47 os0)] 687 := by
  have q687 := h.1
  have h := h.2
  refine gg_last (pc := 687) cx (hM 47 _ rfl vs0) (fun _ _ => rfl) q687 dX9_init_687 ?_
  refine gg_mem (fun M687 eM687 => ?_)
  have h := h M687 eM687
  refine gg_iconst (pc := 688) cx (v := 0) dX9_init_688 (by decide) ?_
  refine gg_istore_n (pc := 689) cx [(2, .int 0), (0, .ref (gAd t 9 o0))] dX9_init_689 rfl (by decide) rfl ?_
  refine gg_lv (lv' := [(0, .ref (gAd t 9 o0)), (2, .int 0)]) [1, 0] rfl ?_
  obtain ⟨f690, h⟩ := h
  exact wk_X9_init_L690 cx hM hT hA hQ f690 o0 0 M687 v0 h
set_option maxRecDepth 100000 in
set_option maxHeartbeats 4000000 in
theorem wk_X9_initR {t t0 : gT} {X : gX} (cx : g_Cx t X cX9_init 3 RX9 (none)) (hM : g_hM t) {K : gM → Prop} {KK : gT × gM → Prop} (hT : ∀ M, K M → KK (t, M)) (hA : g_A t0 = g_A t) (hQ : gXQ X = MQ (gXb X) (g_Qt t0 KK) (gXa X) (gXs X) rm_X9_init.cells rm_X9_init.slots (g_A t0)) {o0 : Nat} {x1 : Int32} {M : gM} (v0 : o0 < 1) (h : wp_X9_initR o0 x1 M K) : G t rm_X9_init X 3 rm_X9_init.cells rm_X9_init.slots M [(0, .ref (gAd t 9 o0)), (1, .int x1)] [] 658 := by
  refine gg_aload_n (pc := 658) cx 0 rfl dX9_init_658 rfl ?_
  refine gf_Model_v (pc := 659) cx (hM 9 _ rfl v0) tw_1306 dX9_init_659 ?_
  refine gg_iconst (pc := 662) cx (v := 1) dX9_init_662 (by decide) ?_
  refine gg_iload_n (pc := 663) cx 1 rfl dX9_init_663 rfl ?_
  refine gg_iconst (pc := 664) cx (v := 1) dX9_init_664 (by decide) ?_
  refine gg_icmp_ge (pc := 665) cx (tgt := 672) dX9_init_665 (by decide) (fun c665 => ?_) (fun c665 => ?_)
  · have h := g_it c665 h
    refine gg_iload_n (pc := 672) cx 1 rfl dX9_init_672 rfl ?_
    refine gg_sipush (pc := 673) cx (v := 9999) dX9_init_673 (by decide) ?_
    refine gg_icmp_le (pc := 676) cx (tgt := 685) dX9_init_676 (by decide) (fun c676 => ?_) (fun c676 => ?_)
    · have h := g_it c676 h
      refine gg_iload_n (pc := 685) cx 1 rfl dX9_init_685 rfl ?_
      refine gg_i2l (pc := 686) cx dX9_init_686 ?_
      refine gg_lv (lv' := [(0, .ref (gAd t 9 o0))]) [0] rfl ?_
      refine gg_wide (k' := 12) (n' := 38910) (Nat.le_of_ble_eq_true rfl) (Nat.le_of_ble_eq_true rfl) ?_
      exact wk_X9_init_b687 cx hM hT hA hQ v0 v0 h
    · have h := g_if c676 h
      refine gg_ldc2 (pc := 679) cx (v := 9999) tw_1193 dX9_init_679 ?_
      refine gg_goto (pc := 682) cx (tgt := 687) dX9_init_682 (by decide) ?_
      refine gg_lv (lv' := [(0, .ref (gAd t 9 o0))]) [0] rfl ?_
      refine gg_wide (k' := 12) (n' := 38910) (Nat.le_of_ble_eq_true rfl) (Nat.le_of_ble_eq_true rfl) ?_
      exact wk_X9_init_b687 cx hM hT hA hQ v0 v0 h
  · have h := g_if c665 h
    refine gg_lconst (pc := 668) cx (v := 1) dX9_init_668 (by decide) ?_
    refine gg_goto (pc := 669) cx (tgt := 687) dX9_init_669 (by decide) ?_
    refine gg_lv (lv' := [(0, .ref (gAd t 9 o0))]) [0] rfl ?_
    refine gg_wide (k' := 12) (n' := 38910) (Nat.le_of_ble_eq_true rfl) (Nat.le_of_ble_eq_true rfl) ?_
    exact wk_X9_init_b687 cx hM hT hA hQ v0 v0 h
