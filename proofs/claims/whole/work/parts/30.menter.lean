/-! the reference: enters -/
theorem zad (a k : Nat) : nI a + (no_index (OfNat.ofNat k) : Int32) = nI (a + OfNat.ofNat k) := nI_add a k
theorem zad2 (a k : Nat) : (no_index (OfNat.ofNat k) : Int32) + nI a = nI (OfNat.ofNat k + a) := nI_add k a
theorem zmu (a k : Nat) : (no_index (OfNat.ofNat k) : Int32) * nI a = nI (OfNat.ofNat k * a) := pk_mul k a
theorem zcl {k : Nat} (h : (OfNat.ofNat k : Nat) < 2 ^ 31) : (no_index (OfNat.ofNat k) : Int32).toNatClampNeg = OfNat.ofNat k := nI_clamp h
theorem zvi {k N : Nat} (h : (OfNat.ofNat k : Nat) < N) (hN : N < 2 ^ 31) : vp_in (no_index (OfNat.ofNat k) : Int32) N := vp_in_nI h hN
theorem zj_le {c : Int64} {a k : Nat} (e : c = lN a) (h : k ≤ a) (ha : a < 2 ^ 31) : lN k ≤ c := by
  rw [e]; exact (lN_le (by omega) ha).mpr h
theorem zj_nle {c : Int64} {a k : Nat} (e : c = lN a) (h : a < k) (hk : k < 2 ^ 31) : ¬ lN k ≤ c := by
  rw [e]; exact fun q => absurd ((lN_le hk (by omega)).mp q) (by omega)
theorem zj_ne {c : Int64} {a k : Nat} (e : c = lN a) (h : k ≠ a) (ha : a < 2 ^ 31) (hk : k < 2 ^ 31) : ¬ lN k = c := by
  rw [e]; exact fun q => h ((lN_eq hk ha).mp q)
theorem zj_eq {c : Int64} {a k : Nat} (e : c = lN a) (h : k = a) : lN k = c := by rw [e, h]
theorem zm_nd (x : Nat) (M : gM) (K : Int32 → gM → Prop) : wp_X9_node (nI x) M K = K (nI (130 + 12 * x)) M := pm_node x M K
theorem zm_pk (x : Nat) (M : gM) (K : Int32 → gM → Prop) : wp_X9_packet (nI x) M K = K (nI (640 + 7 * x)) M := pm_packet x M K
theorem zm_fl (x : Nat) (M : gM) (K : Int32 → gM → Prop) : wp_X9_flow (nI x) M K = K (nI (10 + 7 * x)) M := by
  unfold wp_X9_flow; rw [zmu, zad2]
theorem zm_el (x i : Nat) (M : gM) (K : Int32 → gM → Prop) : wp_X9_element (nI x) (nI i) M K = K (nI (4150 + 4 * (64 * x + i))) M := by
  unfold wp_X9_element; rw [zmu, nI_add, zmu, zad2]
theorem zm_ho (x : Nat) (M : gM) (K : Int32 → gM → Prop) : wp_X9_hold (nI x) M K = K (nI (7230 + 4 * x)) M := by
  unfold wp_X9_hold; rw [zmu, zad2]
theorem zm_takesPacket {M0 : gM} {nn ar p : Nat} {M : gM} {S : zW} {K : gM → Prop} (h : zMW M0 nn ar S M) (ha2 : ar ≤ 500) (hp : p < ar) (hK : ∀ M', zMW M0 nn ar S M' → M'.2 58 0 0 = zpr S p → M'.2 58 0 1 = zln S p → M'.2 58 0 2 = zL S 7 p → K M') : wp_X9_takesPacket 0 (nI p) M K := by
  unfold wp_X9_takesPacket
  rw [zm_pk, zad]
  refine ⟨vp_in_nI (by omega) (by omega), zvi (by omega) (by omega), ?_⟩
  intro M1 e1
  rw [nI_clamp (by omega), zcl (by omega), zm_priority h.2 hp] at e1
  have h1 : zMW M0 nn ar S M1 := by rw [e1]; exact zMW_scr (Or.inr rfl) h
  rw [zm_pk, zad]
  refine ⟨vp_in_nI (by omega) (by omega), zvi (by omega) (by omega), ?_⟩
  intro M2 e2
  rw [nI_clamp (by omega), zcl (by omega), zm_length h1.2 hp] at e2
  have h2 : zMW M0 nn ar S M2 := by rw [e2]; exact zMW_scr (Or.inr rfl) h1
  rw [zm_pk, zad]
  refine ⟨vp_in_nI (by omega) (by omega), zvi (by omega) (by omega), ?_⟩
  intro M3 e3
  rw [nI_clamp (by omega), zcl (by omega), zm_deadline h2.2 hp] at e3
  have h3 : zMW M0 nn ar S M3 := by rw [e3]; exact zMW_scr (Or.inr rfl) h2
  refine hK M3 h3 ?_ ?_ ?_
  · rw [e3, e2, e1]; simp [zuL, zpr]
  · rw [e3, e2, e1]; simp [zuL, zln]
  · rw [e3, e2, e1]; simp [zuL]
theorem zm_prepares {M0 : gM} {nn ar x key : Nat} {wt t : Int64} {M : gM} {S : zW} {K : gM → Prop} (h : zMW M0 nn ar S M) (hn2 : nn ≤ 12) (hx : x < nn) (hk : key < 16) (hw : wt = lN (zwt S x key)) (hl : (zR S x).length = (zQ S x).length) (hK : ∀ M', zMW M0 nn ar S M' → (∀ j, j < 3 ∨ j = 9 → M'.2 58 0 j = M.2 58 0 j) → (∀ pr len dl r j, 3 ≤ j → j < 9 → M'.2 58 0 j = zvar S x key pr len dl t r j) → K M') : wp_X9_prepares 0 (nI x) (nI key) wt t M K := by
  unfold wp_X9_prepares
  refine ⟨zvi (by omega) (by omega), ?_⟩
  intro M1 e1
  rw [zcl (by omega), nI_l (by omega)] at e1
  have h1 : zMW M0 nn ar S M1 := by rw [e1]; exact zMW_scr (Or.inr rfl) h
  refine ⟨zvi (by omega) (by omega), ?_⟩
  intro M2 e2
  rw [zcl (by omega)] at e2
  have h2 : zMW M0 nn ar S M2 := by rw [e2]; exact zMW_scr (Or.inr rfl) h1
  rw [zmu, zad2, nI_add]
  refine ⟨vp_in_nI (by omega) (by omega), zvi (by omega) (by omega), ?_⟩
  intro M3 e3
  rw [nI_clamp (by omega), zcl (by omega), zm_state h2.2 hx hk] at e3
  have h3 : zMW M0 nn ar S M3 := by rw [e3]; exact zMW_scr (Or.inr rfl) h2
  refine ⟨zvi (by omega) (by omega), ?_⟩
  intro M4 e4
  rw [zcl (by omega)] at e4
  have h4 : zMW M0 nn ar S M4 := by rw [e4]; exact zMW_scr (Or.inr rfl) h3
  rw [zm_nd, zad]
  refine ⟨vp_in_nI (by omega) (by omega), zvi (by omega) (by omega), ?_⟩
  intro M5 e5
  rw [nI_clamp (by omega), zcl (by omega), zm_virtual h4.2 hx] at e5
  have h5 : zMW M0 nn ar S M5 := by rw [e5]; exact zMW_scr (Or.inr rfl) h4
  rw [zm_nd, zad]
  refine ⟨vp_in_nI (by omega) (by omega), zvi (by omega) (by omega), ?_⟩
  intro M6 e6
  rw [nI_clamp (by omega), zcl (by omega), (h5.2.2.2.2.1 x hx).1, hl] at e6
  have h6 : zMW M0 nn ar S M6 := by rw [e6]; exact zMW_scr (Or.inr rfl) h5
  refine hK M6 h6 (fun j hj => ?_) (fun pr len dl r j hj hj2 => ?_)
  · rw [e6, e5, e4, e3, e2, e1]
    simp only [zuL]
    rw [if_neg (by omega), if_neg (by omega), if_neg (by omega), if_neg (by omega), if_neg (by omega), if_neg (by omega)]
  · rw [e6, e5, e4, e3, e2, e1]
    simp only [zuL]
    rcases (show j = 3 ∨ j = 4 ∨ j = 5 ∨ j = 6 ∨ j = 7 ∨ j = 8 by omega) with rfl | rfl | rfl | rfl | rfl | rfl <;> simp [zvar, hw]
/-- what an enter of the reference wants -/
theorem zm_push {M0 : gM} {nn ar x item p : Nat} {t : Int64} {M : gM} {S S1 : zW} {K : gM → Prop} (h : zMW M0 nn ar S1 M) (hn2 : nn ≤ 12) (ha2 : ar ≤ 500) (hx : x < nn) (hp : p < 2 ^ 31) (hi : item < 2 ^ 31) (hq : (zR S x).length < 64) (hqs : ∀ y, y < nn → (zR S y).length ≤ 64) (z1 : zN S1 = zN S ∧ zR S1 = zR S) (hK : ∀ M', zMW M0 nn ar (zsN (zsQ S1 x (zins (zN S 8 x) (zelt S x item p t) (zQ S x)) (zR S x ++ [zelt S x item p t])) 20 0 (zN S 20 0 + 1)) M' → K M') : wp_X9_enters_b115 K 0 (nI x) (nI item) (nI p) (zrk S x (zkey S x item p) p t) M := by
  unfold wp_X9_enters_b115
  have hl : M.2 47 0 (130 + 12 * x + 11) = lN (zR S x).length := by rw [← z1.2]; exact (h.2.2.2.2.1 x hx).1
  rw [zm_nd, zad]
  refine ⟨vp_in_nI (by omega) (by omega), ?_⟩
  rw [nI_clamp (by omega), hl, lN_i, zm_el]
  rw [zad, zad, zad, zad]
  refine ⟨vp_in_nI (by omega) (by omega), ?_⟩
  intro M1 e1
  refine ⟨vp_in_nI (by omega) (by omega), ?_⟩
  intro M2 e2
  refine ⟨zvi (by omega) (by omega), vp_in_nI (by omega) (by omega), ?_⟩
  intro M3 e3
  refine ⟨vp_in_nI (by omega) (by omega), ?_⟩
  intro M4 e4
  rw [nI_clamp (by omega), nI_l hi] at e1
  rw [nI_clamp (by omega)] at e2
  rw [nI_clamp (by omega), zcl (by omega)] at e3
  rw [nI_clamp (by omega), nI_l hp] at e4
  rw [zm_nd, zad]
  refine ⟨vp_in_nI (by omega) (by omega), vp_in_nI (by omega) (by omega), ?_⟩
  intro M5 e5
  rw [nI_clamp (by omega)] at e5
  refine ⟨zvi (by omega) (by omega), zvi (by omega) (by omega), ?_⟩
  intro M6 e6
  rw [zcl (by omega)] at e6
  have en : M.2 47 0 5 = lN (zN S 20 0) := by rw [← z1.1]; exact zm_entered h.2
  have r3 : M2.2 47 0 5 = lN (zN S 20 0) := by
    rw [e2, zuL, if_neg (by omega), e1, zuL, if_neg (by omega)]; exact en
  rw [r3] at e3
  have r5 : M4.2 47 0 (130 + 12 * x + 11) = lN (zR S x).length := by
    rw [e4, zuL, if_neg (by omega), e3, zuL, if_neg (by omega), e2, zuL, if_neg (by omega), e1, zuL, if_neg (by omega)]; exact hl
  rw [r5, lN_1] at e5
  have r6 : M5.2 47 0 5 = lN (zN S 20 0) := by
    rw [e5, zuL, if_neg (by omega), e4, zuL, if_neg (by omega), e3, zuL, if_neg (by omega)]; exact r3
  rw [r6, lN_1] at e6
  have h5 : zMW M0 nn ar (zsQ S1 x (zins (zN S 8 x) (zelt S x item p t) (zQ S x)) (zR S x ++ [zelt S x item p t])) M5 := by
    refine ⟨?_, zM_VQ (v := M.2 47 0) hn2 ha2 hx h.2 (by rw [z1.2]; exact hqs) (fun a q1 q2 => ?_) ?_ (fun i e he => ?_)⟩
    · rw [e5, e4, e3, e2, e1]
      exact zFM_u (Or.inl rfl) (zFM_u (Or.inl rfl) (zFM_u (Or.inl rfl) (zFM_u (Or.inl rfl) (zFM_u (Or.inl rfl) h.1))))
    · rw [e5, zuL, if_neg (by omega), e4, zuL, if_neg (by omega), e3, zuL, if_neg (by omega), e2, zuL, if_neg (by omega), e1, zuL, if_neg (by omega)]
    · rw [e5, zuL, if_pos ⟨rfl, rfl, rfl⟩]
      simp
    · have hR : (zR S x)[i]? = some e ∨ (i = (zR S x).length ∧ e = zelt S x item p t) := by
        by_cases c : i < (zR S x).length
        · left
          rw [List.getElem?_append_left c] at he; exact he
        · right
          rw [List.getElem?_append_right (by omega)] at he
          have : i - (zR S x).length = 0 := by
            have := (List.getElem?_eq_some_iff.mp he).1
            simp at this; omega
          rw [this] at he
          simp at he
          exact ⟨by omega, he.symm⟩
      rcases hR with hR | ⟨rfl, rfl⟩
      · have hi2 := (List.getElem?_eq_some_iff.mp hR).1
        have := (h.2.2.2.2.1 x hx).2 i e (by rw [z1.2]; exact hR)
        rw [e5, e4, e3, e2, e1]
        simp only [zuL]
        refine ⟨?_, ?_, ?_, ?_⟩
        · rw [if_neg (by omega), if_neg (by omega), if_neg (by omega), if_neg (by omega), if_neg (by omega)]; exact this.1
        · rw [if_neg (by omega), if_neg (by omega), if_neg (by omega), if_neg (by omega), if_neg (by omega)]; exact this.2.1
        · rw [if_neg (by omega), if_neg (by omega), if_neg (by omega), if_neg (by omega), if_neg (by omega)]; exact this.2.2.1
        · rw [if_neg (by omega), if_neg (by omega), if_neg (by omega), if_neg (by omega), if_neg (by omega)]; exact this.2.2.2
      · rw [e5, e4, e3, e2, e1]
        simp only [zuL]
        refine ⟨?_, ?_, ?_, ?_⟩
        · rw [if_neg (by omega), if_neg (by omega), if_neg (by omega), if_neg (by omega), if_pos ⟨trivial, trivial, trivial⟩]; rfl
        · rw [if_neg (by omega), if_neg (by omega), if_neg (by omega), if_pos ⟨trivial, trivial, trivial⟩]; rfl
        · rw [if_neg (by omega), if_neg (by omega), if_pos ⟨trivial, trivial, trivial⟩]; rfl
        · rw [if_neg (by omega), if_pos ⟨trivial, trivial, trivial⟩]; rfl
  refine hK M6 ?_
  rw [e6]
  exact zMW_uN (i := 20) (j := 0) hn2 ha2 (by unfold zokM; omega) (by omega) h5
theorem zm_enter {M0 : gM} {nn ar x item p : Nat} {wt t : Int64} {M : gM} {S : zW} {K : gM → Prop} (h : zMW M0 nn ar S M) (hn2 : nn ≤ 12) (ha2 : ar ≤ 500) (hp : p < ar) (he : zEn S nn x item p) (hi : item < 2 ^ 31) (hw : wt = lN (zwt S x (zkey S x item p))) (hl : (zR S x).length = (zQ S x).length) (hqs : ∀ y, y < nn → (zR S y).length ≤ 64) (hK : ∀ M', zMW M0 nn ar (zenter S x item p t) M' → K M') : wp_X9_enters 0 (nI x) (nI item) (nI (zkey S x item p)) wt (nI p) t M K := by
  obtain ⟨hx, hc, hk, hw1, hw2, ⟨g1, g2, g3, g4, g5, g6, g7⟩, hq, ht, hlen, hqt⟩ := he
  have hk16 := zkey_lt hn2 hk
  unfold wp_X9_enters
  refine zm_takesPacket h ha2 hp (fun M1 h1 p0 p1 p2 => ?_)
  refine zm_prepares h1 hn2 hx hk16 hw hl (fun M2 h2 v0 v1 => ?_)
  rw [zm_nd, zad]
  refine ⟨vp_in_nI (by omega) (by omega), ?_⟩
  rw [zm_nd, zad]
  refine ⟨vp_in_nI (by omega) (by omega), ?_⟩
  rw [nI_clamp (by omega), nI_clamp (by omega), zm_rankAt h2.2 hx, (h2.2.2.2.1.2.1 x hx).1]
  have hvv : ∀ j, j < 9 → M2.2 58 0 j = zvar S x (zkey S x item p) (zpr S p) (zln S p) (zL S 7 p) t 0 j := fun j hj => by
    by_cases c : 3 ≤ j
    · exact v1 _ _ _ _ j c hj
    · rw [v0 j (by omega)]
      rcases (show j = 0 ∨ j = 1 ∨ j = 2 by omega) with rfl | rfl | rfl
      · exact p0
      · exact p1
      · exact p2
  refine zm_value (hv := fun j => M2.2 58 0 j) (code := zN S 24) (by omega) (fun j hj hj2 => h2.2.2.2.1.2.2 j (by omega)) (fun j hj => rfl) g5 (fun M3 s3 => ?_)
  have erk : zval (fun j => M2.2 58 0 j) (zN S 24) (zN S 12 x - zN S 11 x) (zN S 11 x) = zrk S x (zkey S x item p) p t := by
    unfold zval zrk zrank zval
    rw [zev_congr hvv _ _ _ (fun j a b => g7 j a (by omega))]
  rw [erk]
  have h3 := zMW_SX (Or.inl rfl) h2 s3
  rw [zm_nd, zad]
  refine ⟨vp_in_nI (by omega) (by omega), ?_⟩
  rw [nI_clamp (by omega), (h3.2.2.2.1.2.1 x hx).2]
  by_cases c : zN S 12 x < zN S 13 x
  · rw [if_neg (zj_nle (c := 0) (a := 0) rfl (by omega) (by omega))]
    refine ⟨zvi (by omega) (by omega), ?_⟩
    intro M4 e4
    rw [zcl (by omega)] at e4
    have h4 : zMW M0 nn ar S M4 := by rw [e4]; exact zMW_scr (Or.inr rfl) h3
    rw [zm_nd, zad]
    refine ⟨vp_in_nI (by omega) (by omega), ?_⟩
    rw [zm_nd, zad]
    refine ⟨vp_in_nI (by omega) (by omega), ?_⟩
    rw [nI_clamp (by omega), nI_clamp (by omega), zm_stateAt h4.2 hx, (h4.2.2.2.1.2.1 x hx).2]
    refine zm_value (hv := zvar S x (zkey S x item p) (zpr S p) (zln S p) (zL S 7 p) t (zrk S x (zkey S x item p) p t)) (code := zN S 24) (by omega) (fun j hj hj2 => h4.2.2.2.1.2.2 j (by omega)) (fun j hj => ?_) (g6 c) (fun M5 s5 => ?_)
    · rw [e4, zuL]
      by_cases c9 : j = 9
      · subst c9
        simp [zvar]
      · rw [if_neg (by omega), s3.2 _ _ (by decide), hvv j (by omega)]
        rcases (show j = 0 ∨ j = 1 ∨ j = 2 ∨ j = 3 ∨ j = 4 ∨ j = 5 ∨ j = 6 ∨ j = 7 ∨ j = 8 by omega) with rfl | rfl | rfl | rfl | rfl | rfl | rfl | rfl | rfl <;> rfl
    · have h5 := zMW_SX (Or.inl rfl) h4 s5
      rw [zmu, zad2, nI_add]
      refine ⟨vp_in_nI (by omega) (by omega), ?_⟩
      intro M6 e6
      rw [nI_clamp (by omega)] at e6
      have h6 : zMW M0 nn ar (zst S x item p t) M6 := by
        have := zMW_uL (i := 5) (j := 16 * x + zkey S x item p) (x := zstate S x (zkey S x item p) (zpr S p) (zln S p) (zL S 7 p) t (zrk S x (zkey S x item p) p t)) hn2 ha2 (by unfold zokL; omega) h5
        unfold zst
        rw [if_pos c]
        have ee : g_uL M5 47 0 (zmAL 5 (16 * x + zkey S x item p)) (zstate S x (zkey S x item p) (zpr S p) (zln S p) (zL S 7 p) t (zrk S x (zkey S x item p) p t)) = M6 := by
          rw [e6]
          show g_uL M5 47 0 (280 + (16 * x + zkey S x item p)) _ = _
          rw [← Nat.add_assoc]
          rfl
        rw [ee] at this
        exact this
      refine zm_push (S := S) h6 hn2 ha2 hx (by omega) hi (by omega) hqs ?_ hK
      unfold zst
      rw [if_pos c]
      exact ⟨rfl, rfl⟩
  · rw [if_pos (zj_le (c := 0) (a := 0) rfl (by omega) (by omega))]
    have h3' : zMW M0 nn ar (zst S x item p t) M3 := by
      unfold zst
      rw [if_neg c]
      exact h3
    refine zm_push (S := S) h3' hn2 ha2 hx (by omega) hi (by omega) hqs ?_ hK
    unfold zst
    rw [if_neg c]
    exact ⟨rfl, rfl⟩
