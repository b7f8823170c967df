/-! the class: small questions, then enter -/
theorem zx_hasNode {w nn ar x : Nat} {M : gM} {S : zW} {K : Int32 → gM → Prop} (h : zC w nn ar M S) (hn : zN S 0 0 = nn) (hn2 : nn ≤ 12) (hx : x < 2 ^ 31) (hK : K (if x < nn then 1 else 0) M) : wp_X5_hasNode w (nI x) M K := by
  unfold wp_X5_hasNode
  rw [if_neg (nI_pos hx), zc_nodes h, hn]
  by_cases c : x < nn
  · rw [if_neg (nI_ge c (by omega)), if_neg (zk_nle (c := 12) (a := 12) rfl (by omega) (by omega))]
    rw [if_pos c] at hK; exact hK
  · rw [if_pos (nI_le (by omega) hx)]
    rw [if_neg c] at hK; exact hK
theorem zx_isLeaf {w nn ar x : Nat} {M : gM} {S : zW} {K : Int32 → gM → Prop} (h : zC w nn ar M S) (hn : zN S 0 0 = nn) (hn2 : nn ≤ 12) (hx : x < nn) (hc : zN S 19 x < 2 ^ 31) (hK : K (if zN S 19 x = 0 then 1 else 0) M) : wp_X5_isLeaf w (nI x) M K := by
  unfold wp_X5_isLeaf
  rw [if_neg (nI_pos (by omega)), zc_nodes h, hn, if_neg (nI_ge hx (by omega)), if_neg (zk_nle (c := 12) (a := 12) rfl (by omega) (by omega))]
  refine ⟨vp_in_nI (by omega) (by omega), ?_⟩
  rw [nI_clamp (by omega), zc_childCount h hx]
  by_cases c : zN S 19 x = 0
  · rw [if_pos c] at hK
    rw [c, if_pos (by decide : nI 0 = 0)]; exact hK
  · rw [if_neg c] at hK
    rw [if_neg (nI_ne0 (by omega) hc)]; exact hK
theorem zx_has {w nn ar p : Nat} {M : gM} {S : zW} {K : Int32 → gM → Prop} (h : zC w nn ar M S) (ha : zN S 1 0 = ar) (ha2 : ar ≤ 500) (hp : p < 2 ^ 31) (hK : K (if p < ar then 1 else 0) M) : wp_X4_has w (nI p) M K := by
  unfold wp_X4_has
  rw [if_neg (nI_pos hp), zc_arrived h, ha]
  by_cases c : p < ar
  · rw [if_neg (nI_ge c (by omega)), if_neg (zk_nle (c := 500) (a := 500) rfl (by omega) (by omega))]
    rw [if_pos c] at hK; exact hK
  · rw [if_pos (nI_le (by omega) hp)]
    rw [if_neg c] at hK; exact hK
/-- there is such a class at a node -/
def zcls (S : zW) (nn x key : Nat) : Prop := (zN S 19 x = 0 ∧ key < 16) ∨ (zN S 19 x ≠ 0 ∧ 0 < key ∧ key < nn ∧ zN S 18 key = x)
theorem zx_hasClass {w nn ar x key : Nat} {M : gM} {S : zW} {K : Int32 → gM → Prop} (h : zC w nn ar M S) (hn : zN S 0 0 = nn) (hn2 : nn ≤ 12) (hx : x < nn) (hc : zN S 19 x < 2 ^ 31) (hk : zcls S nn x key) (hK : K 1 M) : wp_X5_hasClass w (nI x) (nI key) M K := by
  unfold wp_X5_hasClass
  refine zx_isLeaf h hn hn2 hx hc ?_
  rcases hk with ⟨k1, k2⟩ | ⟨k1, k2, k3, k4⟩
  · rw [if_pos k1, if_neg (by decide), if_neg (nI_pos (by omega)), if_neg (zk_nle (c := 16) (a := 16) rfl (by omega) (by omega))]
    exact hK
  · rw [if_neg k1, if_pos rfl]
    refine zx_hasNode h hn hn2 (by omega) ?_
    rw [if_pos hx, if_neg (by decide)]
    refine zx_hasNode h hn hn2 (by omega) ?_
    rw [if_pos k3, if_neg (by decide)]
    refine ⟨vp_in_nI (by omega) (by omega), ?_⟩
    rw [nI_clamp (by omega), zc_parent h k2 k3, k4, if_pos rfl]
    exact hK
/-- the variables stand: those of a class from 3 to 8 -/
def zvars (M : gM) (hv : Nat → Int64) : Prop := ∀ j, 3 ≤ j → j < 9 → M.2 10 0 j = hv j
theorem zx_look {w nn ar x key : Nat} {t : Int64} {M : gM} {S : zW} {K : Int32 → gM → Prop} (h : zC w nn ar M S) (hn : zN S 0 0 = nn) (hn2 : nn ≤ 12) (hx : x < nn) (hc : zN S 19 x < 2 ^ 31) (hk : zcls S nn x key) (hw1 : ∀ f, f < 16 → zN S 3 f < 2 ^ 31) (hw2 : ∀ y, y < nn → zN S 14 y < 2 ^ 31) (hq : (zQ S x).length < 2 ^ 31) (hK : ∀ M', zSX 10 M M' → (∀ pr len dl r j, 3 ≤ j → j < 9 → M'.2 10 0 j = zvar S x key pr len dl t r j) → (∀ j, j < 3 ∨ j = 9 → M'.2 10 0 j = M.2 10 0 j) → K 1 M') : wp_X7_lookAround w (nI x) (nI key) t M K := by
  have hk16 : key < 16 := by rcases hk with k | k <;> omega
  unfold wp_X7_lookAround
  refine zx_hasClass h hn hn2 hx hc hk ?_
  rw [if_neg (by decide)]
  refine ⟨vp_in_nI (by omega) (by omega), ?_⟩
  refine zx_isLeaf h hn hn2 hx hc ?_
  have go : ∀ wt : Nat, wt < 2 ^ 31 → zwt S x key = wt → wp_X7_lookAround_b54 K w (nI key) t (12 * w + (nI x).toNatClampNeg) (nI wt) M := by
    intro wt hwt ewt
    unfold wp_X7_lookAround_b54
    refine ⟨vp_in_nI (by omega) (by omega), ?_⟩
    rw [nI_clamp (by omega), nI_clamp (by omega), nI_l (by omega), nI_l hwt, zc_state h hx hk16]
    unfold wp_X0_setClass
    refine ⟨vp_in_nI (n := 3) (by omega) (by omega), ?_⟩
    intro M1 e1
    refine ⟨vp_in_nI (n := 4) (by omega) (by omega), ?_⟩
    intro M2 e2
    refine ⟨vp_in_nI (n := 5) (by omega) (by omega), ?_⟩
    intro M3 e3
    have r1 : M3.2 3 (12 * w + x) 1 = zL S 4 x := by
      rw [e3, zuL, if_neg (by omega), e2, zuL, if_neg (by omega), e1, zuL, if_neg (by omega)]
      exact zc_virtual h hx
    have r2 : M3.1 3 (12 * w + x) 4 = nI (zQ S x).length := by
      rw [e3, e2, e1]
      exact (h.2.2.2.1 x hx).1
    rw [r1, r2, nI_l hq]
    unfold wp_X0_setMoment
    refine ⟨vp_in_nI (n := 6) (by omega) (by omega), ?_⟩
    intro M4 e4
    refine ⟨vp_in_nI (n := 7) (by omega) (by omega), ?_⟩
    intro M5 e5
    refine ⟨vp_in_nI (n := 8) (by omega) (by omega), ?_⟩
    intro M6 e6
    have l3 : (3 : Int32).toNatClampNeg = 3 := rfl
    have l4 : (4 : Int32).toNatClampNeg = 4 := rfl
    have l5 : (5 : Int32).toNatClampNeg = 5 := rfl
    have l6 : (6 : Int32).toNatClampNeg = 6 := rfl
    have l7 : (7 : Int32).toNatClampNeg = 7 := rfl
    have l8 : (8 : Int32).toNatClampNeg = 8 := rfl
    rw [l3] at e1; rw [l4] at e2; rw [l5] at e3; rw [l6] at e4; rw [l7] at e5; rw [l8] at e6
    refine hK M6 ?_ (fun pr len dl r j hj hj2 => ?_) (fun j hj => ?_)
    · refine ⟨by rw [e6, e5, e4, e3, e2, e1]; rfl, fun a b q => ?_⟩
      rw [e6, e5, e4, e3, e2, e1]
      funext c
      simp only [zuL]
      simp [q]
    · rw [e6, e5, e4, e3, e2, e1]
      simp only [zuL]
      rcases (show j = 3 ∨ j = 4 ∨ j = 5 ∨ j = 6 ∨ j = 7 ∨ j = 8 by omega) with rfl | rfl | rfl | rfl | rfl | rfl <;> simp [zvar, ewt]
    · rw [e6, e5, e4, e3, e2, e1]
      simp only [zuL]
      rw [if_neg (by omega), if_neg (by omega), if_neg (by omega), if_neg (by omega), if_neg (by omega), if_neg (by omega)]
  rcases hk with ⟨k1, k2⟩ | ⟨k1, k2, k3, k4⟩
  · rw [if_pos k1, if_neg (by decide)]
    refine ⟨vp_in_nI (by omega) (by omega), ?_⟩
    rw [show M.1 12 w (nI key).toNatClampNeg = nI (zN S 3 key) by rw [nI_clamp (by omega)]; exact zc_fweight h k2]
    exact go _ (hw1 key k2) (by unfold zwt; rw [if_pos k1])
  · rw [if_neg k1, if_pos rfl]
    refine ⟨vp_in_nI (by omega) (by omega), ?_⟩
    rw [show M.1 3 (12 * w + (nI key).toNatClampNeg) 0 = nI (zN S 14 key) by rw [nI_clamp (by omega)]; exact zc_nweight h k3]
    exact go _ (hw2 key k3) (by unfold zwt; rw [if_neg k1])
theorem zev_congr {h h' : Nat → Int64} {code : Nat → Nat} (hh : ∀ j, j < 9 → h j = h' j) : ∀ (n k : Nat) (s : List Int64), (∀ j, k ≤ j → j < k + n → code j ≠ 16) → zev h code n k s = zev h' code n k s
  | 0, _, _, _ => rfl
  | n + 1, k, s, hc => by
    have e : zev1 h (code k) s = zev1 h' (code k) s := by
      unfold zev1
      by_cases c7 : code k < 7
      · rw [if_pos c7, if_pos c7]
      · rw [if_neg c7, if_neg c7]
        by_cases c17 : code k < 17
        · have := hc k (by omega) (by omega)
          rw [if_pos c17, if_pos c17, hh _ (by omega)]
        · rw [if_neg c17, if_neg c17]
    show zev h code n (k + 1) (zev1 h (code k) s) = zev h' code n (k + 1) (zev1 h' (code k) s)
    rw [e]
    exact zev_congr hh n (k + 1) _ (fun j a b => hc j (by omega) (by omega))
/-- programs of a node are right -/
def zprog (S : zW) (x : Nat) : Prop := zN S 11 x < zN S 12 x ∧ zN S 12 x ≤ zN S 13 x ∧ zN S 13 x ≤ zN S 23 0 ∧ zN S 23 0 ≤ 120 ∧ zwf (zN S 24) (zN S 12 x - zN S 11 x) (zN S 11 x) 0 ∧ (zN S 12 x < zN S 13 x → zwf (zN S 24) (zN S 13 x - zN S 12 x) (zN S 12 x) 0) ∧ ∀ j, zN S 11 x ≤ j → j < zN S 12 x → zN S 24 j ≠ 16
theorem zC_gh {w nn ar i j v : Nat} {M : gM} {S : zW} (hi : i = 20 ∨ i = 21 ∨ i = 22) (h : zC w nn ar M S) : zC w nn ar M (zsN S i j v) := by
  obtain ⟨hN, hL, hX, hQ, hD⟩ := h
  refine ⟨fun a b ok => ?_, hL, ⟨hX.1, fun k hk => ?_⟩, hQ, hD⟩
  · have ok' : zokC nn ar S a b := by
      unfold zokC at ok ⊢
      rw [zN_sN, if_neg (by omega)] at ok
      exact ok
    rw [zN_sN, if_neg (by unfold zokC at ok'; omega)]
    exact hN a b ok'
  · rw [zN_sN, if_neg (by omega)] at hk ⊢
    exact hX.2 k hk
/-- what an enter wants of a world -/
def zEn (S : zW) (nn x item p : Nat) : Prop := x < nn ∧ zN S 19 x < 2 ^ 31 ∧ zcls S nn x (zkey S x item p) ∧ (∀ f, f < 16 → zN S 3 f < 2 ^ 31) ∧ (∀ y, y < nn → zN S 14 y < 2 ^ 31) ∧ zprog S x ∧ (zQ S x).length < 64 ∧ zN S 8 x ≤ 3 ∧ zN S 16 p < 2 ^ 31 ∧ (∀ b ∈ zQ S x, b.2.2.1 < 2 ^ 31)
theorem zkey_lt {S : zW} {nn x key : Nat} (hn : nn ≤ 12) (h : zcls S nn x key) : key < 16 := by rcases h with k | k <;> omega
theorem zc_enter {M0 : gM} {w nn ar x item p : Nat} {t : Int64} {M : gM} {S : zW} {K : gM → Prop} (h : zCW M0 w nn ar S M) (hn : zN S 0 0 = nn) (hn2 : nn ≤ 12) (ha2 : ar ≤ 500) (hp : p < ar) (he : zEn S nn x item p) (hm : zmono (zN S 8 x) (zelt S x item p t) (zQ S x)) (hi : item < 2 ^ 31) (hv : M.2 10 0 0 = zpr S p ∧ M.2 10 0 1 = zln S p ∧ M.2 10 0 2 = zL S 7 p) (hK : ∀ M', zCW M0 w nn ar (zenter S x item p t) M' → (∀ j, j < 3 → M'.2 10 0 j = M.2 10 0 j) → K M') : wp_X7_enter w (nI x) (nI item) (nI p) t M K := by
  obtain ⟨hx, hc, hk, hw1, hw2, ⟨g1, g2, g3, g4, g5, g6, g7⟩, hq, ht, hlen, hqt⟩ := he
  have hk16 := zkey_lt hn2 hk
  have go : wp_X7_enter_b24 K w (nI x) (nI item) (nI p) t (nI (zkey S x item p)) M := by
    unfold wp_X7_enter_b24
    refine zx_look h.2 hn hn2 hx hc hk hw1 hw2 (by omega) (fun M1 s1 v1 v1' => ?_)
    rw [if_neg (by decide)]
    have h1 : zCW M0 w nn ar S M1 := ⟨fun k o q => by
      have hk : k ≠ 10 := fun z => q (by unfold zin; omega)
      rw [s1.1, s1.2 k o hk]
      exact h.1 k o q, by
      obtain ⟨hN, hL, hX, hQ, hD⟩ := h.2
      have hk : ∀ i, i < 9 → zcKL i ≠ 10 := by decide
      refine ⟨fun a b ok => ?_, fun a b ok => ?_, ⟨?_, fun k hk => ?_⟩, fun x hx => ⟨?_, fun k e he => ?_⟩, ?_, fun k e he => ?_⟩
      · rw [s1.1]; exact hN a b ok
      · rw [s1.2 _ _ (hk a (by unfold zokL at ok; omega))]; exact hL a b ok
      · rw [s1.1]; exact hX.1
      · rw [s1.1]; exact hX.2 k hk
      · rw [s1.1]; exact (hQ x hx).1
      · rw [s1.1, s1.2 _ _ (by decide)]; exact (hQ x hx).2 k e he
      · rw [s1.1]; exact hD.1
      · rw [s1.1, s1.2 _ _ (by decide)]; exact hD.2 k e he⟩
    refine ⟨vp_in_nI (by omega) (by omega), ?_⟩
    intro n48 e48
    refine ⟨vp_in_nI (by omega) (by omega), ?_⟩
    intro n59 e59
    refine ⟨vp_in_nI (by omega) (by omega), ?_⟩
    rw [nI_clamp (by omega)] at e48 e59
    rw [zc_stateFrom h1.2 hx] at e48
    rw [zc_progEnd h1.2 hx] at e59
    subst e48; subst e59
    rw [nI_clamp (by omega), zc_rankFrom h1.2 hx]
    have er : nI (zN S 12 x) = nI (zN S 11 x + (zN S 12 x - zN S 11 x)) := by congr 1; omega
    rw [er]
    refine zc_value (hv := fun j => M1.2 10 0 j) (code := zN S 24) (by omega) (fun j hj hj2 => h1.2.2.2.1.2 j (by omega)) (fun j hj => rfl) g5 (fun M2 s2 => ?_)
    rw [← er]
    have hvv : ∀ j, j < 9 → M1.2 10 0 j = zvar S x (zkey S x item p) (zpr S p) (zln S p) (zL S 7 p) t 0 j := fun j hj => by
      by_cases c : 3 ≤ j
      · exact v1 _ _ _ _ j c hj
      · rw [v1' j (by omega)]
        rcases (show j = 0 ∨ j = 1 ∨ j = 2 by omega) with rfl | rfl | rfl
        · exact hv.1
        · exact hv.2.1
        · exact hv.2.2
    have erk : zval (fun j => M1.2 10 0 j) (zN S 24) (zN S 12 x - zN S 11 x) (zN S 11 x) = zrk S x (zkey S x item p) p t := by
      unfold zval zrk zrank zval
      rw [zev_congr hvv _ _ _ (fun j a b => g7 j a (by omega))]
    rw [erk]
    have h2 := zCW_SX h1 s2
    have fin : ∀ (M3 : gM), zCW M0 w nn ar (zst S x item p t) M3 → (∀ j, j < 3 → M3.2 10 0 j = M.2 10 0 j) → wp_X7_enter_b128 K w (nI x) (nI item) (nI p) (nI (zkey S x item p)) (zrk S x (zkey S x item p) p t) M3 := by
      intro M3 h3 hv3
      have zs : zN (zst S x item p t) = zN S ∧ zQ (zst S x item p t) = zQ S ∧ zR (zst S x item p t) = zR S := by
        unfold zst
        by_cases c : zN S 12 x < zN S 13 x
        · rw [if_pos c]; exact ⟨rfl, rfl, rfl⟩
        · rw [if_neg c]; exact ⟨rfl, rfl, rfl⟩
      unfold wp_X7_enter_b128
      refine ⟨vp_in_nI (by omega) (by omega), ?_⟩
      intro n137 e137
      rw [nI_clamp (by omega), zc_tie h3.2 hx, zs.1] at e137
      subst e137
      have fin2 : wp_X7_enter_b169 K w (nI x) (nI item) (zrk S x (zkey S x item p) p t) (nI (zN S 8 x)) (nI (ztie S x (zkey S x item p) p)) M3 := by
        unfold wp_X7_enter_b169
        refine ⟨vp_in_nI (by omega) (by omega), ?_⟩
        have tb : ztie S x (zkey S x item p) p < 2 ^ 31 := by
          unfold ztie
          split
          · exact hlen
          · split <;> omega
        have ins : wp_X3_insert (12 * w + x) (nI (zelt S x item p t).1) (zelt S x item p t).2.1 (nI (zelt S x item p t).2.2.1) (if zN S 8 x = 1 then 1 else 0) M3 (fun M193 => K M193) := by
          have q3 := h3.2.2.2.2.1 x hx
          rw [zs.2.1] at q3
          refine zc_insert hq tb hqt hm q3.1 q3.2 (fun M4 s4 l4 a4 => ?_)
          refine hK M4 ?_ (fun j hj => ?_)
          · have := zCW_SQ (r := zR S x ++ [zelt S x item p t]) (by omega) h3 s4 l4 a4
            exact ⟨this.1, zC_gh (Or.inl rfl) this.2⟩
          · rw [s4.2 _ _ _ (by omega)]; exact hv3 j hj
        rw [nI_clamp (by omega)]
        by_cases c : zN S 8 x = 1
        · rw [if_pos c] at ins
          rw [c, if_pos (by decide : nI 1 = 1)]
          exact ins
        · rw [if_neg c] at ins
          rw [if_neg (zk_ne (c := 1) (a := 1) rfl c (by omega) (by omega))]
          exact ins
      have e2 : (nI (zN S 8 x) = 2) ↔ zN S 8 x = 2 := nI_eq (b := 2) (by omega) (by omega)
      have e3 : (nI (zN S 8 x) = 3) ↔ zN S 8 x = 3 := nI_eq (b := 3) (by omega) (by omega)
      by_cases c2 : zN S 8 x = 2
      · rw [if_pos (e2.mpr c2)]
        refine ⟨vp_in_nI (by omega) (by omega), ?_⟩
        rw [nI_clamp (by omega), zc_length h3.2 hp, zs.1]
        have : ztie S x (zkey S x item p) p = zN S 16 p := by unfold ztie; rw [if_pos c2]
        rw [this] at fin2
        exact fin2
      · rw [if_neg (fun q => c2 (e2.mp q))]
        by_cases c3 : zN S 8 x = 3
        · rw [if_pos (e3.mpr c3)]
          have : ztie S x (zkey S x item p) p = zkey S x item p := by unfold ztie; rw [if_neg c2, if_pos c3]
          rw [this] at fin2
          exact fin2
        · rw [if_neg (fun q => c3 (e3.mp q))]
          have : ztie S x (zkey S x item p) p = 0 := by unfold ztie; rw [if_neg c2, if_neg c3]
          rw [this] at fin2
          exact fin2
    by_cases c : zN S 12 x < zN S 13 x
    · rw [if_neg (nI_ge c (by omega))]
      unfold wp_X0_setRank
      refine ⟨vp_in_nI (n := 9) (by omega) (by omega), ?_⟩
      intro M3 e3
      have l9 : (9 : Int32).toNatClampNeg = 9 := rfl
      rw [l9] at e3
      have h3 : zCW M0 w nn ar S M3 := by rw [e3]; exact zCW_calc (Or.inl rfl) h2
      refine ⟨vp_in_nI (by omega) (by omega), ?_⟩
      have er2 : nI (zN S 13 x) = nI (zN S 12 x + (zN S 13 x - zN S 12 x)) := by congr 1; omega
      rw [er2]
      refine zc_value (hv := zvar S x (zkey S x item p) (zpr S p) (zln S p) (zL S 7 p) t (zrk S x (zkey S x item p) p t)) (code := zN S 24) (by omega) (fun j hj hj2 => h3.2.2.2.1.2 j (by omega)) (fun j hj => ?_) (g6 c) (fun M4 s4 => ?_)
      · rw [e3, zuL]
        by_cases c9 : j = 9
        · subst c9
          simp [zvar]
        · rw [if_neg (by omega), s2.2 _ _ (by decide), hvv j (by omega)]
          rcases (show j = 0 ∨ j = 1 ∨ j = 2 ∨ j = 3 ∨ j = 4 ∨ j = 5 ∨ j = 6 ∨ j = 7 ∨ j = 8 by omega) with rfl | rfl | rfl | rfl | rfl | rfl | rfl | rfl | rfl <;> rfl
      · refine ⟨vp_in_nI (by omega) (by omega), ?_⟩
        intro M5 e5
        rw [nI_clamp (by omega)] at e5
        refine fin M5 ?_ (fun j hj => ?_)
        · have h4 := zCW_SX h3 s4
          have := zCW_uL (i := 5) (j := 16 * x + zkey S x item p) (v := zstate S x (zkey S x item p) (zpr S p) (zln S p) (zL S 7 p) t (zrk S x (zkey S x item p) p t)) (by omega) (by omega) (by omega) h4
          unfold zst
          rw [if_pos c]
          have ee : g_uL M4 (zcKL 5) (zcOL 5 w (16 * x + zkey S x item p)) (zcSL 5 (16 * x + zkey S x item p)) (zstate S x (zkey S x item p) (zpr S p) (zln S p) (zL S 7 p) t (zrk S x (zkey S x item p) p t)) = M5 := by
            rw [e5]
            show g_uL M4 22 (12 * w + (16 * x + zkey S x item p) / 16) ((16 * x + zkey S x item p) % 16) _ = _
            rw [show (16 * x + zkey S x item p) / 16 = x by omega, show (16 * x + zkey S x item p) % 16 = zkey S x item p by omega]
            rfl
          rw [ee] at this
          exact this
        · rw [e5, zuL, if_neg (by omega), s4.2 _ _ (by decide), e3, zuL, if_neg (by omega), s2.2 _ _ (by decide), v1' j (by omega)]
    · rw [if_pos (nI_le (by omega) (by omega))]
      refine fin M2 ?_ (fun j hj => ?_)
      · unfold zst
        rw [if_neg c]
        exact h2
      · rw [s2.2 _ _ (by decide), v1' j (by omega)]
  unfold wp_X7_enter
  refine zx_isLeaf h.2 hn hn2 hx hc ?_
  by_cases c : zN S 19 x = 0
  · rw [if_pos c, if_neg (by decide)]
    refine ⟨vp_in_nI (by omega) (by omega), ?_⟩
    rw [nI_clamp (by omega), zc_flow h.2 hp]
    have : zkey S x item p = zN S 15 p := by unfold zkey; rw [if_pos c]
    rw [← this]; exact go
  · rw [if_neg c, if_pos rfl]
    have : zkey S x item p = item := by unfold zkey; rw [if_neg c]
    rw [this] at go; exact go
