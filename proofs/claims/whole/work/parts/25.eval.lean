/-! numbers -/
theorem zn_sub {a b : Nat} (h : b ≤ a) : nI a - nI b = nI (a - b) := by
  have : nI a = nI (a - b) + nI b := by rw [nI_add, Nat.sub_add_cancel h]
  rw [this, Int32.add_sub_cancel]
theorem zn_s1 {a : Nat} (h : 1 ≤ a) : nI a - 1 = nI (a - 1) := zn_sub h
theorem zn_s2 {a : Nat} (h : 2 ≤ a) : nI a - 2 = nI (a - 2) := zn_sub h
theorem zn_m1 {a : Nat} (h : 1 ≤ a) : nI a + Int32.ofInt (-1) = nI (a - 1) := by
  rw [← zn_s1 h, Int32.sub_eq_add_neg]; rfl
theorem zn_p1 (a : Nat) : nI a + Int32.ofInt 1 = nI (a + 1) := nI_add a 1
theorem zk_nle {c : Int32} {a k : Nat} (e : c = nI a) (h : k < a) (ha : a < 2 ^ 31) : ¬ c ≤ nI k := by
  rw [e]; exact nI_ge h ha
theorem zk_nle2 {c : Int32} {a k : Nat} (e : c = nI a) (h : a < k) (ha : k < 2 ^ 31) : ¬ nI k ≤ c := by
  rw [e]; exact nI_ge h ha
theorem zn_neg {a : Nat} (h : a < 2 ^ 31) : ¬ nI a = -1 := fun e => by
  have := congrArg Int32.toInt e
  rw [nI_toInt h] at this
  have h2 : (-1 : Int32).toInt = -1 := by decide
  omega
theorem zl_pos {a : Nat} (h : a < 2 ^ 31) : ¬ lN a < 0 := fun q => by
  have := (lN_lt h (by decide : 0 < 2 ^ 31)).mp q
  omega
theorem zl_le {a b : Int64} : a ≤ b ↔ ¬ b < a := by
  rw [Int64.le_iff_toInt_le, Int64.lt_iff_toInt_lt]; omega
theorem zl_anti {a b : Int64} (h : ¬ a < b) (h2 : ¬ b < a) : a = b := by
  rw [Int64.lt_iff_toInt_lt] at h h2
  exact Int64.toInt_inj.mp (by omega)
theorem zl_lt {a b : Int64} : a < b ↔ a.toInt < b.toInt := Int64.lt_iff_toInt_lt
theorem zl_le' {a b : Int64} : a ≤ b ↔ a.toInt ≤ b.toInt := Int64.le_iff_toInt_le
/-! steps: what they mean -/
def zjn (c : Nat) (a b : Int64) : Int64 := if c = 0 then a + b else if c = 1 then a - b else if c = 2 then a * b else if c = 3 then (if b = 0 then 0 else a / b) else if c = 5 then (if a < b then b else a) else (if b < a then b else a)
def zev1 (h : Nat → Int64) (c : Nat) (s : List Int64) : List Int64 :=
  if c < 7 then (if c = 4 then (match s with
    | a :: s => (-a) :: s
    | [] => []) else (match s with
    | b :: a :: s => zjn c a b :: s
    | s => s)) else if c < 17 then h (c - 7) :: s else lN (c - 17) :: s
def zev (h : Nat → Int64) (code : Nat → Nat) : Nat → Nat → List Int64 → List Int64
  | 0, _, s => s
  | n + 1, k, s => zev h code n (k + 1) (zev1 h (code k) s)
def znd (c d : Nat) : Nat := if c < 7 then (if c = 4 then d else d - 1) else d + 1
def zwf (code : Nat → Nat) : Nat → Nat → Nat → Prop
  | 0, _, d => d = 1
  | n + 1, k, d => code k < 1000017 ∧ (code k < 7 → 1 ≤ d) ∧ (code k < 7 → code k ≠ 4 → 2 ≤ d) ∧ zwf code n (k + 1) (znd (code k) d)
def zval (h : Nat → Int64) (code : Nat → Nat) (n k : Nat) : Int64 := (zev h code n k []).headD 0
def zrep (p : Nat → Int64) : List Int64 → Prop
  | [] => True
  | a :: s => p s.length = a ∧ zrep p s
theorem zrep_congr {p p' : Nat → Int64} : ∀ {s : List Int64}, zrep p s → (∀ k, k < s.length → p' k = p k) → zrep p' s
  | [], _, _ => trivial
  | a :: s, h, e => ⟨(e s.length (by simp)).trans h.1, zrep_congr h.2 (fun k hk => e k (by simp; omega))⟩
def zSX (k : Nat) (M M' : gM) : Prop := M'.1 = M.1 ∧ ∀ a b, a ≠ k → M'.2 a b = M.2 a b
theorem zSX_refl {k : Nat} {M : gM} : zSX k M M := ⟨rfl, fun _ _ _ => rfl⟩
theorem zSX_u {k o i : Nat} {M M' : gM} {v : Int64} (h : zSX k (g_uL M k o i v) M') : zSX k M M' := ⟨h.1, fun a b q => by
  rw [h.2 a b q]
  show (if a = k ∧ b = o then _ else M.2 a b) = _
  rw [if_neg (fun z => q z.1)]⟩
theorem zcst_op {c : Nat} (h : c < 7) (h4 : c ≠ 4) : zcst c < -10 ∧ ¬ zcst c = -126 := by
  rcases (show c = 0 ∨ c = 1 ∨ c = 2 ∨ c = 3 ∨ c = 5 ∨ c = 6 by omega) with rfl | rfl | rfl | rfl | rfl | rfl <;> decide
theorem zcst_var {c : Nat} (h : ¬ c < 7) (h2 : c < 17) : ¬ zcst c < -10 ∧ zcst c < 0 ∧ (-1) - zcst c = nI (c - 7) := by
  rcases (show c = 7 ∨ c = 8 ∨ c = 9 ∨ c = 10 ∨ c = 11 ∨ c = 12 ∨ c = 13 ∨ c = 14 ∨ c = 15 ∨ c = 16 by omega) with rfl | rfl | rfl | rfl | rfl | rfl | rfl | rfl | rfl | rfl <;> decide
theorem zcst_num {c : Nat} (h : ¬ c < 17) : zcst c = nI (c - 17) := by
  unfold zcst
  rw [if_neg (by omega), if_neg (by omega), if_neg (by omega), if_neg (by omega), if_neg (by omega), if_neg (by omega), if_neg (by omega), if_neg h]
theorem zv_comb {c : Nat} (h : c < 7) (h4 : c ≠ 4) {a b : Int64} {M : gM} {K : Int64 → gM → Prop} (hK : K (zjn c a b) M) : wp_X0_combine (-(zcst c)) a b M K := by
  unfold wp_X0_combine
  rcases (show c = 0 ∨ c = 1 ∨ c = 2 ∨ c = 3 ∨ c = 5 ∨ c = 6 by omega) with rfl | rfl | rfl | rfl | rfl | rfl
  · rw [if_neg (by decide), if_pos (by decide)]; exact hK
  · rw [if_neg (by decide), if_neg (by decide), if_pos (by decide)]; exact hK
  · rw [if_pos (by decide)]; exact hK
  · rw [if_neg (by decide), if_neg (by decide), if_neg (by decide), if_pos (by decide)]
    have e : zjn 3 a b = if b = 0 then 0 else a / b := rfl
    rw [e] at hK
    by_cases hb : b = 0
    · rw [if_pos hb] at hK ⊢; exact hK
    · rw [if_neg hb] at hK ⊢; exact ⟨hb, hK⟩
  · rw [if_neg (by decide), if_neg (by decide), if_neg (by decide), if_neg (by decide), if_pos (by decide)]
    have e : zjn 5 a b = if a < b then b else a := rfl
    rw [e] at hK
    by_cases hb : a < b
    · rw [if_pos hb] at hK ⊢; exact hK
    · rw [if_neg hb] at hK ⊢; exact hK
  · rw [if_neg (by decide), if_neg (by decide), if_neg (by decide), if_neg (by decide), if_neg (by decide)]
    have e : zjn 6 a b = if b < a then b else a := rfl
    rw [e] at hK
    by_cases hb : b < a
    · rw [if_pos hb] at hK ⊢; exact hK
    · rw [if_neg hb] at hK ⊢; exact hK
/-- the class's loop -/
theorem zv_loop {K : Int64 → gM → Prop} {w : Nat} {hv : Nat → Int64} {code : Nat → Nat} : ∀ (n k : Nat) (s : List Int64) (M : gM), k + n ≤ 120 → s.length ≤ k → (∀ j, k ≤ j → j < k + n → M.1 40 w j = zcst (code j)) → (∀ j, j < 10 → M.2 10 0 j = hv j) → zrep (M.2 11 0) s → zwf code n k s.length → (∀ M', zSX 11 M M' → K ((zev hv code n k s).headD 0) M') → wp_X0_valueOf_L6 K (n + 1) 0 w (nI (k + n)) (nI s.length) (nI k) M
  | 0, k, s, M, h1, h2, hc, hh, hr, hw, hK => by
    unfold wp_X0_valueOf_L6
    rw [if_neg (nI_pos (by omega)), if_pos (nI_le (by omega) (by omega))]
    refine ⟨vp_in_nI (n := 0) (by omega) (by omega), ?_⟩
    have hl : s.length = 1 := hw
    match s, hl, hr, hK with
    | [a], _, hr, hK =>
      have := hK M zSX_refl
      have e : M.2 11 0 (0 : Int32).toNatClampNeg = a := hr.1
      rw [e]; exact this
  | n + 1, k, s, M, h1, h2, hc, hh, hr, hw, hK => by
    obtain ⟨w1, w2, w3, w4⟩ := hw
    unfold wp_X0_valueOf_L6
    rw [if_neg (nI_pos (by omega)), if_neg (nI_ge (by omega) (by omega)), if_neg (zk_nle (c := 120) (a := 120) rfl (by omega) (by omega))]
    refine ⟨vp_in_nI (by omega) (by omega), ?_⟩
    intro n31 h31
    rw [nI_clamp (by omega), hc k (by omega) (by omega)] at h31
    subst h31
    have e1 : k + (n + 1) = (k + 1) + n := by omega
    have hd : s.length ≤ 120 := by omega
    by_cases c7 : code k < 7
    · by_cases c4 : code k = 4
      · rw [c4]
        rw [if_pos (by decide), if_pos (by decide), if_neg (nI_nle (w2 c7) (by omega))]
        have hd1 := w2 c7
        rw [zn_s1 hd1]
        refine ⟨vp_in_nI (by omega) (by omega), vp_in_nI (by omega) (by omega), ?_⟩
        intro M1 hM1 n157 h157
        rw [zn_p1] at h157
        subst h157
        rw [nI_clamp (by omega)] at hM1
        match s, hr, hK, hd1, w4, h2, hM1 with
        | a :: s, hr, hK, hd1, w4, h2, hM1 =>
          have el : (a :: s).length = ((-a) :: s).length := rfl
          have el1 : (a :: s).length - 1 = s.length := rfl
          rw [el1, hr.1] at hM1
          subst hM1
          rw [e1, el]
          refine zv_loop (hv := hv) (code := code) n (k + 1) ((-a) :: s) _ (by omega) (by simp at h2 ⊢; omega) (fun j hj hj2 => hc j (by omega) (by omega)) (fun j hj => ?_) ⟨?_, zrep_congr hr.2 (fun j hj => ?_)⟩ ?_ (fun M' hM' => ?_)
          · rw [zuL, if_neg (by omega)]; exact hh j hj
          · rw [zuL]; simp
          · rw [zuL, if_neg (by omega)]
          · rw [c4] at w4; exact w4
          · have := hK M' (zSX_u hM')
            simp only [zev, c4] at this
            exact this
      · have hd2 := w3 c7 c4
        obtain ⟨o1, o2⟩ := zcst_op c7 c4
        rw [if_pos o1, if_neg o2, if_neg (zk_nle2 (c := 1) (a := 1) rfl (by omega) (by omega))]
        intro n123 h123
        rw [zn_m1 (by omega)] at h123
        subst h123
        rw [zn_s1 (by omega)]
        refine ⟨vp_in_nI (by omega) (by omega), vp_in_nI (by omega) (by omega), ?_⟩
        refine zv_comb c7 c4 ?_
        refine ⟨vp_in_nI (by omega) (by omega), ?_⟩
        intro M1 hM1 n157 h157
        rw [zn_p1] at h157
        subst h157
        rw [nI_clamp (by omega), nI_clamp (by omega)] at hM1
        match s, hr, hK, hd2, w4, h2, hM1 with
        | b :: a :: s, hr, hK, hd1, w4, h2, hM1 =>
          have el1 : (b :: a :: s).length - 1 = s.length + 1 := rfl
          have el2 : s.length + 1 - 1 = s.length := rfl
          have er1 : M.2 11 0 (s.length + 1) = b := hr.1
          have er2 : M.2 11 0 s.length = a := hr.2.1
          rw [el1, el2, er1, er2] at hM1
          subst hM1
          rw [e1, el1]
          have el3 : s.length + 1 = (zjn (code k) a b :: s).length := rfl
          rw [el3]
          refine zv_loop (hv := hv) (code := code) n (k + 1) (zjn (code k) a b :: s) _ (by omega) (by simp at h2 ⊢; omega) (fun j hj hj2 => hc j (by omega) (by omega)) (fun j hj => ?_) ⟨?_, zrep_congr hr.2.2 (fun j hj => ?_)⟩ ?_ (fun M' hM' => ?_)
          · rw [zuL, if_neg (by omega)]; exact hh j hj
          · rw [zuL]; simp
          · rw [zuL, if_neg (by omega)]
          · have : znd (code k) (b :: a :: s).length = s.length + 1 := by
              unfold znd
              rw [if_pos c7, if_neg c4]; rfl
            rw [this] at w4; exact w4
          · have := hK M' (zSX_u hM')
            have e3 : zev1 hv (code k) (b :: a :: s) = zjn (code k) a b :: s := by
              unfold zev1
              rw [if_pos c7, if_neg c4]
            simp only [zev, e3] at this
            exact this
    · have w4' : zwf code n (k + 1) (s.length + 1) := by
        have : znd (code k) s.length = s.length + 1 := by unfold znd; rw [if_neg c7]
        rw [this] at w4; exact w4
      by_cases c17 : code k < 17
      · obtain ⟨o1, o2, o3⟩ := zcst_var c7 c17
        rw [if_neg o1, if_neg (zk_nle (c := 120) (a := 120) rfl (by omega) (by omega)), if_pos o2, o3]
        refine ⟨vp_in_nI (by omega) (by omega), ?_⟩
        unfold wp_X0_valueOf_b76
        refine ⟨vp_in_nI (by omega) (by omega), ?_⟩
        intro M1 hM1 n77 h77 n157 h157
        rw [zn_p1] at h157 h77
        subst h157; subst h77
        rw [nI_clamp (by omega), nI_clamp (by omega), hh _ (by omega)] at hM1
        subst hM1
        rw [e1]
        refine zv_loop (hv := hv) (code := code) n (k + 1) (hv (code k - 7) :: s) _ (by omega) (by simp; omega) (fun j hj hj2 => hc j (by omega) (by omega)) (fun j hj => ?_) ⟨?_, zrep_congr hr (fun j hj => ?_)⟩ w4' (fun M' hM' => ?_)
        · rw [zuL, if_neg (by omega)]; exact hh j hj
        · rw [zuL]; simp
        · rw [zuL, if_neg (by omega)]
        · have := hK M' (zSX_u hM')
          have e3 : zev1 hv (code k) s = hv (code k - 7) :: s := by
            unfold zev1
            rw [if_neg c7, if_pos c17]
          simp only [zev, e3] at this
          exact this
      · have hz := zcst_num c17
        rw [hz, if_neg (fun q => absurd q (Int32.not_lt.mpr (Int32.le_trans (by decide : (-10 : Int32) ≤ 0) (nI_pos' (by omega))))), if_neg (zk_nle (c := 120) (a := 120) rfl (by omega) (by omega)), if_neg (nI_pos (by omega))]
        unfold wp_X0_valueOf_b76
        refine ⟨vp_in_nI (by omega) (by omega), ?_⟩
        intro M1 hM1 n77 h77 n157 h157
        rw [zn_p1] at h157 h77
        subst h157; subst h77
        rw [nI_clamp (by omega), nI_l (by omega)] at hM1
        subst hM1
        rw [e1]
        refine zv_loop (hv := hv) (code := code) n (k + 1) (lN (code k - 17) :: s) _ (by omega) (by simp; omega) (fun j hj hj2 => hc j (by omega) (by omega)) (fun j hj => ?_) ⟨?_, zrep_congr hr (fun j hj => ?_)⟩ w4' (fun M' hM' => ?_)
        · rw [zuL, if_neg (by omega)]; exact hh j hj
        · rw [zuL]; simp
        · rw [zuL, if_neg (by omega)]
        · have := hK M' (zSX_u hM')
          have e3 : zev1 hv (code k) s = lN (code k - 17) :: s := by
            unfold zev1
            rw [if_neg c7, if_neg c17]
          simp only [zev, e3] at this
          exact this
theorem zc_value {K : Int64 → gM → Prop} {w : Nat} {hv : Nat → Int64} {code : Nat → Nat} {n k : Nat} {M : gM} (h1 : k + n ≤ 120) (hc : ∀ j, k ≤ j → j < k + n → M.1 40 w j = zcst (code j)) (hh : ∀ j, j < 10 → M.2 10 0 j = hv j) (hw : zwf code n k 0) (hK : ∀ M', zSX 11 M M' → K (zval hv code n k) M') : wp_X0_valueOf 0 w (nI k) (nI (k + n)) M K := ⟨n + 1, zv_loop n k [] M h1 (Nat.zero_le _) hc hh trivial hw hK⟩
/-- the reference's loop -/
theorem zmst_op {c : Nat} (h : c < 7) (h4 : c ≠ 4) : zmst c < 0 ∧ (-10) < zmst c ∧ ¬ zmst c = -5 := by
  rcases (show c = 0 ∨ c = 1 ∨ c = 2 ∨ c = 3 ∨ c = 5 ∨ c = 6 by omega) with rfl | rfl | rfl | rfl | rfl | rfl <;> decide
theorem zmst_var {c : Nat} (h : ¬ c < 7) (h2 : c < 17) : zmst c < 0 ∧ ¬ (-10) < zmst c ∧ ((-10) - zmst c).toInt32 = nI (c - 7) := by
  rcases (show c = 7 ∨ c = 8 ∨ c = 9 ∨ c = 10 ∨ c = 11 ∨ c = 12 ∨ c = 13 ∨ c = 14 ∨ c = 15 ∨ c = 16 by omega) with rfl | rfl | rfl | rfl | rfl | rfl | rfl | rfl | rfl | rfl <;> decide
theorem zmst_num {c : Nat} (h : ¬ c < 17) : zmst c = lN (c - 17) := by
  unfold zmst
  rw [if_neg (by omega), if_neg h]
theorem zw_comb {c : Nat} (h : c < 7) (h4 : c ≠ 4) {a b : Int64} {M : gM} {K : Int64 → gM → Prop} (hK : K (zjn c a b) M) : wp_X9_joined (zmst c) a b M K := by
  unfold wp_X9_joined
  rcases (show c = 0 ∨ c = 1 ∨ c = 2 ∨ c = 3 ∨ c = 5 ∨ c = 6 by omega) with rfl | rfl | rfl | rfl | rfl | rfl
  · rw [if_pos (by decide)]; exact hK
  · rw [if_neg (by decide), if_pos (by decide)]; exact hK
  · rw [if_neg (by decide), if_neg (by decide), if_pos (by decide)]; exact hK
  · rw [if_neg (by decide), if_neg (by decide), if_neg (by decide), if_pos (by decide)]
    have e : zjn 3 a b = if b = 0 then 0 else a / b := rfl
    rw [e] at hK
    by_cases hb : b = 0
    · rw [if_pos hb] at hK ⊢; exact hK
    · rw [if_neg hb] at hK ⊢; exact ⟨hb, hK⟩
  · rw [if_neg (by decide), if_neg (by decide), if_neg (by decide), if_neg (by decide), if_pos (by decide)]
    have e : zjn 5 a b = if a < b then b else a := rfl
    rw [e] at hK
    by_cases hb : a < b
    · rw [if_pos hb] at hK
      rw [if_pos (by rw [zl_le']; rw [zl_lt] at hb; omega)]; exact hK
    · rw [if_neg hb] at hK
      by_cases hb2 : b < a
      · rw [if_neg (by rw [zl_le']; rw [zl_lt] at hb2; omega)]; exact hK
      · have := zl_anti hb hb2
        subst this
        rw [if_pos (by rw [zl_le']; omega)]; exact hK
  · rw [if_neg (by decide), if_neg (by decide), if_neg (by decide), if_neg (by decide), if_neg (by decide)]
    have e : zjn 6 a b = if b < a then b else a := rfl
    rw [e] at hK
    by_cases hb : b < a
    · rw [if_pos hb] at hK
      rw [if_pos (by rw [zl_le']; rw [zl_lt] at hb; omega)]; exact hK
    · rw [if_neg hb] at hK
      by_cases hb2 : a < b
      · rw [if_neg (by rw [zl_le']; rw [zl_lt] at hb2; omega)]; exact hK
      · have := zl_anti hb hb2
        subst this
        rw [if_pos (by rw [zl_le']; omega)]; exact hK
theorem zw_loop {K : Int64 → gM → Prop} {hv : Nat → Int64} {code : Nat → Nat} {fr mn : Nat} : ∀ (n k : Nat) (s : List Int64) (M : gM), k + n = fr + mn → k + n ≤ 120 → s.length ≤ k → (∀ j, k ≤ j → j < k + n → M.2 47 0 (480 + j) = zmst (code j)) → (∀ j, j < 10 → M.2 58 0 j = hv j) → zrep (M.2 57 0) s → zwf code n k s.length → (∀ M', zSX 57 M M' → K ((zev hv code n k s).headD 0) M') → wp_X9_worked_L7 K (n + 1) 0 (lN fr) (lN mn) (nI s.length) (nI k) M
  | 0, k, s, M, h0, h1, h2, hc, hh, hr, hw, hK => by
    unfold wp_X9_worked_L7
    rw [lN_add, nI_l (by omega), if_pos ((lN_le (by omega) (by omega)).mpr (by omega))]
    refine ⟨vp_in_nI (n := 0) (by omega) (by omega), ?_⟩
    have hl : s.length = 1 := hw
    match s, hl, hr, hK with
    | [a], _, hr, hK =>
      have := hK M zSX_refl
      have e : M.2 57 0 (0 : Int32).toNatClampNeg = a := hr.1
      rw [e]; exact this
  | n + 1, k, s, M, h0, h1, h2, hc, hh, hr, hw, hK => by
    obtain ⟨w1, w2, w3, w4⟩ := hw
    unfold wp_X9_worked_L7
    have ea : (480 : Int32) + nI k = nI (480 + k) := nI_add 480 k
    rw [lN_add, nI_l (by omega), if_neg (fun q => absurd ((lN_le (by omega) (by omega)).mp q) (by omega)), ea]
    refine ⟨vp_in_nI (by omega) (by omega), ?_⟩
    intro n31 h31
    rw [nI_clamp (by omega), hc k (by omega) (by omega)] at h31
    subst h31
    have hd : s.length ≤ 120 := by omega
    by_cases c7 : code k < 7
    · by_cases c4 : code k = 4
      · rw [c4]
        rw [if_pos (by decide), if_pos (by decide), if_pos (by decide)]
        have hd1 := w2 c7
        rw [zn_s1 hd1]
        refine ⟨vp_in_nI (by omega) (by omega), vp_in_nI (by omega) (by omega), ?_⟩
        intro M1 hM1 n157 h157
        rw [zn_p1] at h157
        subst h157
        rw [nI_clamp (by omega)] at hM1
        match s, hr, hK, hd1, w4, h2, hM1 with
        | a :: s, hr, hK, hd1, w4, h2, hM1 =>
          have el : (a :: s).length = ((-a) :: s).length := rfl
          have el1 : (a :: s).length - 1 = s.length := rfl
          rw [el1, hr.1] at hM1
          subst hM1
          rw [el]
          refine zw_loop (hv := hv) (code := code) n (k + 1) ((-a) :: s) _ (by omega) (by omega) (by simp at h2 ⊢; omega) (fun j hj hj2 => ?_) (fun j hj => ?_) ⟨?_, zrep_congr hr.2 (fun j hj => ?_)⟩ ?_ (fun M' hM' => ?_)
          · rw [zuL, if_neg (by omega)]; exact hc j (by omega) (by omega)
          · rw [zuL, if_neg (by omega)]; exact hh j hj
          · rw [zuL]; simp
          · rw [zuL, if_neg (by omega)]
          · rw [c4] at w4; exact w4
          · have := hK M' (zSX_u hM')
            simp only [zev, c4] at this
            exact this
      · have hd2 := w3 c7 c4
        obtain ⟨o0, o1, o2⟩ := zmst_op c7 c4
        rw [if_pos o0, if_pos o1, if_neg o2, zn_s1 (by omega), zn_s2 (by omega)]
        refine ⟨vp_in_nI (by omega) (by omega), vp_in_nI (by omega) (by omega), ?_⟩
        refine zw_comb c7 c4 ?_
        refine ⟨vp_in_nI (by omega) (by omega), ?_⟩
        intro M1 hM1 n149 h149 n157 h157
        rw [zn_p1] at h157
        rw [zn_m1 (by omega)] at h149
        subst h157; subst h149
        rw [nI_clamp (by omega), nI_clamp (by omega)] at hM1
        match s, hr, hK, hd2, w4, h2, hM1 with
        | b :: a :: s, hr, hK, hd1, w4, h2, hM1 =>
          have el1 : (b :: a :: s).length - 1 = s.length + 1 := rfl
          have el2 : (b :: a :: s).length - 2 = s.length := rfl
          have er1 : M.2 57 0 (s.length + 1) = b := hr.1
          have er2 : M.2 57 0 s.length = a := hr.2.1
          rw [el1, el2, er1, er2] at hM1
          subst hM1
          rw [el1]
          have el3 : s.length + 1 = (zjn (code k) a b :: s).length := rfl
          rw [el3]
          refine zw_loop (hv := hv) (code := code) n (k + 1) (zjn (code k) a b :: s) _ (by omega) (by omega) (by simp at h2 ⊢; omega) (fun j hj hj2 => ?_) (fun j hj => ?_) ⟨?_, zrep_congr hr.2.2 (fun j hj => ?_)⟩ ?_ (fun M' hM' => ?_)
          · rw [zuL, if_neg (by omega)]; exact hc j (by omega) (by omega)
          · rw [zuL, if_neg (by omega)]; exact hh j hj
          · rw [zuL]; simp
          · rw [zuL, if_neg (by omega)]
          · have : znd (code k) (b :: a :: s).length = s.length + 1 := by
              unfold znd
              rw [if_pos c7, if_neg c4]; rfl
            rw [this] at w4; exact w4
          · have := hK M' (zSX_u hM')
            have e3 : zev1 hv (code k) (b :: a :: s) = zjn (code k) a b :: s := by
              unfold zev1
              rw [if_pos c7, if_neg c4]
            simp only [zev, e3] at this
            exact this
    · have w4' : zwf code n (k + 1) (s.length + 1) := by
        have : znd (code k) s.length = s.length + 1 := by unfold znd; rw [if_neg c7]
        rw [this] at w4; exact w4
      by_cases c17 : code k < 17
      · obtain ⟨o1, o2, o3⟩ := zmst_var c7 c17
        rw [if_pos o1, if_neg o2, o3]
        refine ⟨vp_in_nI (by omega) (by omega), vp_in_nI (by omega) (by omega), ?_⟩
        intro M1 hM1 n77 h77 n157 h157
        rw [zn_p1] at h157 h77
        subst h157; subst h77
        rw [nI_clamp (by omega), nI_clamp (by omega), hh _ (by omega)] at hM1
        subst hM1
        refine zw_loop (hv := hv) (code := code) n (k + 1) (hv (code k - 7) :: s) _ (by omega) (by omega) (by simp; omega) (fun j hj hj2 => ?_) (fun j hj => ?_) ⟨?_, zrep_congr hr (fun j hj => ?_)⟩ w4' (fun M' hM' => ?_)
        · rw [zuL, if_neg (by omega)]; exact hc j (by omega) (by omega)
        · rw [zuL, if_neg (by omega)]; exact hh j hj
        · rw [zuL]; simp
        · rw [zuL, if_neg (by omega)]
        · have := hK M' (zSX_u hM')
          have e3 : zev1 hv (code k) s = hv (code k - 7) :: s := by
            unfold zev1
            rw [if_neg c7, if_pos c17]
          simp only [zev, e3] at this
          exact this
      · have hz := zmst_num c17
        rw [hz, if_neg (zl_pos (by omega))]
        refine ⟨vp_in_nI (by omega) (by omega), ?_⟩
        intro M1 hM1 n77 h77 n157 h157
        rw [zn_p1] at h157 h77
        subst h157; subst h77
        rw [nI_clamp (by omega)] at hM1
        subst hM1
        refine zw_loop (hv := hv) (code := code) n (k + 1) (lN (code k - 17) :: s) _ (by omega) (by omega) (by simp; omega) (fun j hj hj2 => ?_) (fun j hj => ?_) ⟨?_, zrep_congr hr (fun j hj => ?_)⟩ w4' (fun M' hM' => ?_)
        · rw [zuL, if_neg (by omega)]; exact hc j (by omega) (by omega)
        · rw [zuL, if_neg (by omega)]; exact hh j hj
        · rw [zuL]; simp
        · rw [zuL, if_neg (by omega)]
        · have := hK M' (zSX_u hM')
          have e3 : zev1 hv (code k) s = lN (code k - 17) :: s := by
            unfold zev1
            rw [if_neg c7, if_neg c17]
          simp only [zev, e3] at this
          exact this
theorem zm_value {K : Int64 → gM → Prop} {hv : Nat → Int64} {code : Nat → Nat} {n k : Nat} {M : gM} (h1 : k + n ≤ 120) (hc : ∀ j, k ≤ j → j < k + n → M.2 47 0 (480 + j) = zmst (code j)) (hh : ∀ j, j < 10 → M.2 58 0 j = hv j) (hw : zwf code n k 0) (hK : ∀ M', zSX 57 M M' → K (zval hv code n k) M') : wp_X9_worked 0 (lN k) (lN n) M K := by
  intro n5 h5
  rw [lN_i] at h5
  subst h5
  exact ⟨n + 1, zw_loop n k [] M rfl h1 (Nat.zero_le _) hc hh trivial hw hK⟩
