/-! the class reads: what its reader holds -/
def zcs (s : Nat) : Nat := if s = 0 then 43 else if s = 1 then 45 else if s = 2 then 42 else if s = 3 then 47 else if s = 4 then 126 else if s = 5 then 71 else if s = 6 then 83 else if s = 7 then 40 else if s = 8 then 77 else 109
def zms (s : Nat) : Nat := if s = 0 then 43 else if s = 1 then 45 else if s = 2 then 42 else if s = 3 then 47 else if s = 4 then 117 else if s = 5 then 88 else if s = 6 then 120 else if s = 7 then 40 else if s = 8 then 77 else 109
def zrs (g : Nat → Nat) (p : Nat → Int32) : List Nat → Prop
  | [] => True
  | a :: s => p s.length = nI (g a) ∧ zrs g p s
theorem zrs_congr {g : Nat → Nat} {p p' : Nat → Int32} : ∀ {s : List Nat}, zrs g p s → (∀ k, k < s.length → p' k = p k) → zrs g p' s
  | [], _, _ => trivial
  | a :: s, h, e => ⟨(e s.length (by simp)).trans h.1, zrs_congr h.2 (fun k hk => e k (by simp; omega))⟩
/-- text, place, stack, codes -/
def zpc (lt : Nat → Nat) (len a : Nat) (st cd : List Nat) (M : gM) : Prop := M.1 6 0 2 = nI len ∧ M.1 6 0 3 = nI a ∧ (∀ i, i < len → M.1 41 0 i = nI (lt i)) ∧ M.1 6 0 8 = nI st.length ∧ zrs zcs (M.1 42 0) st ∧ M.1 5 5 10 = nI cd.length ∧ ∀ i c, cd[i]? = some c → M.1 40 5 i = zcst c
def zFe (M0 M : gM) : Prop := M.2 = M0.2 ∧ ∀ k o i, ¬ ((k = 6 ∧ o = 0 ∧ (i = 3 ∨ i = 8)) ∨ (k = 42 ∧ o = 0) ∨ (k = 5 ∧ o = 5 ∧ i = 10) ∨ (k = 40 ∧ o = 5)) → M.1 k o i = M0.1 k o i
theorem zFe_refl {M : gM} : zFe M M := ⟨rfl, fun _ _ _ _ => rfl⟩
theorem zFe_trans {M0 M1 M2 : gM} (h : zFe M0 M1) (h2 : zFe M1 M2) : zFe M0 M2 := ⟨h2.1.trans h.1, fun k o i q => (h2.2 k o i q).trans (h.2 k o i q)⟩
theorem zFe_u {M : gM} {k o i : Nat} {v : Int32} (h : (k = 6 ∧ o = 0 ∧ (i = 3 ∨ i = 8)) ∨ (k = 42 ∧ o = 0) ∨ (k = 5 ∧ o = 5 ∧ i = 10) ∨ (k = 40 ∧ o = 5)) : zFe M (g_uI M k o i v) := ⟨rfl, fun a b c q => by rw [zuI, if_neg (fun z => q (by rw [z.1, z.2.1, z.2.2]; exact h))]⟩
theorem znar2 {a : Nat} (h : a < 65536) : narrow .char (.int (nI a)) = .int (nI a) := by
  have e := (znar h).2
  have e2 : narrow .char (.int (nI a)) = .int (vp_nar .char (nI a)) := rfl
  rw [e2, e]
theorem zx_sign {lt : Nat → Nat} {len a : Nat} {st cd : List Nat} {M : gM} {K : Int32 → gM → Prop} (h : zpc lt len a st cd M) (hl : zlok lt len) (ha : a ≤ len) (hK : K (nI (lt a)) M) : wp_X6_sign 0 M K := by
  have hlen := hl.1
  unfold wp_X6_sign
  rw [h.2.1, h.1, if_neg (nI_pos (by omega))]
  by_cases c : a < len
  · have := hl.2.1 a c
    rw [if_neg (nI_ge c (by omega)), if_neg (zk_nle (c := 120) (a := 120) rfl (by omega) (by omega))]
    refine ⟨vp_in_nI (by omega) (by omega), ?_⟩
    rw [nI_clamp (by omega), h.2.2.1 a c]
    exact ⟨znar2 (by omega), hK⟩
  · rw [if_pos (nI_le (by omega) (by omega))]
    rw [hl.2.2 a (by omega)] at hK
    exact hK
theorem zx_isDigit {c : Nat} {M : gM} {K : Int32 → gM → Prop} (hc : c < 2 ^ 31) (h1 : 48 ≤ c ∧ c ≤ 57 → K 1 M) (h0 : ¬ (48 ≤ c ∧ c ≤ 57) → K 0 M) : wp_X6_isDigit (nI c) M K := by
  unfold wp_X6_isDigit
  by_cases c1 : c < 48
  · rw [if_pos (zk_lt (c := 48) (a := 48) rfl c1 (by omega))]; exact h0 (by omega)
  · rw [if_neg (zk_nlt (c := 48) (a := 48) rfl (by omega) hc)]
    have e57 : (57 : Int32) = nI 57 := rfl
    by_cases c2 : 57 < c
    · rw [if_pos (by rw [e57]; exact nI_lt c2 hc)]; exact h0 (by omega)
    · rw [if_neg (by rw [e57]; exact nI_nlt (by omega) (by omega))]; exact h1 (by omega)
theorem zlt_b {lt : Nat → Nat} {len i : Nat} (hl : zlok lt len) : lt i ≤ 126 := by
  by_cases c : i < len
  · exact (hl.2.1 i c).2
  · rw [hl.2.2 i (by omega)]; omega
/-- one step ahead -/
theorem zpc_at {lt : Nat → Nat} {len a a' : Nat} {st cd : List Nat} {M : gM} (h : zpc lt len a st cd M) : zpc lt len a' st cd (g_uI M 6 0 3 (nI a')) := by
  obtain ⟨h1, h2, h3, h4, h5, h6, h7⟩ := h
  have e : ∀ k o, k ≠ 6 → (g_uI M 6 0 3 (nI a')).1 k o = M.1 k o := fun k o hk => by
    show (if k = 6 ∧ o = 0 then _ else M.1 k o) = _
    rw [if_neg (by omega)]
  refine ⟨?_, ?_, fun i hi => ?_, ?_, ?_, ?_, fun i c hc => ?_⟩
  · rw [zuI, if_neg (by omega)]; exact h1
  · rw [zuI, if_pos ⟨rfl, rfl, rfl⟩]
  · rw [e 41 0 (by omega)]; exact h3 i hi
  · rw [zuI, if_neg (by omega)]; exact h4
  · rw [e 42 0 (by omega)]; exact h5
  · rw [e 5 5 (by omega)]; exact h6
  · rw [e 40 5 (by omega)]; exact h7 i c hc
theorem zx_emit {lt : Nat → Nat} {len a : Nat} {st cd : List Nat} {c : Nat} {v : Int32} {M : gM} {K : gM → Prop} (h : zpc lt len a st cd M) (hl : cd.length < 120) (hv : v = zcst c) (hK : ∀ M', zpc lt len a st (cd ++ [c]) M' → zFe M M' → K M') : wp_X5_emit 5 v M K := by
  obtain ⟨h1, h2, h3, h4, h5, h6, h7⟩ := h
  unfold wp_X5_emit
  rw [h6, if_neg (nI_pos (by omega)), if_neg (zk_nle (c := 120) (a := 120) rfl hl (by omega))]
  refine ⟨vp_in_nI hl (by omega), ?_⟩
  intro M1 e1 M2 e2
  rw [nI_clamp (by omega), hv] at e1
  have e5 : M1.1 5 5 10 = nI cd.length := by rw [e1, zuI, if_neg (by omega)]; exact h6
  rw [e5, nI_1] at e2
  refine hK M2 ⟨?_, ?_, fun i hi => ?_, ?_, ?_, ?_, fun i d hd => ?_⟩ ?_
  · rw [e2, zuI, if_neg (by omega), e1, zuI, if_neg (by omega)]; exact h1
  · rw [e2, zuI, if_neg (by omega), e1, zuI, if_neg (by omega)]; exact h2
  · rw [e2, zuI, if_neg (by omega), e1, zuI, if_neg (by omega)]; exact h3 i hi
  · rw [e2, zuI, if_neg (by omega), e1, zuI, if_neg (by omega)]; exact h4
  · refine zrs_congr h5 (fun k hk => ?_)
    rw [e2, zuI, if_neg (by omega), e1, zuI, if_neg (by omega)]
  · rw [e2, zuI, if_pos ⟨rfl, rfl, rfl⟩]; simp
  · rw [e2, zuI, if_neg (by omega), e1, zuI]
    rcases ztx_get hd with q | q
    · rw [if_neg (by omega)]; exact h7 i d q.2
    · rw [if_pos ⟨rfl, rfl, q.1⟩, q.2]
  · rw [e2, e1]
    exact zFe_trans (zFe_u (by omega)) (zFe_u (by omega))
theorem zcs_b (s : Nat) : zcs s < 65536 := by
  unfold zcs
  repeat' split
  all_goals omega
theorem zx_push {lt : Nat → Nat} {len a s : Nat} {st cd : List Nat} {v : Int32} {M : gM} {K : gM → Prop} (h : zpc lt len a st cd M) (hl : st.length < 120) (hv : v = nI (zcs s)) (hK : ∀ M', zpc lt len a (s :: st) cd M' → zFe M M' → K M') : wp_X6_pushOpen 0 v M K := by
  obtain ⟨h1, h2, h3, h4, h5, h6, h7⟩ := h
  unfold wp_X6_pushOpen
  rw [h4, if_neg (nI_pos (by omega)), if_neg (zk_nle (c := 120) (a := 120) rfl hl (by omega))]
  refine ⟨vp_in_nI hl (by omega), ?_⟩
  intro M1 e1 M2 e2
  rw [nI_clamp (by omega), hv, (znar (zcs_b s)).2] at e1
  have e5 : M1.1 6 0 8 = nI st.length := by rw [e1, zuI, if_neg (by omega)]; exact h4
  rw [e5, nI_1] at e2
  refine hK M2 ⟨?_, ?_, fun i hi => ?_, ?_, ⟨?_, ?_⟩, ?_, fun i d hd => ?_⟩ ?_
  · rw [e2, zuI, if_neg (by omega), e1, zuI, if_neg (by omega)]; exact h1
  · rw [e2, zuI, if_neg (by omega), e1, zuI, if_neg (by omega)]; exact h2
  · rw [e2, zuI, if_neg (by omega), e1, zuI, if_neg (by omega)]; exact h3 i hi
  · rw [e2, zuI, if_pos ⟨rfl, rfl, rfl⟩]; simp
  · rw [e2, zuI, if_neg (by omega), e1, zuI, if_pos ⟨rfl, rfl, rfl⟩]
  · refine zrs_congr h5 (fun k hk => ?_)
    rw [e2, zuI, if_neg (by omega), e1, zuI, if_neg (by omega)]
  · rw [e2, zuI, if_neg (by omega), e1, zuI, if_neg (by omega)]; exact h6
  · rw [e2, zuI, if_neg (by omega), e1, zuI, if_neg (by omega)]; exact h7 i d hd
  · rw [e2, e1]
    exact zFe_trans (zFe_u (by omega)) (zFe_u (by omega))
theorem zx_top {lt : Nat → Nat} {len a : Nat} {st cd : List Nat} {M : gM} {K : Int32 → gM → Prop} (h : zpc lt len a st cd M) (hl : st.length ≤ 120) (h0 : st = [] → K 0 M) (h1 : ∀ s t, st = s :: t → K (nI (zcs s)) M) : wp_X6_topOpen 0 M K := by
  unfold wp_X6_topOpen
  rw [h.2.2.2.1]
  match st, h, h0, h1, hl with
  | [], h, h0, _, _ => exact (if_pos (by decide)).mpr (h0 rfl)
  | s :: t, h, _, h1, hl =>
    have e120 : (120 : Int32) = nI 120 := rfl
    rw [if_neg (zk_nle2 (c := 0) (a := 0) rfl (by simp) (by simp at hl ⊢; omega)), if_neg (by rw [e120]; exact nI_nlt (by simp at hl ⊢; omega) (by omega)), zn_s1 (by simp)]
    simp only [List.length_cons, Nat.add_sub_cancel] at hl ⊢
    refine ⟨vp_in_nI (by omega) (by omega), ?_⟩
    rw [nI_clamp (by omega), h.2.2.2.2.1.1]
    exact ⟨znar2 (zcs_b s), h1 s t rfl⟩
/-- the top goes -/
theorem zpc_pop {lt : Nat → Nat} {len a s : Nat} {t cd : List Nat} {M : gM} (h : zpc lt len a (s :: t) cd M) : zpc lt len a t cd (g_uI M 6 0 8 (nI t.length)) := by
  obtain ⟨h1, h2, h3, h4, h5, h6, h7⟩ := h
  have e : ∀ k o, k ≠ 6 → (g_uI M 6 0 8 (nI t.length)).1 k o = M.1 k o := fun k o hk => by
    show (if k = 6 ∧ o = 0 then _ else M.1 k o) = _
    rw [if_neg (by omega)]
  refine ⟨?_, ?_, fun i hi => ?_, ?_, ?_, ?_, fun i c hc => ?_⟩
  · rw [zuI, if_neg (by omega)]; exact h1
  · rw [zuI, if_neg (by omega)]; exact h2
  · rw [e 41 0 (by omega)]; exact h3 i hi
  · rw [zuI, if_pos ⟨rfl, rfl, rfl⟩]
  · rw [e 42 0 (by omega)]; exact h5.2
  · rw [e 5 5 (by omega)]; exact h6
  · rw [e 40 5 (by omega)]; exact h7 i c hc
theorem zx_pop4 {lt : Nat → Nat} {len a : Nat} {K : gM → Prop} : ∀ (st cd : List Nat) (M : gM), zpc lt len a st cd M → cd.length + st.length ≤ 120 → (∀ M', zpc lt len a (zpop4 st cd).1 (zpop4 st cd).2 M' → zFe M M' → K M') → wp_X6_closeNegations_L0 K (st.length + 1) 0 M
  | [], cd, M, h, hl, hK => by
    unfold wp_X6_closeNegations_L0
    rw [h.2.2.2.1]
    exact (if_pos (by decide)).mpr (hK M h zFe_refl)
  | s :: t, cd, M, h, hl, hK => by
    simp only [List.length_cons] at hl
    unfold wp_X6_closeNegations_L0
    rw [h.2.2.2.1, if_neg (zk_nle2 (c := 0) (a := 0) rfl (by simp) (by simp; omega))]
    refine zx_top h (by simp; omega) (fun e => by cases e) (fun s' t' e => ?_)
    injection e with e1 e2
    subst e1; subst e2
    unfold zpop4 at hK
    by_cases c : s = 4
    · subst c
      rw [if_pos rfl] at hK
      rw [if_pos (by decide)]
      refine zx_emit (c := 4) h (by omega) (by decide) (fun M1 h1 f1 => ?_)
      intro M2 e2
      rw [h1.2.2.2.1, zn_s1 (by simp)] at e2
      simp only [List.length_cons, Nat.add_sub_cancel] at e2
      have h2 := zpc_pop h1
      rw [← e2] at h2
      refine zx_pop4 t (cd ++ [4]) M2 h2 (by simp; omega) (fun M' a b => hK M' a (zFe_trans (zFe_trans f1 ?_) b))
      rw [e2]
      exact zFe_u (by omega)
    · rw [if_neg c] at hK
      rw [if_neg (fun q => by
        have := (nI_eq (b := 126) (by have := zcs_b s; omega) (by omega)).mp q
        unfold zcs at this
        repeat' split at this
        all_goals omega)]
      exact hK M h zFe_refl
