/-- an operator, a comma, a bracket, the end -/
theorem zx_strL {c : Nat} {M : gM} {K : Int32 → gM → Prop} (hc : c ≤ 126) (hK : K (nI (if zop1 c < 4 then zstr (zop1 c) else 0)) M) : wp_X6_strengthOf (nI c) M K := by
  have t : ∀ c, c < 127 → (nI c = 42 ∧ nI (if zop1 c < 4 then zstr (zop1 c) else 0) = 2) ∨ (nI c ≠ 42 ∧ nI c = 47 ∧ nI (if zop1 c < 4 then zstr (zop1 c) else 0) = 2) ∨ (nI c ≠ 42 ∧ nI c ≠ 47 ∧ nI c = 43 ∧ nI (if zop1 c < 4 then zstr (zop1 c) else 0) = 1) ∨ (nI c ≠ 42 ∧ nI c ≠ 47 ∧ nI c ≠ 43 ∧ nI c = 45 ∧ nI (if zop1 c < 4 then zstr (zop1 c) else 0) = 1) ∨ (nI c ≠ 42 ∧ nI c ≠ 47 ∧ nI c ≠ 43 ∧ nI c ≠ 45 ∧ nI (if zop1 c < 4 then zstr (zop1 c) else 0) = 0) := by decide +kernel
  unfold wp_X6_strengthOf
  rcases t c (by omega) with ⟨a, e⟩ | ⟨a, b, e⟩ | ⟨a, b, d, e⟩ | ⟨a, b, d, g, e⟩ | ⟨a, b, d, g, e⟩
  · rw [e] at hK; rw [if_pos a]; exact hK
  · rw [e] at hK; rw [if_neg a, if_pos b]; exact hK
  · rw [e] at hK; rw [if_neg a, if_neg b, if_pos d]; exact hK
  · rw [e] at hK; rw [if_neg a, if_neg b, if_neg d, if_pos g]; exact hK
  · rw [e] at hK; rw [if_neg a, if_neg b, if_neg d, if_neg g]; exact hK
theorem zop1_cs : ∀ c, c < 127 → zop1 c < 4 → nI c = nI (zcs (zop1 c)) := by decide +kernel
theorem zop1_str (c : Nat) (h : zop1 c < 4) : zstr (zop1 c) = 1 ∨ zstr (zop1 c) = 2 := by unfold zstr; split <;> omega
theorem zx_oprt {lt : Nat → Nat} {rk len k0 a : Nat} {st cd : List Nat} {M : gM} {K : Int32 → gM → Prop} (hl : zlok lt len) (hi : zpi rk len k0 2 a st cd) (h : zpc lt len a st cd M) (h0 : (zoprt lt a st cd).1 = 0 → ∀ M', M'.1 6 0 3 = nI (zoprt lt a st cd).2.1 → zFe M M' → K 3 M') (h1 : (zoprt lt a st cd).1 = 1 → ∀ M', zpc lt len (zoprt lt a st cd).2.1 (zoprt lt a st cd).2.2.1 (zoprt lt a st cd).2.2.2 M' → zFe M M' → K 0 M') (h2 : (zoprt lt a st cd).1 = 2 → ∀ stx cdx M', zpc lt len (zoprt lt a st cd).2.1 stx cdx M' → zpop4 stx cdx = (zoprt lt a st cd).2.2 → cdx.length + stx.length ≤ 120 → zFe M M' → K 1 M') (h3 : (zoprt lt a st cd).1 = 3 → ∀ M', zpc lt len a [] (zoprt lt a st cd).2.2.2 M' → zFe M M' → K 2 M') : wp_X6_readOperator 0 (nI (lt a)) M K := by
  have hb := zlt_b (i := a) hl
  have hlen := hl.1
  unfold wp_X6_readOperator
  refine zx_strL hb ?_
  by_cases c : zop1 (lt a) < 4
  · rw [if_pos c]
    have hs := zop1_str (lt a) c
    unfold zoprt at h1
    rw [if_pos c] at h1
    have al := zlok_lt hl (i := a) (fun e => by rw [e] at c; exact absurd c (by decide))
    rw [if_neg (nI_ne0 (by omega) (by omega))]
    unfold wp_X6_readOperator_b15
    refine ⟨st.length + 1, ?_⟩
    have hk := (zset_keep (k := zstr (zop1 (lt a))) hi).1
    refine zx_set hs st cd M h (by have := hi.1; have := hi.2.1; omega) hi.2.2.2.2.1 (fun M1 z1 f1 => ?_)
    rw [if_neg (zk_nle2 (c := 0) (a := 0) rfl (by omega) (by omega))]
    refine zx_push (s := zop1 (lt a)) z1 (by have := hk.1; have := hk.2.1; omega) (zop1_cs _ (by omega) c) (fun M2 z2 f2 => ?_)
    intro M3 e3
    rw [z2.2.1, nI_1] at e3
    exact h1 rfl M3 (by rw [e3]; exact zpc_at z2) (zFe_trans f1 (zFe_trans f2 (by rw [e3]; exact zFe_u (by omega))))
  · rw [if_neg c]
    unfold zoprt at h0 h1 h2 h3
    rw [if_neg c] at h0 h1 h2 h3
    rw [if_pos (by decide)]
    unfold wp_X6_readOperator_b15
    refine ⟨st.length + 1, ?_⟩
    have hk := (zset_keep (k := 1) hi).1
    have ht := fun b t => zset_top (st := st) (cd := cd) (b := b) (t := t)
    refine zx_set (k := 1) (Or.inl rfl) st cd M h (by have := hi.1; have := hi.2.1; omega) hi.2.2.2.2.1 (fun M1 z1 f1 => ?_)
    rw [if_pos (by decide)]
    generalize (zset 1 st cd) = q at h0 h1 h2 h3 hk z1 ht
    obtain ⟨q1, q2⟩ := q
    have k1 : q2.length + q1.length ≤ a := hk.1
    have k2 : a ≤ len := hk.2.1
    have k4 : ∀ t, q1 ≠ 4 :: t := hk.2.2.2.1 rfl
    have k5 : ∀ s ∈ q1, s ≤ 9 := hk.2.2.2.2.1
    have z1 : zpc lt len a q1 q2 M1 := z1
    refine zx_top z1 (by omega) (fun e => ?_) (fun b t e => ?_)
    · subst e
      rw [if_pos rfl]
      exact h3 rfl M1 z1 f1
    · subst e
      have hb4 := ht b t rfl
      have hb9 := k5 b List.mem_cons_self
      have hb44 : b ≠ 4 := fun z => k4 t (by rw [z])
      simp only [List.length_cons] at k1
      have al : lt a = 44 ∨ lt a = 41 → a < len := fun z => zlok_lt hl (by omega)
      unfold zoprt2 at h0 h1 h2
      have b15 : (b = 5 ∨ b = 6 ∨ b = 7) ∨ b = 8 ∨ b = 9 := by omega
      rw [if_neg (show ¬ nI (zcs b) = 0 by rcases b15 with (rfl | rfl | rfl) | rfl | rfl <;> decide)]
      have pop : ∀ M2, M2 = g_uI M1 6 0 8 (M1.1 6 0 8 - 1) → zpc lt len a t q2 M2 ∧ zFe M1 M2 := fun M2 e2 => by
        rw [z1.2.2.2.1, zn_s1 (by simp)] at e2
        simp only [List.length_cons, Nat.add_sub_cancel] at e2
        rw [e2]
        exact ⟨zpc_pop z1, zFe_u (by omega)⟩
      have cm : ∀ s, s ≤ 9 → lt a = 44 → (b = 8 ∨ b = 9) → b - 3 = s → ∀ M2, zpc lt len a t q2 M2 → zFe M1 M2 → wp_X6_readOperator_b92 K 0 0 (nI (zcs s)) M2 := fun s hs c1 c2 es M2 z2 f2 => by
        have h1 : ∀ M', zpc lt len (a + 1) ((b - 3) :: t) q2 M' → zFe M M' → K 0 M' := by
          have h1 := h1
          dsimp only at h1
          rw [if_pos ⟨c1, c2⟩] at h1
          exact h1 rfl
        rw [es] at h1
        unfold wp_X6_readOperator_b92
        have := al (Or.inl c1)
        refine zx_push (s := s) z2 (by omega) rfl (fun M3 z3 f3 => ?_)
        intro M4 e4
        rw [z3.2.1, nI_1] at e4
        exact h1 M4 (by rw [e4]; exact zpc_at z3) (zFe_trans f1 (zFe_trans f2 (zFe_trans f3 (by rw [e4]; exact zFe_u (by omega)))))
      have br : ¬ (lt a = 44 ∧ (b = 8 ∨ b = 9)) → wp_X6_readOperator_b107 K 0 (nI (lt a)) (nI (zcs b)) M1 := fun n1 => by
        dsimp only at h0 h2
        rw [if_neg n1] at h0 h2
        unfold wp_X6_readOperator_b107
        by_cases c1 : lt a = 41
        · rw [if_pos (show nI (lt a) = 41 by rw [c1]; decide)]
          by_cases c2 : b = 8 ∨ b = 9
          · rw [if_neg (fun z => by omega)] at h0
            have k3 := h0 rfl M1 z1.2.1 f1
            rcases c2 with rfl | rfl
            · rw [if_pos (by decide)]; exact k3
            · rw [if_neg (by decide), if_pos (by decide)]; exact k3
          · rw [if_pos ⟨c1, fun z => c2 (Or.inl z), fun z => c2 (Or.inr z)⟩] at h2
            have al := al (Or.inr c1)
            rw [if_neg (show ¬ nI (zcs b) = 77 by rcases b15 with (rfl | rfl | rfl) | rfl | rfl <;> first | decide | (exfalso; omega)), if_neg (show ¬ nI (zcs b) = 109 by rcases b15 with (rfl | rfl | rfl) | rfl | rfl <;> first | decide | (exfalso; omega))]
            intro M2 e2
            obtain ⟨z2, f2⟩ := pop M2 e2
            have last : ∀ cdx M3, zpc lt len a t cdx M3 → zFe M1 M3 → (cdx = if b = 7 then q2 else q2 ++ [b]) → wp_X6_readOperator_b163 K 0 M3 := fun cdx M3 z3 f3 ec => by
              unfold wp_X6_readOperator_b163
              intro M4 e4
              rw [z3.2.1, nI_1] at e4
              refine h2 rfl t cdx M4 (by rw [e4]; exact zpc_at z3) (by rw [ec]) (by
                rw [ec]; split
                · omega
                · rw [List.length_append, List.length_singleton]; omega) (zFe_trans f1 (zFe_trans f3 (by rw [e4]; exact zFe_u (by omega))))
            rcases b15 with (rfl | rfl | rfl) | rfl | rfl
            · rw [if_neg (by decide), if_pos (by decide)]
              unfold wp_X6_readOperator_b160
              exact zx_emit (c := 5) z2 (by omega) (by decide) (fun M3 z3 f3 => last _ M3 z3 (zFe_trans f2 f3) rfl)
            · rw [if_neg (by decide), if_neg (by decide)]
              unfold wp_X6_readOperator_b160
              exact zx_emit (c := 6) z2 (by omega) (by decide) (fun M3 z3 f3 => last _ M3 z3 (zFe_trans f2 f3) rfl)
            · rw [if_pos (by decide)]
              exact last _ M2 z2 f2 rfl
            · exact absurd (Or.inl rfl) c2
            · exact absurd (Or.inr rfl) c2
        · rw [if_neg (zk_ne (c := 41) (a := 41) rfl c1 (by omega) (by omega))]
          rw [if_neg (fun z => c1 z.1)] at h0
          exact h0 rfl M1 z1.2.1 f1
      by_cases c1 : lt a = 44
      · rw [if_pos (show nI (lt a) = 44 by rw [c1]; decide)]
        rcases b15 with c2 | rfl | rfl
        · rw [if_neg (show ¬ nI (zcs b) = 77 by rcases c2 with rfl | rfl | rfl <;> decide), if_neg (show ¬ nI (zcs b) = 109 by rcases c2 with rfl | rfl | rfl <;> decide)]
          exact br (fun z => by omega)
        · rw [if_pos (by decide)]
          unfold wp_X6_readOperator_b68
          intro M2 e2
          obtain ⟨z2, f2⟩ := pop M2 e2
          rw [if_pos (by decide)]
          exact cm 5 (by omega) c1 (Or.inl rfl) rfl M2 z2 f2
        · rw [if_neg (by decide), if_pos (by decide)]
          unfold wp_X6_readOperator_b68
          intro M2 e2
          obtain ⟨z2, f2⟩ := pop M2 e2
          rw [if_neg (by decide)]
          exact cm 6 (by omega) c1 (Or.inr rfl) rfl M2 z2 f2
      · rw [if_neg (zk_ne (c := 44) (a := 44) rfl c1 (by omega) (by omega))]
        exact br (fun z => c1 z.1)
/-- an expression -/
theorem zx_expE {n x1 : Int32} {g : Nat} {M : gM} {K : Int32 → gM → Prop} : (K 1 M → wp_X6_readExpression_L9 K (g + 1) 0 x1 2 n M) ∧ (K 0 M → wp_X6_readExpression_L9 K (g + 1) 0 x1 3 n M) := by
  constructor
  · intro k
    unfold wp_X6_readExpression_L9 wp_X6_readExpression_b66
    rw [if_pos rfl]
    split
    · exact k
    · exact k
  · intro k
    unfold wp_X6_readExpression_L9 wp_X6_readExpression_b66
    have e : ¬ (3 : Int32) = 2 := by decide
    rw [if_neg e, if_neg e, if_pos rfl]
    split
    · exact k
    · exact k
theorem zx_expL {lt : Nat → Nat} {rk len k0 : Nat} {x1 : Int32} {K : Int32 → gM → Prop} (hl : zlok lt len) (hr : x1 = 0 ↔ rk = 0) : ∀ (f due a n : Nat) (st cd : List Nat) (M : gM), (due = 1 ∨ due = 2) → zpi rk len k0 due a st cd → zpc lt len a st cd M → n ≤ a → len - a < f → ((zexp lt rk f due a st cd).1 = 0 → ∀ M', M'.1 6 0 3 = nI (zexp lt rk f due a st cd).2.1 → zFe M M' → K 0 M') → ((zexp lt rk f due a st cd).1 = 1 → ∀ M', zpc lt len (zexp lt rk f due a st cd).2.1 [] (zexp lt rk f due a st cd).2.2 M' → zFe M M' → K 1 M') → wp_X6_readExpression_L9 K (f + 1) 0 x1 (nI (due - 1)) (nI n) M
  | 0, due, a, n, st, cd, M, hd, hi, h, hn, hf, h0, h1 => by omega
  | f + 1, due, a, n, st, cd, M, hd, hi, h, hn, hf, h0, h1 => by
    have hlen := hl.1
    have ha : a ≤ len := hi.2.1
    rw [zexp_succ] at h0 h1
    obtain ⟨k1, k2, k3⟩ := zstep_keep (rk := rk) hl hd hi
    have e120 : ¬ (120 : Int32) < nI n := by
      have e : (120 : Int32) = nI 120 := rfl
      rw [e]; exact nI_nlt (by omega) (by omega)
    have wr : (zstep lt rk due a st cd).1 = 0 → ∀ M', M'.1 6 0 3 = nI (zstep lt rk due a st cd).2.1 → zFe M M' → wp_X6_readExpression_b51 (fun o0 x1 x2 x3 M => wp_X6_readExpression_L9 K (f + 1) o0 x1 x2 x3 M) K 0 x1 3 (nI n) M' := fun t M' e' f' => by
      unfold wp_X6_readExpression_b51
      rw [if_neg (by decide)]
      intro n60 _
      rw [if_pos t] at h0
      exact zx_expE.2 (h0 rfl M' e' f')
    have go : ∀ tg, (tg = 1 ∨ tg = 2) → (zstep lt rk due a st cd).1 = tg → ∀ M', zpc lt len (zstep lt rk due a st cd).2.1 (zstep lt rk due a st cd).2.2.1 (zstep lt rk due a st cd).2.2.2 M' → zFe M M' → wp_X6_readExpression_L9 K (f + 1) 0 x1 (nI (tg - 1)) (nI (n + 1)) M' := fun tg ht t M' z f' => by
      rw [if_neg (by omega), if_neg (by omega)] at h0 h1
      rcases k3 with q | q | q
      · omega
      · omega
      obtain ⟨_, q2, q3⟩ := q
      rw [t] at q3 h0 h1
      exact zx_expL hl hr f tg _ (n + 1) _ _ M' ht q3 z (by omega) (by omega) (fun t' M'' a' b' => h0 t' M'' a' (zFe_trans f' b')) (fun t' M'' a' b' => h1 t' M'' a' (zFe_trans f' b'))
    have go1 : (zstep lt rk due a st cd).1 = 1 → ∀ M', zpc lt len (zstep lt rk due a st cd).2.1 (zstep lt rk due a st cd).2.2.1 (zstep lt rk due a st cd).2.2.2 M' → zFe M M' → wp_X6_readExpression_b51 (fun o0 x1 x2 x3 M => wp_X6_readExpression_L9 K (f + 1) o0 x1 x2 x3 M) K 0 x1 0 (nI n) M' := fun t M' z f' => by
      unfold wp_X6_readExpression_b51
      rw [if_neg (by decide)]
      intro n60 e60
      rw [zn_p1] at e60
      subst e60
      exact go 1 (Or.inl rfl) t M' z f'
    have go2 : (zstep lt rk due a st cd).1 = 2 → ∀ stx cdx M', zpc lt len (zstep lt rk due a st cd).2.1 stx cdx M' → zpop4 stx cdx = (zstep lt rk due a st cd).2.2 → cdx.length + stx.length ≤ 120 → zFe M M' → wp_X6_readExpression_b51 (fun o0 x1 x2 x3 M => wp_X6_readExpression_L9 K (f + 1) o0 x1 x2 x3 M) K 0 x1 1 (nI n) M' := fun t stx cdx M' z ez hz f' => by
      unfold wp_X6_readExpression_b51
      rw [if_pos rfl]
      refine ⟨stx.length + 1, zx_pop4 stx cdx M' z hz (fun M'' z'' f'' => ?_)⟩
      intro n60 e60
      rw [zn_p1] at e60
      subst e60
      rw [ez] at z''
      exact go 2 (Or.inr rfl) t M'' z'' (zFe_trans f' f'')
    rcases hd with rfl | rfl
    · unfold wp_X6_readExpression_L9
      have es : zstep lt rk 1 a st cd = zoprd lt rk a st cd := if_pos rfl
      rw [es] at wr go1 go2
      rw [if_neg e120, if_neg (by decide), if_neg (by decide), if_pos (by decide)]
      refine zx_sign h hl ha ?_
      refine zx_oprd hl hi hr h wr go1 (fun t cdx M' z ez hz f' => go2 t st cdx M' z ez ?_ f')
      have := hi.1
      have hk := zoprd_keep hl hi
      rw [t] at hk
      rcases hk.2 with q | q
      · omega
      have := q.2.1
      omega
    · unfold wp_X6_readExpression_L9
      have es : zstep lt rk 2 a st cd = zoprt lt a st cd := if_neg (by decide)
      rw [es] at wr go1 go2 h1
      rw [if_neg e120, if_neg (by decide), if_neg (by decide), if_neg (by decide)]
      refine zx_sign h hl ha ?_
      refine zx_oprt hl hi h wr go1 go2 (fun t M' z f' => ?_)
      unfold wp_X6_readExpression_b51
      rw [if_neg (by decide)]
      intro n60 _
      rw [if_neg (by omega), if_pos t] at h1
      have hp : (zoprt lt a st cd).2.1 = a := by
        have hk := zoprt_keep hl hi
        rcases hk.2 with q | q | q
        · omega
        · exact q.2.1
        · omega
      refine zx_expE.1 (h1 rfl M' ?_ f')
      show zpc lt len (zoprt lt a st cd).2.1 [] (zoprt lt a st cd).2.2.2 M'
      rw [hp]
      exact z
theorem zx_exp {lt : Nat → Nat} {rk len a : Nat} {st cd : List Nat} {x1 : Int32} {M : gM} {K : Int32 → gM → Prop} (hl : zlok lt len) (hr : x1 = 0 ↔ rk = 0) (h : zpc lt len a st cd M) (ha : a ≤ len) (hc : cd.length ≤ a) (h0 : (zexp lt rk 122 1 a [] cd).1 = 0 → ∀ M', M'.1 6 0 3 = nI (zexp lt rk 122 1 a [] cd).2.1 → zFe M M' → K 0 M') (h1 : (zexp lt rk 122 1 a [] cd).1 = 1 → ∀ M', zpc lt len (zexp lt rk 122 1 a [] cd).2.1 [] (zexp lt rk 122 1 a [] cd).2.2 M' → zFe M M' → K 1 M') : wp_X6_readExpression 0 x1 M K := by
  have hlen := hl.1
  unfold wp_X6_readExpression
  intro M2 e2
  have z2 : zpc lt len a [] cd M2 := by
    obtain ⟨q1, q2, q3, q4, q5, q6, q7⟩ := h
    have e : ∀ k o, k ≠ 6 → M2.1 k o = M.1 k o := fun k o hk => by
      rw [e2]
      show (if k = 6 ∧ o = 0 then _ else M.1 k o) = _
      rw [if_neg (by omega)]
    refine ⟨?_, ?_, fun i hi => ?_, ?_, trivial, ?_, fun i c hc => ?_⟩
    · rw [e2, zuI, if_neg (by omega)]; exact q1
    · rw [e2, zuI, if_neg (by omega)]; exact q2
    · rw [e 41 0 (by omega)]; exact q3 i hi
    · rw [e2, zuI, if_pos ⟨rfl, rfl, rfl⟩]; rfl
    · rw [e 5 5 (by omega)]; exact q6
    · rw [e 40 5 (by omega)]; exact q7 i c hc
  have f2 : zFe M M2 := by rw [e2]; exact zFe_u (by omega)
  have hp : zpi rk len cd.length 1 a [] cd := ⟨by simpa using hc, ha, trivial, by omega, by simp, Nat.le_refl _, by simp [zrun, zbin], by simp⟩
  exact ⟨122 + 1, zx_expL hl hr 122 1 a 0 [] cd M2 (Or.inl rfl) hp z2 (by omega) (by omega) (fun t M' a' b' => h0 t M' a' (zFe_trans f2 b')) (fun t M' a' b' => h1 t M' a' (zFe_trans f2 b'))⟩
