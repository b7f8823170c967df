/-- an expression, the reference -/
theorem zy_b {R : Nat → Int32 → Int32 → Int32 → gM → Prop} {K : Int32 → gM → Prop} {x1 : Int32} {M : gM} : (R 0 x1 1 1 M → wp_X9_readsExpression_b29 R K 0 x1 1 0 M) ∧ (wp_X9_isWhole 0 M (fun M' => R 0 x1 0 1 M') → wp_X9_readsExpression_b29 R K 0 x1 1 1 M) ∧ (R 0 x1 1 1 M → wp_X9_readsExpression_b29 R K 0 x1 0 1 M) ∧ (wp_X9_isWhole 0 M (fun M' => R 0 x1 0 1 M') → wp_X9_readsExpression_b29 R K 0 x1 0 2 M) ∧ (R 0 x1 0 0 M → wp_X9_readsExpression_b29 R K 0 x1 0 0 M) ∧ (∀ x2, K 0 M → wp_X9_readsExpression_b29 R K 0 x1 x2 (-1) M) := by
  unfold wp_X9_readsExpression_b29 wp_X9_readsExpression_b58 wp_X9_readsExpression_b48 wp_X9_readsExpression_b62 wp_X9_readsExpression_b71 wp_X9_readsExpression_b76
  refine ⟨fun h => ?_, fun h => ?_, fun h => ?_, fun h => ?_, fun h => ?_, fun x2 h => ?_⟩
  · rw [if_pos (by decide), if_neg (by decide), if_neg (by decide), if_neg (by decide), if_neg (by decide), if_neg (by decide), if_pos rfl]
    exact h
  · rw [if_pos (by decide), if_neg (by decide), if_pos rfl]
    have e : (fun M59 => (if (1 : Int32) = 0 then (if (1 : Int32) = 0 then (if (1 : Int32) = 0 then (if (1 : Int32) = 1 then R 0 x1 1 0 M59 else R 0 x1 0 0 M59) else (if (1 : Int32) = 0 then R 0 x1 1 0 M59 else R 0 x1 0 0 M59)) else (if (1 : Int32) = 0 then (if (1 : Int32) = 1 then R 0 x1 1 1 M59 else R 0 x1 0 1 M59) else (if (1 : Int32) = 0 then R 0 x1 1 1 M59 else R 0 x1 0 1 M59))) else (if (1 : Int32) = 0 then (if (1 : Int32) = 1 then R 0 x1 1 1 M59 else R 0 x1 0 1 M59) else (if (1 : Int32) = 0 then R 0 x1 1 1 M59 else R 0 x1 0 1 M59)))) = fun M' => R 0 x1 0 1 M' := by
      funext M59
      rw [if_neg (by decide), if_neg (by decide), if_neg (by decide)]
    rw [e]
    exact h
  · rw [if_pos (by decide), if_pos rfl, if_pos rfl, if_neg (by decide), if_pos rfl, if_neg (by decide), if_pos rfl, if_pos rfl]
    exact h
  · rw [if_pos (by decide), if_pos rfl, if_pos rfl, if_pos rfl]
    unfold wp_X9_readsExpression_b58 wp_X9_readsExpression_b62 wp_X9_readsExpression_b71 wp_X9_readsExpression_b76
    have e : (fun M59 => (if (0 : Int32) = 0 then (if (2 : Int32) = 0 then (if (0 : Int32) = 0 then (if (2 : Int32) = 1 then R 0 x1 1 0 M59 else R 0 x1 0 0 M59) else (if (2 : Int32) = 0 then R 0 x1 1 0 M59 else R 0 x1 0 0 M59)) else (if (0 : Int32) = 0 then (if (2 : Int32) = 1 then R 0 x1 1 1 M59 else R 0 x1 0 1 M59) else (if (2 : Int32) = 0 then R 0 x1 1 1 M59 else R 0 x1 0 1 M59))) else (if (0 : Int32) = 0 then (if (2 : Int32) = 1 then R 0 x1 1 1 M59 else R 0 x1 0 1 M59) else (if (2 : Int32) = 0 then R 0 x1 1 1 M59 else R 0 x1 0 1 M59)))) = fun M' => R 0 x1 0 1 M' := by
      funext M59
      rw [if_pos rfl, if_neg (by decide), if_pos rfl, if_neg (by decide)]
    rw [e]
    exact h
  · rw [if_pos (by decide), if_pos rfl, if_pos rfl, if_neg (by decide), if_pos rfl, if_pos rfl, if_pos rfl, if_neg (by decide)]
    exact h
  · rw [if_neg (by decide)]
    exact h
theorem zy_expL {lt : Nat → Nat} {rk len k0 : Nat} {x1 : Int32} {K : Int32 → gM → Prop} (hl : zlok lt len) (hr : x1 = 0 ↔ rk = 0) : ∀ (f due a : Nat) (st cd : List Nat) (M : gM), (due = 1 ∨ due = 2) → zpi rk len k0 due a st cd → zpm lt len a st cd M → len - a < f → ((zexp lt rk f due a st cd).1 = 0 → ∀ M', M'.1 9 0 11 = nI (zexp lt rk f due a st cd).2.1 → zFm M M' → K 0 M') → ((zexp lt rk f due a st cd).1 = 1 → ∀ M', zpm lt len (zexp lt rk f due a st cd).2.1 [] (zexp lt rk f due a st cd).2.2 M' → zFm M M' → K 1 M') → wp_X9_readsExpression_L9 K (f + 1) 0 x1 (if due = 1 then 1 else 0) 1 M
  | 0, due, a, st, cd, M, hd, hi, h, hf, h0, h1 => by omega
  | f + 1, due, a, st, cd, M, hd, hi, h, hf, h0, h1 => by
    have hlen := hl.1
    have ha : a ≤ len := hi.2.1
    rw [zexp_succ] at h0 h1
    obtain ⟨k1, k2, k3⟩ := zstep_keep (rk := rk) hl hd hi
    have wr : (zstep lt rk due a st cd).1 = 0 → ∀ x2, ∀ M', M'.1 9 0 11 = nI (zstep lt rk due a st cd).2.1 → zFm M M' → wp_X9_readsExpression_b29 (fun o0 x1 x2 x3 M => wp_X9_readsExpression_L9 K (f + 1) o0 x1 x2 x3 M) K 0 x1 x2 (-1) M' := fun t x2 M' e' f' => by
      rw [if_pos t] at h0
      exact zy_b.2.2.2.2.2 x2 (h0 rfl M' e' f')
    have go : ∀ tg, (tg = 1 ∨ tg = 2) → (zstep lt rk due a st cd).1 = tg → ∀ M', zpm lt len (zstep lt rk due a st cd).2.1 (zstep lt rk due a st cd).2.2.1 (zstep lt rk due a st cd).2.2.2 M' → zFm M M' → wp_X9_readsExpression_L9 K (f + 1) 0 x1 (if tg = 1 then 1 else 0) 1 M' := fun tg ht t M' z f' => by
      rw [if_neg (by omega), if_neg (by omega)] at h0 h1
      rcases k3 with q | q | q
      · omega
      · omega
      obtain ⟨_, q2, q3⟩ := q
      rw [t] at q3 h0 h1
      exact zy_expL hl hr f tg _ _ _ M' ht q3 z (by omega) (fun t' M'' a' b' => h0 t' M'' a' (zFm_trans f' b')) (fun t' M'' a' b' => h1 t' M'' a' (zFm_trans f' b'))
    have go2 : (zstep lt rk due a st cd).1 = 2 → ∀ stx cdx M', zpm lt len (zstep lt rk due a st cd).2.1 stx cdx M' → zpop4 stx cdx = (zstep lt rk due a st cd).2.2 → cdx.length + stx.length ≤ 120 → (∀ s ∈ stx, s ≤ 9) → zFm M M' → wp_X9_isWhole 0 M' (fun M'' => wp_X9_readsExpression_L9 K (f + 1) 0 x1 0 1 M'') := fun t stx cdx M' z ez hz h9 f' => by
      refine ⟨stx.length + 1, zy_pop4 stx cdx M' z hz h9 (fun M'' z'' f'' => ?_)⟩
      rw [ez] at z''
      exact go 2 (Or.inr rfl) t M'' z'' (zFm_trans f' f'')
    rcases hd with rfl | rfl
    · unfold wp_X9_readsExpression_L9
      have es : zstep lt rk 1 a st cd = zoprd lt rk a st cd := if_pos rfl
      rw [es] at wr go go2
      rw [if_pos rfl, if_neg (by decide), if_neg (by decide)]
      refine zy_oprd hl hi hr h (fun t M' e' f' => wr t 1 M' e' f') (fun t M' z f' => zy_b.1 (go 1 (Or.inl rfl) t M' z f')) (fun t cdx M' z ez hz f' => zy_b.2.1 (go2 t st cdx M' z ez ?_ hi.2.2.2.2.1 f'))
      have := hi.1
      have hk := zoprd_keep hl hi
      rw [t] at hk
      rcases hk.2 with q | q
      · omega
      have := q.2.1
      omega
    · unfold wp_X9_readsExpression_L9
      have es : zstep lt rk 2 a st cd = zoprt lt a st cd := if_neg (by decide)
      rw [es] at wr go go2 h1
      rw [if_neg (show ¬ 2 = 1 by decide), if_neg (by decide), if_pos rfl]
      refine zy_oprt hl hi h (fun t M' e' f' => wr t 0 M' e' f') (fun t M' z f' => zy_b.2.2.1 (go 1 (Or.inl rfl) t M' z f')) (fun t stx cdx M' z ez hz h9 f' => zy_b.2.2.2.1 (go2 t stx cdx M' z ez hz h9 f')) (fun t e1 e2 => zy_b.2.2.2.2.1 ?_)
      show wp_X9_readsExpression_L9 K (f + 1) 0 x1 0 0 M
      unfold wp_X9_readsExpression_L9
      rw [if_pos rfl]
      rw [if_neg (by omega), if_pos t] at h1
      have hp : (zoprt lt a st cd).2.1 = a := by
        have hk := zoprt_keep hl hi
        rcases hk.2 with q | q | q
        · omega
        · exact q.2.1
        · omega
      refine ⟨st.length + 1, zy_set (k := 1) (Or.inl rfl) st cd M h (by have := hi.1; omega) hi.2.2.2.2.1 ⟨hi.2.2.1, hi.2.2.2.1 rfl⟩ (fun M1 z1 f1 => ?_)⟩
      rw [e1, e2] at z1
      refine h1 rfl M1 ?_ f1
      show zpm lt len (zoprt lt a st cd).2.1 [] (zoprt lt a st cd).2.2.2 M1
      rw [hp]
      exact z1
theorem zy_exp {lt : Nat → Nat} {rk len a : Nat} {st cd : List Nat} {x1 : Int32} {M : gM} {K : Int32 → gM → Prop} (hl : zlok lt len) (hr : x1 = 0 ↔ rk = 0) (h : zpm lt len a st cd M) (ha : a ≤ len) (hc : cd.length ≤ a) (h0 : (zexp lt rk 122 1 a [] cd).1 = 0 → ∀ M', M'.1 9 0 11 = nI (zexp lt rk 122 1 a [] cd).2.1 → zFm M M' → K 0 M') (h1 : (zexp lt rk 122 1 a [] cd).1 = 1 → ∀ M', zpm lt len (zexp lt rk 122 1 a [] cd).2.1 [] (zexp lt rk 122 1 a [] cd).2.2 M' → zFm M M' → K 1 M') : wp_X9_readsExpression 0 x1 M K := by
  have hlen := hl.1
  unfold wp_X9_readsExpression
  intro M2 e2
  have z2 : zpm lt len a [] cd M2 := by
    obtain ⟨q1, q2, q3, q4, q5, q6, q7⟩ := h
    refine ⟨?_, ?_, fun i hi => ?_, ?_, trivial, ?_, ?_⟩
    · rw [e2, zuI, if_neg (by omega)]; exact q1
    · rw [e2, zuI, if_neg (by omega)]; exact q2
    · rw [e2, zuI, if_neg (by omega)]; exact q3 i hi
    · rw [e2, zuI, if_pos ⟨rfl, rfl, rfl⟩]; rfl
    · rw [e2, zuI, if_neg (by omega)]; exact q6
    · rw [e2]; exact q7
  have f2 : zFm M M2 := by rw [e2]; exact zFm_u (by omega)
  have hp : zpi rk len cd.length 1 a [] cd := ⟨by simpa using hc, ha, trivial, by omega, by simp, Nat.le_refl _, by simp [zrun, zbin], by simp⟩
  exact ⟨122 + 1, zy_expL hl hr 122 1 a [] cd M2 (Or.inl rfl) hp z2 (by omega) (fun t M' a' b' => h0 t M' a' (zFm_trans f2 b')) (fun t M' a' b' => h1 t M' a' (zFm_trans f2 b'))⟩
