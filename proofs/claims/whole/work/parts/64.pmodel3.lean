theorem zop1_t : ∀ c, c < 127 → (zop1 c < 4 → nI c = nI (zms (zop1 c))) ∧ (zop1 c < 4 ↔ c = 43 ∨ c = 45 ∨ c = 42 ∨ c = 47) := by decide +kernel
theorem zop1_4 (c : Nat) : zop1 c < 4 ↔ c = 43 ∨ c = 45 ∨ c = 42 ∨ c = 47 := by
  unfold zop1
  repeat' split
  all_goals omega
theorem zy_oprt {lt : Nat → Nat} {rk len k0 a : Nat} {st cd : List Nat} {M : gM} {K : Int32 → gM → Prop} (hl : zlok lt len) (hi : zpi rk len k0 2 a st cd) (h : zpm lt len a st cd M) (h0 : (zoprt lt a st cd).1 = 0 → ∀ M', M'.1 9 0 11 = nI (zoprt lt a st cd).2.1 → zFm M M' → K (-1) M') (h1 : (zoprt lt a st cd).1 = 1 → ∀ M', zpm lt len (zoprt lt a st cd).2.1 (zoprt lt a st cd).2.2.1 (zoprt lt a st cd).2.2.2 M' → zFm M M' → K 1 M') (h2 : (zoprt lt a st cd).1 = 2 → ∀ stx cdx M', zpm lt len (zoprt lt a st cd).2.1 stx cdx M' → zpop4 stx cdx = (zoprt lt a st cd).2.2 → cdx.length + stx.length ≤ 120 → (∀ s ∈ stx, s ≤ 9) → zFm M M' → K 2 M') (h3 : (zoprt lt a st cd).1 = 3 → (zset 1 st cd).1 = [] → (zset 1 st cd).2 = (zoprt lt a st cd).2.2.2 → K 0 M) : wp_X9_goesOn 0 M K := by
  have hb := zlt_b (i := a) hl
  have hlen := hl.1
  have p1 := hi.1
  have p2 := hi.2.1
  have h9 := hi.2.2.2.2.1
  have h4 : zn4 st := ⟨hi.2.2.1, hi.2.2.2.1 rfl⟩
  have at1 : ∀ {s c : List Nat} {M1 M2 : gM}, zpm lt len a s c M1 → M2 = g_uI M1 9 0 11 (M1.1 9 0 11 + 1) → zpm lt len (a + 1) s c M2 ∧ zFm M1 M2 := fun {s c M1 M2} z e => by
    rw [z.2.1, nI_1] at e
    rw [e]
    exact ⟨zpm_at z, zFm_u (by omega)⟩
  have opn : zop1 (lt a) < 4 → wp_X9_goesOn_b38 K 0 (zlI lt len a) M := fun c => by
    have al := zlok_lt hl (i := a) (fun e => by rw [e] at c; exact absurd c (by decide))
    have e5 : zlI lt len a = nI (zms (zop1 (lt a))) := by
      unfold zlI
      rw [if_pos al]
      exact (zop1_t (lt a) (by omega)).1 c
    unfold zoprt at h1
    rw [if_pos c] at h1
    have hs := zop1_str (lt a) c
    have hk := (zset_keep (k := zstr (zop1 (lt a))) hi).1
    unfold wp_X9_goesOn_b38
    rw [e5]
    refine zy_str c ?_
    refine ⟨st.length + 1, zy_set hs st cd M h (by omega) h9 h4 (fun M1 z1 f1 => ?_)⟩
    rw [z1.2.2.2.1]
    have k1 := hk.1
    refine ⟨vp_in_nI (by omega) (by omega), ?_⟩
    intro M2 e2 M3 e3 M4 e4
    rw [nI_clamp (by omega)] at e2
    have q : M2.1 9 0 17 = nI (zset (zstr (zop1 (lt a))) st cd).1.length := by rw [e2, zuI, if_neg (by omega)]; exact z1.2.2.2.1
    rw [q, nI_1] at e3
    have z3 : zpm lt len a (zop1 (lt a) :: (zset (zstr (zop1 (lt a))) st cd).1) (zset (zstr (zop1 (lt a))) st cd).2 M3 := by rw [e3, e2]; exact zpm_push z1 rfl
    obtain ⟨z4, f4⟩ := at1 z3 e4
    refine h1 rfl M4 z4 (zFm_trans f1 (zFm_trans ?_ f4))
    rw [e3, e2]
    exact zFm_trans (zFm_u (by omega)) (zFm_u (by omega))
  unfold wp_X9_goesOn
  rw [h.2.1]
  refine zy_letter h.1 h.2.2.1 hl (by omega) ?_
  unfold wp_X9_innermost
  intro n6 e6
  rw [h.2.2.2.1] at e6
  subst e6
  refine ⟨st.length + 1, ?_⟩
  by_cases c : zop1 (lt a) < 4
  · have key : ∀ r10 : Int32, (if zlI lt len a = 43 then wp_X9_goesOn_b38 K 0 (zlI lt len a) M else (if zlI lt len a = 45 then wp_X9_goesOn_b38 K 0 (zlI lt len a) M else (if zlI lt len a = 42 then wp_X9_goesOn_b38 K 0 (zlI lt len a) M else (if zlI lt len a = 47 then wp_X9_goesOn_b38 K 0 (zlI lt len a) M else (if r10 = 0 then K 0 M else (if zlI lt len a = 44 then (if r10 = 77 then wp_X9_goesOn_b102 K 0 r10 M else (if r10 = 109 then wp_X9_goesOn_b102 K 0 r10 M else wp_X9_goesOn_b143 K 0 (zlI lt len a) r10 M)) else wp_X9_goesOn_b143 K 0 (zlI lt len a) r10 M)))))) := fun r10 => by
      have o := opn c
      by_cases d1 : zlI lt len a = 43
      · rw [if_pos d1]; exact o
      rw [if_neg d1]
      by_cases d2 : zlI lt len a = 45
      · rw [if_pos d2]; exact o
      rw [if_neg d2]
      by_cases d3 : zlI lt len a = 42
      · rw [if_pos d3]; exact o
      rw [if_neg d3]
      have d4 : zlI lt len a = 47 := by
        have l1 := zlI_eq (lt := lt) (len := len) (a := a) (n := 43) (c := 43) hl rfl (by omega) (by omega)
        have l2 := zlI_eq (lt := lt) (len := len) (a := a) (n := 45) (c := 45) hl rfl (by omega) (by omega)
        have l3 := zlI_eq (lt := lt) (len := len) (a := a) (n := 42) (c := 42) hl rfl (by omega) (by omega)
        have l4 := zlI_eq (lt := lt) (len := len) (a := a) (n := 47) (c := 47) hl rfl (by omega) (by omega)
        rcases (zop1_4 (lt a)).mp c with z | z | z | z
        · exact absurd (l1.mpr z) d1
        · exact absurd (l2.mpr z) d2
        · exact absurd (l3.mpr z) d3
        · exact l4.mpr z
      rw [if_pos d4]; exact o
    exact zy_inn st cd h.2.2.2.2.1 (by omega) h9 h4 (fun _ => key 0) (fun b t _ => key _)
  · have n1 : ¬ zlI lt len a = 43 := fun z => c ((zop1_4 _).mpr (by have := (zlI_eq (n := 43) hl rfl (by omega) (by omega)).mp z; omega))
    have n2 : ¬ zlI lt len a = 45 := fun z => c ((zop1_4 _).mpr (by have := (zlI_eq (n := 45) hl rfl (by omega) (by omega)).mp z; omega))
    have n3 : ¬ zlI lt len a = 42 := fun z => c ((zop1_4 _).mpr (by have := (zlI_eq (n := 42) hl rfl (by omega) (by omega)).mp z; omega))
    have n4 : ¬ zlI lt len a = 47 := fun z => c ((zop1_4 _).mpr (by have := (zlI_eq (n := 47) hl rfl (by omega) (by omega)).mp z; omega))
    unfold zoprt at h0 h1 h2 h3
    rw [if_neg c] at h0 h1 h2 h3
    have hk := (zset_keep (k := 1) hi).1
    have ht := fun b t => zset_top (st := st) (cd := cd) (b := b) (t := t)
    have set1 : ∀ {Q : gM → Prop}, (∀ M', zpm lt len a (zset 1 st cd).1 (zset 1 st cd).2 M' → zFm M M' → Q M') → wp_X9_settles 0 1 M Q := fun {Q} q => ⟨st.length + 1, zy_set (k := 1) (Or.inl rfl) st cd M h (by omega) h9 h4 q⟩
    refine zy_inn st cd h.2.2.2.2.1 (by omega) h9 h4 (fun e => ?_) (fun b t e => ?_)
    · rw [if_neg n1, if_neg n2, if_neg n3, if_neg n4, if_pos rfl]
      unfold zoprt2 at h3
      rw [e] at h3
      exact h3 rfl rfl rfl
    · rw [if_neg n1, if_neg n2, if_neg n3, if_neg n4]
      generalize (zset 1 st cd) = q at h0 h1 h2 h3 hk ht set1 e
      obtain ⟨q1, q2⟩ := q
      have e : q1 = b :: t := e
      subst e
      have k1 : q2.length + (b :: t).length ≤ a := hk.1
      have k4 : ∀ u, b :: t ≠ 4 :: u := hk.2.2.2.1 rfl
      have k5 : ∀ s ∈ b :: t, s ≤ 9 := hk.2.2.2.2.1
      have hb4 := ht b t rfl
      have hb9 := k5 b List.mem_cons_self
      have hb44 : b ≠ 4 := fun z => k4 t (by rw [z])
      simp only [List.length_cons] at k1
      have b15 : (b = 5 ∨ b = 6 ∨ b = 7) ∨ b = 8 ∨ b = 9 := by omega
      rw [if_neg (show ¬ nI (zms b) = 0 by rcases b15 with (rfl | rfl | rfl) | rfl | rfl <;> decide)]
      unfold zoprt2 at h0 h1 h2
      dsimp only at h0 h1 h2 set1
      have cm : ∀ s v, v = nI (zms s) → lt a = 44 → (b = 8 ∨ b = 9) → b - 3 = s → ∀ M1, zpm lt len a (b :: t) q2 M1 → zFm M M1 → wp_X9_goesOn_b130 K 0 0 (M1.1 9 0 17 - 1) v M1 := fun s v ev c1 c2 es M1 z1 f1 => by
        rw [if_pos ⟨c1, c2⟩] at h1
        dsimp only at h1
        rw [es] at h1
        unfold wp_X9_goesOn_b130
        rw [z1.2.2.2.1, zn_s1 (by simp)]
        simp only [List.length_cons, Nat.add_sub_cancel]
        refine ⟨vp_in_nI (by omega) (by omega), ?_⟩
        intro M2 e2 M3 e3
        rw [nI_clamp (by omega)] at e2
        have z2 : zpm lt len a (s :: t) q2 M2 := by
          obtain ⟨r1, r2, r3, r4, r5, r6, r7⟩ := z1
          refine ⟨?_, ?_, fun i hi => ?_, ?_, ⟨?_, ?_⟩, ?_, ?_⟩
          · rw [e2, zuI, if_neg (by omega)]; exact r1
          · rw [e2, zuI, if_neg (by omega)]; exact r2
          · rw [e2, zuI, if_neg (by omega)]; exact r3 i hi
          · rw [e2, zuI, if_neg (by omega)]; exact r4
          · rw [e2, zuI, if_pos ⟨rfl, rfl, rfl⟩]; exact ev
          · refine zrs_congr r5.2 (fun k hk => ?_)
            rw [e2, zuI, if_neg (by omega)]
          · rw [e2, zuI, if_neg (by omega)]; exact r6
          · rw [e2]; exact r7
        obtain ⟨z3, f3⟩ := at1 z2 e3
        exact h1 rfl M3 z3 (zFm_trans f1 (zFm_trans (by rw [e2]; exact zFm_u (by omega)) f3))
      have br : ¬ (lt a = 44 ∧ (b = 8 ∨ b = 9)) → wp_X9_goesOn_b143 K 0 (zlI lt len a) (nI (zms b)) M := fun n1 => by
        rw [if_neg n1] at h0 h2
        unfold wp_X9_goesOn_b143
        by_cases c1 : lt a = 41
        · rw [if_pos (show zlI lt len a = 41 from (zlI_eq (n := 41) hl rfl (by omega) (by omega)).mpr c1)]
          by_cases c2 : b = 8 ∨ b = 9
          · rw [if_neg (fun z => by omega)] at h0
            have k3 := h0 rfl M h.2.1 zFm_refl
            rcases c2 with rfl | rfl
            · rw [if_pos (by decide)]; exact k3
            · rw [if_neg (by decide), if_pos (by decide)]; exact k3
          · rw [if_pos ⟨c1, fun z => c2 (Or.inl z), fun z => c2 (Or.inr z)⟩] at h2
            have al := zlok_lt hl (i := a) (by omega)
            rw [if_neg (show ¬ nI (zms b) = 77 by rcases b15 with (rfl | rfl | rfl) | rfl | rfl <;> first | decide | (exfalso; omega)), if_neg (show ¬ nI (zms b) = 109 by rcases b15 with (rfl | rfl | rfl) | rfl | rfl <;> first | decide | (exfalso; omega))]
            refine set1 (fun M1 z1 f1 => ?_)
            intro M2 e2
            rw [z1.2.2.2.1, zn_s1 (by simp)] at e2
            simp only [List.length_cons, Nat.add_sub_cancel] at e2
            have z2 : zpm lt len a t q2 M2 := by rw [e2]; exact zpm_pop z1
            have f2 : zFm M M2 := zFm_trans f1 (by rw [e2]; exact zFm_u (by omega))
            have last : ∀ cdx M3, zpm lt len a t cdx M3 → zFm M M3 → (cdx = if b = 7 then q2 else q2 ++ [b]) → wp_X9_goesOn_b190 K 0 M3 := fun cdx M3 z3 f3 ec => by
              unfold wp_X9_goesOn_b190
              intro M4 e4
              obtain ⟨z4, f4⟩ := at1 z3 e4
              refine h2 rfl t cdx M4 z4 (by rw [ec]) (by
                rw [ec]; split
                · omega
                · rw [List.length_append, List.length_singleton]; omega) (fun s hs => k5 s (List.mem_cons_of_mem _ hs)) (zFm_trans f3 f4)
            rcases b15 with (rfl | rfl | rfl) | rfl | rfl
            · rw [if_neg (by decide)]
              refine zy_step (s := 5) (by omega) (zy_emits (c := 5) z2 (by omega) rfl (fun M3 z3 f3 => last _ M3 z3 (zFm_trans f2 f3) rfl))
            · rw [if_neg (by decide)]
              refine zy_step (s := 6) (by omega) (zy_emits (c := 6) z2 (by omega) rfl (fun M3 z3 f3 => last _ M3 z3 (zFm_trans f2 f3) rfl))
            · rw [if_pos (by decide)]
              exact last _ M2 z2 f2 rfl
            · exact absurd (Or.inl rfl) c2
            · exact absurd (Or.inr rfl) c2
        · rw [if_neg (show ¬ zlI lt len a = 41 from fun z => c1 ((zlI_eq (n := 41) hl rfl (by omega) (by omega)).mp z))]
          rw [if_neg (fun z => c1 z.1)] at h0
          exact h0 rfl M h.2.1 zFm_refl
      by_cases c1 : lt a = 44
      · rw [if_pos (show zlI lt len a = 44 from (zlI_eq (n := 44) hl rfl (by omega) (by omega)).mpr c1)]
        rcases b15 with c2 | rfl | rfl
        · rw [if_neg (show ¬ nI (zms b) = 77 by rcases c2 with rfl | rfl | rfl <;> decide), if_neg (show ¬ nI (zms b) = 109 by rcases c2 with rfl | rfl | rfl <;> decide)]
          exact br (fun z => by omega)
        · rw [if_pos (by decide)]
          unfold wp_X9_goesOn_b102
          refine set1 (fun M1 z1 f1 => ?_)
          rw [if_pos (by decide)]
          exact cm 5 _ (by decide) c1 (Or.inl rfl) rfl M1 z1 f1
        · rw [if_neg (by decide), if_pos (by decide)]
          unfold wp_X9_goesOn_b102
          refine set1 (fun M1 z1 f1 => ?_)
          rw [if_neg (by decide)]
          exact cm 6 _ (by decide) c1 (Or.inr rfl) rfl M1 z1 f1
      · rw [if_neg (show ¬ zlI lt len a = 44 from fun z => c1 ((zlI_eq (n := 44) hl rfl (by omega) (by omega)).mp z))]
        exact br (fun z => c1 z.1)
