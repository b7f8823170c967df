/-! state, share, fingerprint -/
theorem zx_hasClass' {nn ar j : Nat} {y : Int32} {M : gM} {S : zW} {K : Int32 → gM → Prop} (h : zC 0 nn ar M S) (hp : zplan S) (hn : zN S 0 0 = nn) (hx : j < nn) (hc : zN S 19 j < 2 ^ 31) (h1 : ∀ k, y = nI k → zcls S nn j k → K 1 M) (h0 : (∀ k, y = nI k → k < 16 → ¬ zcls S nn j k) → K 0 M) : wp_X5_hasClass 0 (nI j) y M K := by
  have hn2 : nn ≤ 12 := by rw [← hn]; exact hp.1.2
  by_cases c : ∃ k, k < 16 ∧ y = nI k ∧ zcls S nn j k
  · obtain ⟨k, _, ek, ck⟩ := c
    rw [ek]
    exact zx_hasClass h hn hn2 hx hc ck (h1 k ek ck)
  · have hno : ∀ k, y = nI k → k < 16 → ¬ zcls S nn j k := fun k e1 e2 e3 => c ⟨k, e2, e1, e3⟩
    have k0 := h0 hno
    unfold wp_X5_hasClass
    refine zx_isLeaf h hn hn2 hx hc ?_
    by_cases cl : zN S 19 j = 0
    · rw [if_pos cl, if_neg (by decide)]
      have hz : ¬ zr y 16 := fun q => by
        obtain ⟨k, hk, ek⟩ := zr_of q (by omega)
        exact hno k ek hk (Or.inl ⟨cl, hk⟩)
      rcases zr_neg hz (by omega) with q | ⟨i, q1, q2, rfl⟩
      · rw [if_pos q]; exact k0
      · rw [if_neg (nI_pos q2), if_pos (zk_le2 (c := 16) (a := 16) rfl q1 q2)]; exact k0
    · rw [if_neg cl, if_pos rfl]
      refine zx_hasNode h hn hn2 (by omega) ?_
      rw [if_pos hx, if_neg (by decide)]
      refine zx_hasNode' h hn hn2 (fun cy => ?_) (fun cy => ?_)
      · rw [if_neg (by decide)]
        obtain ⟨k, hk, rfl⟩ := zr_of cy (by omega)
        refine ⟨zcl12 (by omega), ?_⟩
        rw [nI_clamp (by omega), zparc h hk]
        by_cases k00 : k = 0
        · rw [if_pos k00, if_neg (fun q => zn_neg (by omega) q.symm)]; exact k0
        · have := hp.2.1 k (by omega) (by omega)
          rw [if_neg k00, if_neg (fun q => ?_)]
          · exact k0
          · exact hno k rfl (by omega) (Or.inr ⟨cl, by omega, hk, (nI_eq (by omega) (by omega)).mp q⟩)
      · rw [if_pos rfl]; exact k0
theorem zq_state {t : gT} {M : gM} {c : Nat} {x y : Int32} {V : gM → Prop → Prop} {Nx : gM → Prop} (h : zT M c) (hV : ∀ (M : gM) (p : Prop), p → V M p) (hN : ∀ M', zT M' c → Nx M') : wp_L_state t 0 x y 0 M (fun r M1 => V M1 (wp_X9_state 0 x y M1 (fun rb M2 => zFin Nx r rb M2))) := by
  have h' := h
  obtain ⟨S, ks, tx, er, h1, h2, h3⟩ := h'
  have hn := (zOK_n h3.1).1
  have hi := h3.1.1
  unfold wp_L_state wp_X8_state
  refine zx_needNode h1.1 rfl hn (fun cc => ?_) (fun cc => ?_)
  · obtain ⟨j, hj, rfl⟩ := zr_of cc (by omega)
    have hcc := zcc_lt hi hj
    refine zx_hasClass' h1.1 hi.1 rfl hj (by omega) (fun k ek ck => ?_) (fun hno => ?_)
    · subst ek
      have hk16 := zkey_lt hn ck
      rw [if_neg (by decide)]
      refine ⟨zcl12 (by omega), vp_in_nI (by omega) (by omega), zvi (by omega) (by omega), ?_⟩
      intro M1 e1
      refine hV _ _ ?_
      have e3 : M1.2 47 0 = M.2 47 0 := ((zout_X e1) 47 0 (by omega)).2
      unfold wp_X9_state
      intro M2 e2
      have e4 : M2.2 47 0 = M.2 47 0 := by rw [e2]; exact e3
      refine zm_isNode (n := zN S 0 0) (by rw [e4]; exact zm_nodes h2.1) (by omega) (fun _ => ?_) (fun q => absurd cc q)
      rw [if_neg (by decide)]
      refine zm_isLeaf (S := S) (by rw [e4]; exact h2.1) hi.1 rfl hj ?_
      have fin : wp_X9_state_b65 (fun rb M2 => zFin Nx 0 rb M2) 0 (nI j) (nI k) 1 M2 := by
        unfold wp_X9_state_b65
        rw [if_neg (by decide), zmu, zad2, nI_add]
        refine ⟨vp_in_nI (by omega) (by omega), ?_⟩
        rw [nI_clamp (by omega), e4, zm_state h2.1 hj hk16, e2, e1]
        refine zans h hN ?_
        rw [nI_clamp (by omega), nI_clamp (by omega), zc_state h1.1 hj hk16]
      rcases ck with ck | ck
      · rw [if_pos ck.1, if_neg (by decide)]
        refine zm_isFlow (fun _ => ?_) (fun q => absurd (zr_nI ck.2 (by omega)) q)
        exact fin
      · rw [if_neg ck.1, if_pos rfl]
        refine zm_isNode (n := zN S 0 0) (by rw [e4]; exact zm_nodes h2.1) (by omega) (fun _ => ?_) (fun q => absurd (zr_nI ck.2.2.1 (by omega)) q)
        rw [if_neg (by decide), zm_nd, zad]
        refine ⟨vp_in_nI (by omega) (by omega), ?_⟩
        rw [nI_clamp (by omega), e4, zm_parent h2.1 ⟨ck.2.1, ck.2.2.1⟩, ck.2.2.2, nI_l (by omega), if_pos rfl]
        exact fin
    · rw [if_pos rfl]
      show (if (0 : Nat) = 2 then _ else _)
      rw [if_neg (by decide), if_pos rfl]
      refine hV _ _ ?_
      unfold wp_X9_state
      intro M2 e2
      have e4 : M2.2 47 0 = M.2 47 0 := by rw [e2]; rfl
      have e59 : g_uI M2 9 0 4 2 = g_uI M 9 0 4 2 := by
        rw [e2]
        unfold g_uI
        congr 1
        funext a b
        by_cases q : a = 9 ∧ b = 0
        · obtain ⟨rfl, rfl⟩ := q
          funext z
          simp [upd]
          split <;> rfl
        · simp [q]
      refine zm_isNode (n := zN S 0 0) (by rw [e4]; exact zm_nodes h2.1) (by omega) (fun _ => ?_) (fun q => absurd cc q)
      rw [if_neg (by decide)]
      refine zm_isLeaf (S := S) (by rw [e4]; exact h2.1) hi.1 rfl hj ?_
      have fin : wp_X9_state_b65 (fun rb M2 => zFin Nx 2 rb M2) 0 (nI j) y 0 M2 := by
        unfold wp_X9_state_b65
        rw [if_pos rfl]
        unfold wp_X9_fails
        intro M3 e3
        rw [e3, e59]
        exact zthr h hN (by decide)
      by_cases cl : zN S 19 j = 0
      · rw [if_pos cl, if_neg (by decide)]
        refine zm_isFlow (fun q => ?_) (fun q => fin)
        obtain ⟨k, hk, ek⟩ := zr_of q (by omega)
        exact absurd (Or.inl ⟨cl, hk⟩) (hno k ek hk)
      · rw [if_neg cl, if_pos rfl]
        refine zm_isNode (n := zN S 0 0) (by rw [e4]; exact zm_nodes h2.1) (by omega) (fun q => ?_) (fun q => ?_)
        · obtain ⟨k, hk, rfl⟩ := zr_of q (by omega)
          rw [if_neg (by decide), zm_nd, zad]
          refine ⟨vp_in_nI (by omega) (by omega), ?_⟩
          rw [nI_clamp (by omega), e4]
          by_cases k0 : k = 0
          · subst k0
            rw [zm_par0 h2.1, nI_l (by omega), if_neg (by
              intro q
              have := congrArg Int64.toInt q
              rw [lN_toInt (by omega)] at this
              have h2 : (-1 : Int64).toInt = -1 := by decide
              omega)]
            exact fin
          · have := hi.1.2.1 k (by omega) hk
            rw [zm_parent h2.1 ⟨by omega, hk⟩, nI_l (by omega), if_neg (fun q => ?_)]
            · exact fin
            · exact hno k rfl (by omega) (Or.inr ⟨cl, by omega, hk, (lN_eq (by omega) (by omega)).mp q⟩)
        · rw [if_pos rfl]; exact fin
  · rw [if_pos rfl]
    refine hV _ _ ?_
    unfold wp_X9_state
    intro M2 e2
    have e4 : M2.2 47 0 = M.2 47 0 := by rw [e2]; rfl
    refine zm_isNode (n := zN S 0 0) (by rw [e4]; exact zm_nodes h2.1) (by omega) (fun q => absurd q cc) (fun _ => ?_)
    rw [if_pos rfl]
    unfold wp_X9_fails
    intro M3 e3
    rw [e3, e2]
    exact zthr (zT_9 h) hN (by decide)
/-! share -/
def zsb (S : zW) : Nat → Int64
  | 0 => 0
  | k + 1 => zsb S k + lN (zN S 6 k)
theorem zx_bytesL {nn ar : Nat} {M : gM} {S : zW} {K : Int64 → gM → Prop} (h : zC 0 nn ar M S) (hb : ∀ f, f < 16 → zN S 6 f < 2 ^ 31) (hK : K (zsb S 16) M) : ∀ (n k : Nat), k + n = 16 → wp_X1_allBytes_L4 K (n + 1) 0 (zsb S k) (nI k) M
  | 0, k, e => by
    unfold wp_X1_allBytes_L4
    rw [if_pos (zk_le2 (c := 16) (a := 16) rfl (by omega) (by omega))]
    have : k = 16 := by omega
    rw [this]; exact hK
  | n + 1, k, e => by
    unfold wp_X1_allBytes_L4
    rw [if_neg (zk_nle (c := 16) (a := 16) rfl (by omega) (by omega))]
    refine ⟨vp_in_nI (by omega) (by omega), ?_⟩
    intro n19 e19 n20 e20
    rw [zn_p1] at e20
    rw [nI_clamp (by omega), zc_bytes h (by omega), nI_l (hb k (by omega))] at e19
    subst e19; subst e20
    exact zx_bytesL h hb hK n (k + 1) (by omega)
theorem zm_bytesL {nn ar : Nat} {x : Int32} {M : gM} {S : zW} {K : Int32 → gM → Prop} (h : zM nn ar (M.2 47 0) S) (hK : wp_X9_share_L21 K 1 0 x (zsb S 16) 16 M) : ∀ (n k : Nat), k + n = 16 → wp_X9_share_L21 K (n + 1) 0 x (zsb S k) (nI k) M
  | 0, k, e => by
    have : k = 16 := by omega
    rw [this]; exact hK
  | n + 1, k, e => by
    unfold wp_X9_share_L21
    rw [if_neg (zk_nle (c := 16) (a := 16) rfl (by omega) (by omega)), zm_fl, zad]
    refine ⟨vp_in_nI (by omega) (by omega), ?_⟩
    intro n19 e19 n20 e20
    rw [zn_p1] at e20
    rw [nI_clamp (by omega), zm_bytes h (by omega)] at e19
    subst e19; subst e20
    exact zm_bytesL h hK n (k + 1) (by omega)
theorem zq_share {t : gT} {M : gM} {c : Nat} {x : Int32} {V : Prop} {Nx : gM → Prop} (hc : c < 10000) (h : zT M c) (hV : V) (hN : ∀ M', zT M' c → Nx M') : wp_L_share t 0 x 0 M (fun r M1 => V ∧ wp_X9_share 0 x M1 (fun rb M2 => zFin Nx r rb.toInt64 M2)) := by
  have h' := h
  obtain ⟨S, ks, tx, er, h1, h2, h3⟩ := h'
  have hb : ∀ f, f < 16 → zN S 6 f < 2 ^ 31 := fun f hf => by have := h3.1.2.1.2.2.1 f hf; omega
  unfold wp_L_share wp_X8_share
  refine zx_needFlow (fun cc => ?_) (fun cc => ?_)
  · obtain ⟨j, hj, rfl⟩ := zr_of cc (by omega)
    refine ⟨17, zx_bytesL h1.1 hb ?_ 16 0 (by omega)⟩
    have mod : ∀ (r : Int32) (M1 : gM), M1 = g_uL M 59 0 (0 : Int32).toNatClampNeg r.toInt64 → r = (if zsb S 16 = 0 then 0 else ((1000 * lN (zN S 6 j)) / zsb S 16).toInt32) → wp_X9_share 0 (nI j) M1 (fun rb M2 => zFin Nx 0 rb.toInt64 M2) := by
      intro r M1 e1 er
      have e3 : M1.2 47 0 = M.2 47 0 := ((zout_X e1) 47 0 (by omega)).2
      unfold wp_X9_share
      refine zm_isFlow (fun _ => ?_) (fun q => absurd cc q)
      rw [if_neg (by decide)]
      unfold wp_X9_share_b13
      intro M2 e2
      have e4 : M2.2 47 0 = M.2 47 0 := by rw [e2]; exact e3
      have h9 : M2.1 9 0 4 = 0 := by rw [e2]; exact zth
      refine ⟨17, zm_bytesL (S := S) (by rw [e4]; exact h2.1) ?_ 16 0 (by omega)⟩
      unfold wp_X9_share_L21
      rw [if_pos (by decide), h9, if_neg (by decide)]
      by_cases c0 : zsb S 16 = 0
      · rw [if_pos c0] at er
        rw [if_pos c0, e2, e1]
        exact zans h hN (by rw [er])
      · rw [if_neg c0] at er
        rw [if_neg c0, zm_fl, zad]
        refine ⟨vp_in_nI (by omega) (by omega), c0, ?_⟩
        rw [nI_clamp (by omega), e4, zm_bytes h2.1 hj, e2, e1]
        exact zans h hN (by rw [er])
    by_cases c0 : zsb S 16 = 0
    · rw [if_pos c0]
      refine ⟨zvi (by omega) (by omega), ?_⟩
      intro M1 e1
      exact ⟨hV, mod 0 M1 e1 (by rw [if_pos c0])⟩
    · rw [if_neg c0]
      refine ⟨vp_in_nI (by omega) (by omega), c0, zvi (by omega) (by omega), ?_⟩
      intro M1 e1
      rw [nI_clamp (by omega), zc_bytes h1.1 hj, nI_l (hb j hj)] at e1
      exact ⟨hV, mod _ M1 e1 (by rw [if_neg c0])⟩
  · rw [if_pos rfl]
    refine ⟨hV, ?_⟩
    unfold wp_X9_share
    refine zm_isFlow (fun q => absurd q cc) (fun _ => ?_)
    rw [if_pos rfl]
    unfold wp_X9_share_b13
    intro M2 e2
    have e4 : M2.2 47 0 = M.2 47 0 := by rw [e2]; rfl
    refine ⟨17, zm_bytesL (S := S) (by rw [e4]; exact h2.1) ?_ 16 0 (by omega)⟩
    unfold wp_X9_share_L21
    have h9 : M2.1 9 0 4 = 1 := by rw [e2]; exact zth
    rw [if_pos (by decide), h9, if_pos rfl, e2]
    exact zthr h hN (by decide)
/-! fingerprint -/
def zfq : List zE → Int64 → Int64
  | [], f => f
  | e :: l, f => zfq l (31 * (31 * f + lN e.1) + e.2.1)
def zfn (S : zW) : Nat → Nat → Int64 → Int64
  | 0, _, f => f
  | n + 1, x, f => zfn S n (x + 1) (zfq (zQ S x) (31 * (31 * f + zL S 4 x) + lN (zQ S x).length))
def zff (S : zW) : Nat → Nat → Int64 → Int64
  | 0, _, f => f
  | n + 1, k, f => zff S n (k + 1) (31 * (31 * (31 * (31 * f + lN (zN S 5 k)) + lN (zN S 6 k)) + zL S 1 k) + lN (zN S 7 k))
theorem zx_ffL {nn ar : Nat} {M : gM} {S : zW} {K : Int64 → gM → Prop} (h : zC 0 nn ar M S) (hb : ∀ f, f < 16 → zN S 5 f < 2 ^ 31 ∧ zN S 6 f < 2 ^ 31 ∧ zN S 7 f < 2 ^ 31) : ∀ (n k : Nat) (f : Int64), k + n = 16 → K (zff S n k f) M → wp_X8_fingerprint_L145 K (n + 1) 0 f (nI k) M
  | 0, k, f, e, hK => by
    unfold wp_X8_fingerprint_L145
    rw [if_pos (zk_le2 (c := 16) (a := 16) rfl (by omega) (by omega))]
    exact hK
  | n + 1, k, f, e, hK => by
    unfold wp_X8_fingerprint_L145
    have v : vp_in (nI k) 16 := vp_in_nI (by omega) (by omega)
    rw [if_neg (zk_nle (c := 16) (a := 16) rfl (by omega) (by omega))]
    obtain ⟨b1, b2, b3⟩ := hb k (by omega)
    unfold wp_X8_mix
    refine ⟨v, v, v, v, ?_⟩
    rw [nI_clamp (by omega), zc_sent h (by omega), zc_bytes h (by omega), zc_delay h (by omega), zc_missed h (by omega), nI_l b1, nI_l b2, nI_l b3]
    intro n218 e218
    rw [zn_p1] at e218
    subst e218
    exact zx_ffL h hb n (k + 1) _ (by omega) hK
theorem zm_ffL {nn ar : Nat} {M : gM} {S : zW} {K : Int64 → gM → Prop} (h : zM nn ar (M.2 47 0) S) : ∀ (n k : Nat) (f : Int64), k + n = 16 → K (zff S n k f) M → wp_X9_fingerprint_L160 K (n + 1) 0 f (nI k) M
  | 0, k, f, e, hK => by
    unfold wp_X9_fingerprint_L160
    rw [if_pos (zk_le2 (c := 16) (a := 16) rfl (by omega) (by omega))]
    exact hK
  | n + 1, k, f, e, hK => by
    unfold wp_X9_fingerprint_L160
    rw [if_neg (zk_nle (c := 16) (a := 16) rfl (by omega) (by omega)), zm_fl, zad]
    refine ⟨vp_in_nI (by omega) (by omega), ?_⟩
    intro n1 e1
    rw [zm_fl, zad]
    refine ⟨vp_in_nI (by omega) (by omega), ?_⟩
    intro n2 e2
    rw [zm_fl, zad]
    refine ⟨vp_in_nI (by omega) (by omega), ?_⟩
    intro n3 e3
    rw [zm_fl, zad]
    refine ⟨vp_in_nI (by omega) (by omega), ?_⟩
    intro n4 e4 n5 e5
    rw [zn_p1] at e5
    rw [nI_clamp (by omega), zm_sent h (by omega)] at e1
    rw [nI_clamp (by omega), zm_bytes h (by omega)] at e2
    rw [nI_clamp (by omega), zm_delay h (by omega)] at e3
    rw [nI_clamp (by omega), zm_missed h (by omega)] at e4
    subst e1; subst e2; subst e3; subst e4; subst e5
    exact zm_ffL h n (k + 1) _ (by omega) hK
theorem zx_fqL {nn ar x : Nat} {M : gM} {S : zW} {K : Int64 → gM → Prop} {R30 : Nat → Int64 → Int32 → gM → Prop} (h : zC 0 nn ar M S) (hx : x < nn) (hl : (zQ S x).length ≤ 64) (hit : ∀ e ∈ zQ S x, e.1 < 2 ^ 31) : ∀ (n i : Nat) (f : Int64), i + n = (zQ S x).length → R30 0 (zfq ((zQ S x).drop i) f) (nI (x + 1)) M → wp_X8_fingerprint_L89 R30 K (n + 1) 0 f (nI x) (12 * 0 + x) (nI i) M
  | 0, i, f, e, hR => by
    unfold wp_X8_fingerprint_L89
    rw [(h.2.2.2.1 x hx).1, if_pos (nI_le (by omega) (by omega))]
    intro n137 e137
    rw [zn_p1] at e137
    subst e137
    rw [List.drop_eq_nil_of_le (by omega)] at hR
    exact hR
  | n + 1, i, f, e, hR => by
    have hi : i < (zQ S x).length := by omega
    unfold wp_X8_fingerprint_L89
    rw [(h.2.2.2.1 x hx).1, if_neg (nI_ge hi (by omega)), if_neg (zk_nle (c := 64) (a := 64) rfl (by omega) (by omega))]
    unfold wp_X8_mix
    have v : vp_in (nI i) 64 := vp_in_nI (by omega) (by omega)
    refine ⟨v, v, ?_⟩
    have he := (h.2.2.2.1 x hx).2 i _ (List.getElem?_eq_getElem hi)
    rw [nI_clamp (by omega), he.1, he.2.1, nI_l (hit _ (List.getElem_mem hi))]
    intro n131 e131
    rw [zn_p1] at e131
    subst e131
    rw [List.drop_eq_getElem_cons hi] at hR
    exact zx_fqL h hx hl hit n (i + 1) _ (by omega) hR
theorem zm_fqL {nn ar x : Nat} {M : gM} {S : zW} {K : Int64 → gM → Prop} {R29 : Nat → Int64 → Int32 → gM → Prop} (h : zM nn ar (M.2 47 0) S) (hinv : zInv S 0 0) (hn : zN S 0 0 = nn) (ha : zN S 1 0 = ar) (h20 : zN S 20 0 < 2 ^ 31) (hx : x < nn) : ∀ (n i : Nat) (f : Int64), i + n = (zQ S x).length → R29 0 (zfq ((zQ S x).drop i) f) (nI (x + 1)) M → wp_X9_fingerprint_L82 R29 K (n + 1) 0 f (nI x) (nI i) M
  | 0, i, f, e, hR => by
    have hn2 : nn ≤ 12 := by rw [← hn]; exact hinv.1.1.2
    have h64 := zlen64 hinv (x := x) (by omega)
    unfold wp_X9_fingerprint_L82
    rw [zm_nd, zad]
    refine ⟨vp_in_nI (by omega) (by omega), ?_⟩
    rw [nI_clamp (by omega), (h.2.2.2.1 x hx).1, zInv_lenR hinv (by omega), nI_l (by omega), if_pos ((lN_le (by omega) (by omega)).mpr (by omega))]
    intro n137 e137
    rw [zn_p1] at e137
    subst e137
    rw [List.drop_eq_nil_of_le (by omega)] at hR
    exact hR
  | n + 1, i, f, e, hR => by
    have hn2 : nn ≤ 12 := by rw [← hn]; exact hinv.1.1.2
    have h64 := zlen64 hinv (x := x) (by omega)
    have hi : i < (zQ S x).length := by omega
    unfold wp_X9_fingerprint_L82
    rw [zm_nd, zad]
    refine ⟨vp_in_nI (by omega) (by omega), ?_⟩
    rw [nI_clamp (by omega), (h.2.2.2.1 x hx).1, zInv_lenR hinv (by omega), nI_l (by omega), if_neg (fun q => absurd ((lN_le (by omega) (by omega)).mp q) (by omega))]
    refine zm_place h hinv hn ha h20 hx (List.getElem?_eq_getElem hi) (fun k hk => ?_)
    have hkl := (List.getElem?_eq_some_iff.mp hk).1
    rw [zInv_lenR hinv (by omega)] at hkl
    have he := (h.2.2.2.1 x hx).2 k _ hk
    rw [zm_el, zad, zad]
    refine ⟨vp_in_nI (by omega) (by omega), ?_⟩
    intro n129 e129
    refine ⟨vp_in_nI (by omega) (by omega), ?_⟩
    intro n145 e145 n146 e146
    rw [zn_p1] at e146
    rw [nI_clamp (by omega), he.1] at e129
    rw [nI_clamp (by omega), he.2.1] at e145
    subst e129; subst e145; subst e146
    rw [List.drop_eq_getElem_cons hi] at hR
    exact zm_fqL h hinv hn ha h20 hx n (i + 1) _ (by omega) hR
theorem zx_fnL {nn ar : Nat} {M : gM} {S : zW} {K : Int64 → gM → Prop} (h : zC 0 nn ar M S) (hinv : zInv S 0 0) (hn : zN S 0 0 = nn) (ha : zN S 1 0 = ar) {Q : Int64 → Prop} (hK : ∀ f : Int64, Q f → ∃ f145 : Nat, wp_X8_fingerprint_L145 K f145 0 f 0 M) : ∀ (n x : Nat) (f : Int64), x + n = nn → Q (zfn S n x f) → wp_X8_fingerprint_L30 K (n + 1) 0 f (nI x) M
  | 0, x, f, e, hk => by
    have ez : zfn S 0 x f = f := rfl
    rw [ez] at hk
    unfold wp_X8_fingerprint_L30
    rw [zc_nodes h, hn, if_pos (nI_le (by omega) (by have := hinv.1.1.2; omega))]
    exact hK f hk
  | n + 1, x, f, e, hk => by
    have hn2 : nn ≤ 12 := by rw [← hn]; exact hinv.1.1.2
    have ha2 : ar ≤ 500 := by rw [← ha]; exact hinv.2.2.1.1
    have h64 := zlen64 hinv (x := x) (by omega)
    unfold wp_X8_fingerprint_L30
    rw [zc_nodes h, hn, if_neg (nI_ge (by omega) (by omega)), if_neg (zk_nle (c := 12) (a := 12) rfl (by omega) (by omega))]
    unfold wp_X8_mix
    refine ⟨zcl12 (by omega), ?_⟩
    rw [nI_clamp (by omega), show M.2 3 (12 * 0 + x) 1 = zL S 4 x from zc_virtual h (by omega)]
    show ∃ f89 : Nat, wp_X8_fingerprint_L89 (fun o0 y1 x3 M => wp_X8_fingerprint_L30 K (n + 1) o0 y1 x3 M) K f89 0 (31 * (31 * f + zL S 4 x) + (M.1 3 (12 * 0 + x) 4).toInt64) (nI x) (12 * 0 + x) 0 M
    rw [(h.2.2.2.1 x (by omega)).1, nI_l (by omega)]
    refine ⟨(zQ S x).length + 1, zx_fqL h (by omega) (by omega) (fun e' he => ?_) (zQ S x).length 0 _ (by omega) ?_⟩
    · have hel := (hinv.2.2.2.1 x (by omega)).2.2.2 e' he
      rcases hel.2.2.2 with q | q
      · have := hel.1; omega
      · omega
    · exact zx_fnL h hinv hn ha hK n (x + 1) _ (by omega) hk
theorem zm_fnL {nn ar : Nat} {M : gM} {S : zW} {K : Int64 → gM → Prop} (h : zM nn ar (M.2 47 0) S) (hinv : zInv S 0 0) (hn : zN S 0 0 = nn) (ha : zN S 1 0 = ar) (h20 : zN S 20 0 < 2 ^ 31) {Q : Int64 → Prop} (hK : ∀ f : Int64, Q f → ∃ f160 : Nat, wp_X9_fingerprint_L160 K f160 0 f 0 M) : ∀ (n x : Nat) (f : Int64), x + n = nn → Q (zfn S n x f) → wp_X9_fingerprint_L29 K (n + 1) 0 f (nI x) M
  | 0, x, f, e, hk => by
    have ez : zfn S 0 x f = f := rfl
    rw [ez] at hk
    have hn2 : nn ≤ 12 := by rw [← hn]; exact hinv.1.1.2
    unfold wp_X9_fingerprint_L29
    refine ⟨zvi (by omega) (by omega), ?_⟩
    rw [zcl (by omega), zm_nodes h, hn, nI_l (by omega), if_pos ((lN_le (by omega) (by omega)).mpr (by omega))]
    exact hK f hk
  | n + 1, x, f, e, hk => by
    have hn2 : nn ≤ 12 := by rw [← hn]; exact hinv.1.1.2
    unfold wp_X9_fingerprint_L29
    refine ⟨zvi (by omega) (by omega), ?_⟩
    rw [zcl (by omega), zm_nodes h, hn, nI_l (by omega), if_neg (fun q => absurd ((lN_le (by omega) (by omega)).mp q) (by omega)), zm_nd, zad]
    refine ⟨vp_in_nI (by omega) (by omega), ?_⟩
    intro n59 e59
    rw [zm_nd, zad]
    refine ⟨vp_in_nI (by omega) (by omega), ?_⟩
    intro n78 e78
    rw [nI_clamp (by omega), zm_virtual h (by omega)] at e59
    rw [nI_clamp (by omega), (h.2.2.2.1 x (by omega)).1, zInv_lenR hinv (by omega)] at e78
    subst e59; subst e78
    exact ⟨(zQ S x).length + 1, zm_fqL h hinv hn ha h20 (by omega) (zQ S x).length 0 _ (by omega) (zm_fnL h hinv hn ha h20 hK n (x + 1) _ (by omega) hk)⟩
theorem zq_fingerprint {M : gM} {c : Nat} {Nx : gM → Prop} (hc : c < 10000) (h : zT M c) (hN : ∀ M', zT M' c → Nx M') : wp_X8_fingerprint 0 M (fun r M1 => wp_X9_fingerprint 0 M1 (fun rb M2 => if r = rb then Nx M2 else (0 : Int32) = 1)) := by
  have h' := h
  obtain ⟨S, ks, tx, er, h1, h2, h3⟩ := h'
  have hi := h3.1.1
  have h20 := h3.1.2.1.2.1
  have hl := zheld_le hi
  have hb : ∀ f, f < 16 → zN S 5 f < 2 ^ 31 ∧ zN S 6 f < 2 ^ 31 ∧ zN S 7 f < 2 ^ 31 := fun f hf => by have := h3.1.2.1.2.2.1 f hf; omega
  unfold wp_X8_fingerprint wp_X8_mix
  show ∃ f30 : Nat, wp_X8_fingerprint_L30 _ f30 0 (31 * (31 * 11 + M.2 7 0 0) + (M.1 2 0 0).toInt64) 0 M
  rw [h1.1.2.2.2.2.1, nI_l (by omega), zc_time h1.1]
  refine ⟨zN S 0 0 + 1, zx_fnL h1.1 hi rfl rfl (Q := fun f => wp_X9_fingerprint 0 M (fun rb M2 => if zff S 16 0 f = rb then Nx M2 else (0 : Int32) = 1)) (fun f q => ⟨17, zx_ffL h1.1 hb 16 0 f (by omega) q⟩) (zN S 0 0) 0 _ (by omega) ?_⟩
  unfold wp_X9_fingerprint
  intro M2 e2
  have e4 : M2.2 47 0 = M.2 47 0 := by rw [e2]; rfl
  refine ⟨zvi (by omega) (by omega), zvi (by omega) (by omega), ?_⟩
  intro n26 e26
  rw [zcl (by omega), zcl (by omega), e4, zm_time h2.1, h2.1.2.2.2.2.1] at e26
  subst e26
  refine ⟨zN S 0 0 + 1, zm_fnL (S := S) (by rw [e4]; exact h2.1) hi rfl rfl (by omega) (Q := fun f => f = zfn S (zN S 0 0) 0 (31 * (31 * 11 + zL S 0 0) + lN (zD S).length)) (fun f q => ⟨17, zm_ffL (S := S) (by rw [e4]; exact h2.1) 16 0 f (by omega) ?_⟩) (zN S 0 0) 0 _ (by omega) rfl⟩
  rw [q, e2]
  exact zok64 (hN _ (zT_9 h))
