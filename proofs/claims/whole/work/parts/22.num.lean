/-! numbers, for the pure part -/
theorem pn_lit (n : Nat) : (no_index (OfNat.ofNat n) : Int32) = nI n := rfl
theorem pn_i1 : Int32.ofInt 1 = nI 1 := rfl
theorem pn_i5 : Int32.ofInt 5 = nI 5 := rfl
theorem pn_in {n N : Nat} (h : n < N) (hN : N < 2 ^ 31) : vp_in (nI n) N := vp_in_nI h hN
theorem pn_cl {n : Nat} (h : n < 2 ^ 31) : (nI n).toNatClampNeg = n := nI_clamp h
theorem pm_node (n : Nat) (M : gM) (K : Int32 → gM → Prop) : wp_X9_node (nI n) M K = K (nI (130 + 12 * n)) M := by
  simp only [wp_X9_node, pn_lit, pk_mul, nI_add]
theorem pm_packet (n : Nat) (M : gM) (K : Int32 → gM → Prop) : wp_X9_packet (nI n) M K = K (nI (640 + 7 * n)) M := by
  simp only [wp_X9_packet, pn_lit, pk_mul, nI_add]
