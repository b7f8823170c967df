/-! templates -/
def ytp (x : Nat) : List Nat := ([[48], [112], [100], [77, 40, 118, 44, 97, 41, 58, 114, 43, 108, 47, 119], [77, 40, 118, 44, 97, 41, 58, 114, 43, 108, 42, 49, 48, 48, 47, 119, 59, 48, 60, 112, 59, 48, 60, 100, 59, 48, 60, 77, 40, 118, 44, 97, 41, 58, 114, 43, 108, 42, 49, 48, 48, 47, 119, 38], [116, 59, 48, 60, 112, 64, 49, 48, 48, 44, 53, 48, 48, 59, 48, 60, 48, 64, 53, 48, 44, 48, 37, 59, 48, 60, 100, 94]] : List (List Nat)).getD x []
def ytl : List Nat := [48, 32, 112, 32, 100, 32, 77, 40, 118, 44, 97, 41, 58, 114, 43, 108, 47, 119, 32, 77, 40, 118, 44, 97, 41, 58, 114, 43, 108, 42, 49, 48, 48, 47, 119, 59, 48, 60, 112, 59, 48, 60, 100, 59, 48, 60, 77, 40, 118, 44, 97, 41, 58, 114, 43, 108, 42, 49, 48, 48, 47, 119, 38, 32, 116, 59, 48, 60, 112, 64, 49, 48, 48, 44, 53, 48, 48, 59, 48, 60, 48, 64, 53, 48, 44, 48, 37, 59, 48, 60, 100, 94, 32]
def ysi (x : Nat) : Nat := if x = 0 then 5 else x - 1
theorem ytp_ok : ∀ x, x < 6 → (ytp x).length ≤ 120 ∧ ∀ a ∈ ytp x, 32 ≤ a ∧ a ≤ 126 := by decide +kernel
theorem ytp_len : ∀ x, x < 6 → ysi x < g_nS ∧ g_sLen.getD (ysi x) 0 = (ytp x).length := by decide +kernel
theorem ytp_ch : ∀ x, x < 6 → ∀ j, j < (ytp x).length → vp_nar .char (g_sCh (ysi x) j) = nI ((ytp x).getD j 0) := by decide +kernel
theorem ytl_k : ∀ j, j < 93 → k_tpl j = nI (ytl.getD j 0) := by decide +kernel
theorem ytl_len : ytl.length = 93 := by decide
theorem ytl_b : ∀ c ∈ ytl, c < 127 := by decide
def ysp (x : Nat) : List Nat → Nat → List Nat → List Nat
  | [], _, acc => acc
  | c :: r, s, acc => if c = 32 then ysp x r (s + 1) acc else if s = x then ysp x r s (acc ++ [c]) else ysp x r s acc
theorem ysp_ok : ∀ x, x < 6 → ysp x ytl 0 [] = ytp x := by decide +kernel
theorem ytp_tree : ∀ x, x < 6 → (ytree (fun i => (ytp x).getD i 0) (ytp x).length 13 0 0 [] []).1 = 1 := by decide +kernel
