/-! The memory: cells by kinds. A cell is (kind, owner); M.1 k o i is the int at slot i, M.2 k o i the long. -/
def WL : List Cond := lw_tbl.filter goodWord
theorem WL_of {w : Cond} (i : Nat) (h : tables_1[i]? = some w) (g : goodWord w = true) : w ∈ WL := List.mem_filter.mpr ⟨List.mem_append_right _ (List.mem_of_getElem? h), g⟩
theorem WL_sel {w : Cond} (i : Nat) (h : (k2_sels lw_privs)[i]? = some w) (g : goodWord w = true) : w ∈ WL := List.mem_filter.mpr ⟨List.mem_append_left _ (List.mem_of_getElem? h), g⟩
theorem WL_tbl {w : Cond} (h : w ∈ WL) : w ∈ lw_tbl := (List.mem_filter.mp h).1
theorem WL_good {T : List Cond} (hT : ∀ w ∈ WL, w ∈ T) {ws : List Cond} (h : ∀ w ∈ ws, w ∈ WL) : GoodIn T ws := fun w hw => ⟨hT w (h w hw), good_of_word (List.mem_filter.mp (h w hw)).2⟩
abbrev gM : Type := (Nat → Nat → Nat → Int32) × (Nat → Nat → Nat → Int64)
def g_uI (M : gM) (k o i : Nat) (v : Int32) : gM := (fun a b => if a = k ∧ b = o then upd (M.1 k o) i v else M.1 a b, M.2)
def g_uL (M : gM) (k o i : Nat) (v : Int64) : gM := (M.1, fun a b => if a = k ∧ b = o then vp_updL (M.2 k o) i v else M.2 a b)
def g_cI (M : gM) (k' o' k o sp dp n : Nat) : gM := (fun a b => if a = k ∧ b = o then va_cpy (M.1 k' o') (M.1 k o) sp dp n else M.1 a b, M.2)
def g_cL (M : gM) (k' o' k o sp dp n : Nat) : gM := (M.1, fun a b => if a = k ∧ b = o then va_cpy (M.2 k' o') (M.2 k o) sp dp n else M.2 a b)
/-- the place: tables' numbers, array types' numbers, addresses, which cells there are, where new cells begin, the text constants, the script -/
abbrev gT : Type := va_G × (Nat → ClassId) × (Nat → Nat → Nat) × List (Nat × Nat) × Nat × ((Nat → Nat) × (Nat → Nat)) × (Nat × Nat × (Nat → Int32))
abbrev gD (t : gT) : va_G := t.1
abbrev gCA (t : gT) : Nat → ClassId := t.2.1
abbrev gAd (t : gT) : Nat → Nat → Nat := t.2.2.1
abbrev gKs (t : gT) : List (Nat × Nat) := t.2.2.2.1
abbrev gBs (t : gT) : Nat := t.2.2.2.2.1
abbrev gSK (t : gT) : Nat → Nat := t.2.2.2.2.2.1.1
abbrev gSV (t : gT) : Nat → Nat := t.2.2.2.2.2.1.2
abbrev gScB (t : gT) : Nat := t.2.2.2.2.2.2.1
abbrev gScL (t : gT) : Nat := t.2.2.2.2.2.2.2.1
abbrev gScX (t : gT) : Nat → Int32 := t.2.2.2.2.2.2.2.2
def g_A (t : gT) : Nat → Prop := fun q => gBs t ≤ q
def g_cell (t : gT) (k o : Nat) (fi : Nat → Int32) (fl : Nat → Int64) : va_E := match k with
  | 0 => .inr (0, [.ref (gAd t 10 o), .ref (gAd t 11 o)])
  | 1 => .inr (1, [.ref (gAd t 12 o), .ref (gAd t 13 o), .ref (gAd t 14 o), .ref (gAd t 15 o), .ref (gAd t 16 o), .ref (gAd t 17 o), .ref (gAd t 18 o)])
  | 2 => .inr (2, [.int (fi 0), .ref (gAd t 19 o), .ref (gAd t 20 o), .ref (gAd t 21 o)])
  | 3 => .inr (3, [.int (fi 0), .long (fl 1), .long (fl 2), .ref (gAd t 22 o), .int (fi 4), .ref (gAd t 23 o), .ref (gAd t 24 o), .ref (gAd t 25 o)])
  | 4 => .inr (4, [.int (fi 0), .ref (gAd t 26 o), .ref (gAd t 27 o), .ref (gAd t 28 o), .ref (gAd t 29 o), .ref (gAd t 30 o), .ref (gAd t 31 o)])
  | 5 => .inr (5, [.int (fi 0), .ref (gAd t 32 o), .ref (gAd t 33 o), .ref (gAd t 34 o), .ref (gAd t 35 o), .ref (gAd t 36 o), .ref (gAd t 37 o), .ref (gAd t 38 o), .ref (gAd t 39 o), .ref (gAd t 40 o), .int (fi 10)])
  | 6 => .inr (6, [.ref (gAd t 5 5), .ref (gAd t 41 o), .int (fi 2), .int (fi 3), .int (fi 4), .int (fi 5), .int (fi 6), .ref (gAd t 42 o), .int (fi 8)])
  | 7 => .inr (7, [.long (fl 0), .int (fi 1), .ref (gAd t 5 o), .ref (gAd t 43 o), .ref (gAd t 4 o), .ref (gAd t 1 o), .ref (gAd t 2 o), .ref (gAd t 0 0)])
  | 8 => .inr (8, [.ref (gAd t 44 o), .int (fi 1), .ref (gAd t 45 o), .ref (gAd t 6 0), .ref (gAd t 7 0), .ref (gAd t 7 1), .ref (gAd t 46 o), .int (fi 7)])
  | 9 => .inr (9, [.ref (gAd t 47 o), .ref (gAd t 48 o), .ref (gAd t 49 o), .int (fi 3), .int (fi 4), .ref (gAd t 50 o), .ref (gAd t 51 o), .int (fi 7), .ref (gAd t 52 o), .ref (gAd t 53 o), .int (fi 10), .int (fi 11), .ref (gAd t 54 o), .int (fi 13), .ref (gAd t 55 o), .int (fi 15), .ref (gAd t 56 o), .int (fi 17), .ref (gAd t 57 o), .ref (gAd t 58 o)])
  | 10 => .inl (gCA t 1, 10, .inr (.inl fl))
  | 11 => .inl (gCA t 1, 120, .inr (.inl fl))
  | 12 => .inl (gCA t 0, 16, .inl fi)
  | 13 => .inl (gCA t 0, 16, .inl fi)
  | 14 => .inl (gCA t 0, 16, .inl fi)
  | 15 => .inl (gCA t 0, 16, .inl fi)
  | 16 => .inl (gCA t 1, 16, .inr (.inl fl))
  | 17 => .inl (gCA t 1, 16, .inr (.inl fl))
  | 18 => .inl (gCA t 0, 16, .inl fi)
  | 19 => .inl (gCA t 0, 64, .inl fi)
  | 20 => .inl (gCA t 0, 64, .inl fi)
  | 21 => .inl (gCA t 1, 64, .inr (.inl fl))
  | 22 => .inl (gCA t 1, 16, .inr (.inl fl))
  | 23 => .inl (gCA t 0, 64, .inl fi)
  | 24 => .inl (gCA t 1, 64, .inr (.inl fl))
  | 25 => .inl (gCA t 0, 64, .inl fi)
  | 26 => .inl (gCA t 0, 500, .inl fi)
  | 27 => .inl (gCA t 0, 500, .inl fi)
  | 28 => .inl (gCA t 0, 500, .inl fi)
  | 29 => .inl (gCA t 1, 500, .inr (.inl fl))
  | 30 => .inl (gCA t 1, 500, .inr (.inl fl))
  | 31 => .inl (gCA t 1, 500, .inr (.inl fl))
  | 32 => .inl (gCA t 0, 12, .inl fi)
  | 33 => .inl (gCA t 0, 12, .inl fi)
  | 34 => .inl (gCA t 0, 12, .inl fi)
  | 35 => .inl (gCA t 0, 12, .inl fi)
  | 36 => .inl (gCA t 0, 12, .inl fi)
  | 37 => .inl (gCA t 0, 12, .inl fi)
  | 38 => .inl (gCA t 0, 12, .inl fi)
  | 39 => .inl (gCA t 0, 12, .inl fi)
  | 40 => .inl (gCA t 0, 120, .inl fi)
  | 41 => .inl (gCA t 2, 120, .inl fi)
  | 42 => .inl (gCA t 2, 120, .inl fi)
  | 43 => .inl (gCA t 3, 12, .inr (.inr (.inr (.inr (fun j => some (gAd t 3 (12 * o + j)))))))
  | 44 => .inl (gCA t 2, 120, .inl fi)
  | 45 => .inl (gCA t 0, 3, .inl fi)
  | 46 => .inl (gCA t 4, 3, .inr (.inr (.inr (.inr (fun j => some (gAd t 7 (2 + j)))))))
  | 47 => .inl (gCA t 1, 7600, .inr (.inl fl))
  | 48 => .inl (gCA t 1, 7600, .inr (.inl fl))
  | 49 => .inl (gCA t 1, 22800, .inr (.inl fl))
  | 50 => .inl (gCA t 2, 93, .inl fi)
  | 51 => .inl (gCA t 0, 120, .inl fi)
  | 52 => .inl (gCA t 0, 3, .inl fi)
  | 53 => .inl (gCA t 0, 120, .inl fi)
  | 54 => .inl (gCA t 0, 144, .inl fi)
  | 55 => .inl (gCA t 1, 160, .inr (.inl fl))
  | 56 => .inl (gCA t 0, 130, .inl fi)
  | 57 => .inl (gCA t 1, 130, .inr (.inl fl))
  | 58 => .inl (gCA t 1, 10, .inr (.inl fl))
  | _ => .inl (gCA t 1, 1, .inr (.inl fl))
def g_cnt (k : Nat) : Nat := match k with
  | 0 => 1
  | 1 => 5
  | 2 => 5
  | 3 => 60
  | 4 => 5
  | 5 => 6
  | 6 => 1
  | 7 => 5
  | 8 => 1
  | 9 => 1
  | 10 => 1
  | 11 => 1
  | 12 => 5
  | 13 => 5
  | 14 => 5
  | 15 => 5
  | 16 => 5
  | 17 => 5
  | 18 => 5
  | 19 => 5
  | 20 => 5
  | 21 => 5
  | 22 => 60
  | 23 => 60
  | 24 => 60
  | 25 => 60
  | 26 => 5
  | 27 => 5
  | 28 => 5
  | 29 => 5
  | 30 => 5
  | 31 => 5
  | 32 => 6
  | 33 => 6
  | 34 => 6
  | 35 => 6
  | 36 => 6
  | 37 => 6
  | 38 => 6
  | 39 => 6
  | 40 => 6
  | 41 => 1
  | 42 => 1
  | 43 => 5
  | 44 => 1
  | 45 => 1
  | 46 => 1
  | 47 => 1
  | 48 => 1
  | 49 => 1
  | 50 => 1
  | 51 => 1
  | 52 => 1
  | 53 => 1
  | 54 => 1
  | 55 => 1
  | 56 => 1
  | 57 => 1
  | 58 => 1
  | 59 => 1
  | _ => 0
theorem gc_0 (t : gT) (o : Nat) (fi : Nat → Int32) (fl : Nat → Int64) : g_cell t 0 o fi fl = .inr (0, [.ref (gAd t 10 o), .ref (gAd t 11 o)]) := rfl
theorem gc_1 (t : gT) (o : Nat) (fi : Nat → Int32) (fl : Nat → Int64) : g_cell t 1 o fi fl = .inr (1, [.ref (gAd t 12 o), .ref (gAd t 13 o), .ref (gAd t 14 o), .ref (gAd t 15 o), .ref (gAd t 16 o), .ref (gAd t 17 o), .ref (gAd t 18 o)]) := rfl
theorem gc_2 (t : gT) (o : Nat) (fi : Nat → Int32) (fl : Nat → Int64) : g_cell t 2 o fi fl = .inr (2, [.int (fi 0), .ref (gAd t 19 o), .ref (gAd t 20 o), .ref (gAd t 21 o)]) := rfl
theorem gc_3 (t : gT) (o : Nat) (fi : Nat → Int32) (fl : Nat → Int64) : g_cell t 3 o fi fl = .inr (3, [.int (fi 0), .long (fl 1), .long (fl 2), .ref (gAd t 22 o), .int (fi 4), .ref (gAd t 23 o), .ref (gAd t 24 o), .ref (gAd t 25 o)]) := rfl
theorem gc_4 (t : gT) (o : Nat) (fi : Nat → Int32) (fl : Nat → Int64) : g_cell t 4 o fi fl = .inr (4, [.int (fi 0), .ref (gAd t 26 o), .ref (gAd t 27 o), .ref (gAd t 28 o), .ref (gAd t 29 o), .ref (gAd t 30 o), .ref (gAd t 31 o)]) := rfl
theorem gc_5 (t : gT) (o : Nat) (fi : Nat → Int32) (fl : Nat → Int64) : g_cell t 5 o fi fl = .inr (5, [.int (fi 0), .ref (gAd t 32 o), .ref (gAd t 33 o), .ref (gAd t 34 o), .ref (gAd t 35 o), .ref (gAd t 36 o), .ref (gAd t 37 o), .ref (gAd t 38 o), .ref (gAd t 39 o), .ref (gAd t 40 o), .int (fi 10)]) := rfl
theorem gc_6 (t : gT) (o : Nat) (fi : Nat → Int32) (fl : Nat → Int64) : g_cell t 6 o fi fl = .inr (6, [.ref (gAd t 5 5), .ref (gAd t 41 o), .int (fi 2), .int (fi 3), .int (fi 4), .int (fi 5), .int (fi 6), .ref (gAd t 42 o), .int (fi 8)]) := rfl
theorem gc_7 (t : gT) (o : Nat) (fi : Nat → Int32) (fl : Nat → Int64) : g_cell t 7 o fi fl = .inr (7, [.long (fl 0), .int (fi 1), .ref (gAd t 5 o), .ref (gAd t 43 o), .ref (gAd t 4 o), .ref (gAd t 1 o), .ref (gAd t 2 o), .ref (gAd t 0 0)]) := rfl
theorem gc_8 (t : gT) (o : Nat) (fi : Nat → Int32) (fl : Nat → Int64) : g_cell t 8 o fi fl = .inr (8, [.ref (gAd t 44 o), .int (fi 1), .ref (gAd t 45 o), .ref (gAd t 6 0), .ref (gAd t 7 0), .ref (gAd t 7 1), .ref (gAd t 46 o), .int (fi 7)]) := rfl
theorem gc_9 (t : gT) (o : Nat) (fi : Nat → Int32) (fl : Nat → Int64) : g_cell t 9 o fi fl = .inr (9, [.ref (gAd t 47 o), .ref (gAd t 48 o), .ref (gAd t 49 o), .int (fi 3), .int (fi 4), .ref (gAd t 50 o), .ref (gAd t 51 o), .int (fi 7), .ref (gAd t 52 o), .ref (gAd t 53 o), .int (fi 10), .int (fi 11), .ref (gAd t 54 o), .int (fi 13), .ref (gAd t 55 o), .int (fi 15), .ref (gAd t 56 o), .int (fi 17), .ref (gAd t 57 o), .ref (gAd t 58 o)]) := rfl
theorem gc_10 (t : gT) (o : Nat) (fi : Nat → Int32) (fl : Nat → Int64) : g_cell t 10 o fi fl = .inl (gCA t 1, 10, .inr (.inl fl)) := rfl
theorem gc_11 (t : gT) (o : Nat) (fi : Nat → Int32) (fl : Nat → Int64) : g_cell t 11 o fi fl = .inl (gCA t 1, 120, .inr (.inl fl)) := rfl
theorem gc_12 (t : gT) (o : Nat) (fi : Nat → Int32) (fl : Nat → Int64) : g_cell t 12 o fi fl = .inl (gCA t 0, 16, .inl fi) := rfl
theorem gc_13 (t : gT) (o : Nat) (fi : Nat → Int32) (fl : Nat → Int64) : g_cell t 13 o fi fl = .inl (gCA t 0, 16, .inl fi) := rfl
theorem gc_14 (t : gT) (o : Nat) (fi : Nat → Int32) (fl : Nat → Int64) : g_cell t 14 o fi fl = .inl (gCA t 0, 16, .inl fi) := rfl
theorem gc_15 (t : gT) (o : Nat) (fi : Nat → Int32) (fl : Nat → Int64) : g_cell t 15 o fi fl = .inl (gCA t 0, 16, .inl fi) := rfl
theorem gc_16 (t : gT) (o : Nat) (fi : Nat → Int32) (fl : Nat → Int64) : g_cell t 16 o fi fl = .inl (gCA t 1, 16, .inr (.inl fl)) := rfl
theorem gc_17 (t : gT) (o : Nat) (fi : Nat → Int32) (fl : Nat → Int64) : g_cell t 17 o fi fl = .inl (gCA t 1, 16, .inr (.inl fl)) := rfl
theorem gc_18 (t : gT) (o : Nat) (fi : Nat → Int32) (fl : Nat → Int64) : g_cell t 18 o fi fl = .inl (gCA t 0, 16, .inl fi) := rfl
theorem gc_19 (t : gT) (o : Nat) (fi : Nat → Int32) (fl : Nat → Int64) : g_cell t 19 o fi fl = .inl (gCA t 0, 64, .inl fi) := rfl
theorem gc_20 (t : gT) (o : Nat) (fi : Nat → Int32) (fl : Nat → Int64) : g_cell t 20 o fi fl = .inl (gCA t 0, 64, .inl fi) := rfl
theorem gc_21 (t : gT) (o : Nat) (fi : Nat → Int32) (fl : Nat → Int64) : g_cell t 21 o fi fl = .inl (gCA t 1, 64, .inr (.inl fl)) := rfl
theorem gc_22 (t : gT) (o : Nat) (fi : Nat → Int32) (fl : Nat → Int64) : g_cell t 22 o fi fl = .inl (gCA t 1, 16, .inr (.inl fl)) := rfl
theorem gc_23 (t : gT) (o : Nat) (fi : Nat → Int32) (fl : Nat → Int64) : g_cell t 23 o fi fl = .inl (gCA t 0, 64, .inl fi) := rfl
theorem gc_24 (t : gT) (o : Nat) (fi : Nat → Int32) (fl : Nat → Int64) : g_cell t 24 o fi fl = .inl (gCA t 1, 64, .inr (.inl fl)) := rfl
theorem gc_25 (t : gT) (o : Nat) (fi : Nat → Int32) (fl : Nat → Int64) : g_cell t 25 o fi fl = .inl (gCA t 0, 64, .inl fi) := rfl
theorem gc_26 (t : gT) (o : Nat) (fi : Nat → Int32) (fl : Nat → Int64) : g_cell t 26 o fi fl = .inl (gCA t 0, 500, .inl fi) := rfl
theorem gc_27 (t : gT) (o : Nat) (fi : Nat → Int32) (fl : Nat → Int64) : g_cell t 27 o fi fl = .inl (gCA t 0, 500, .inl fi) := rfl
theorem gc_28 (t : gT) (o : Nat) (fi : Nat → Int32) (fl : Nat → Int64) : g_cell t 28 o fi fl = .inl (gCA t 0, 500, .inl fi) := rfl
theorem gc_29 (t : gT) (o : Nat) (fi : Nat → Int32) (fl : Nat → Int64) : g_cell t 29 o fi fl = .inl (gCA t 1, 500, .inr (.inl fl)) := rfl
theorem gc_30 (t : gT) (o : Nat) (fi : Nat → Int32) (fl : Nat → Int64) : g_cell t 30 o fi fl = .inl (gCA t 1, 500, .inr (.inl fl)) := rfl
theorem gc_31 (t : gT) (o : Nat) (fi : Nat → Int32) (fl : Nat → Int64) : g_cell t 31 o fi fl = .inl (gCA t 1, 500, .inr (.inl fl)) := rfl
theorem gc_32 (t : gT) (o : Nat) (fi : Nat → Int32) (fl : Nat → Int64) : g_cell t 32 o fi fl = .inl (gCA t 0, 12, .inl fi) := rfl
theorem gc_33 (t : gT) (o : Nat) (fi : Nat → Int32) (fl : Nat → Int64) : g_cell t 33 o fi fl = .inl (gCA t 0, 12, .inl fi) := rfl
theorem gc_34 (t : gT) (o : Nat) (fi : Nat → Int32) (fl : Nat → Int64) : g_cell t 34 o fi fl = .inl (gCA t 0, 12, .inl fi) := rfl
theorem gc_35 (t : gT) (o : Nat) (fi : Nat → Int32) (fl : Nat → Int64) : g_cell t 35 o fi fl = .inl (gCA t 0, 12, .inl fi) := rfl
theorem gc_36 (t : gT) (o : Nat) (fi : Nat → Int32) (fl : Nat → Int64) : g_cell t 36 o fi fl = .inl (gCA t 0, 12, .inl fi) := rfl
theorem gc_37 (t : gT) (o : Nat) (fi : Nat → Int32) (fl : Nat → Int64) : g_cell t 37 o fi fl = .inl (gCA t 0, 12, .inl fi) := rfl
theorem gc_38 (t : gT) (o : Nat) (fi : Nat → Int32) (fl : Nat → Int64) : g_cell t 38 o fi fl = .inl (gCA t 0, 12, .inl fi) := rfl
theorem gc_39 (t : gT) (o : Nat) (fi : Nat → Int32) (fl : Nat → Int64) : g_cell t 39 o fi fl = .inl (gCA t 0, 12, .inl fi) := rfl
theorem gc_40 (t : gT) (o : Nat) (fi : Nat → Int32) (fl : Nat → Int64) : g_cell t 40 o fi fl = .inl (gCA t 0, 120, .inl fi) := rfl
theorem gc_41 (t : gT) (o : Nat) (fi : Nat → Int32) (fl : Nat → Int64) : g_cell t 41 o fi fl = .inl (gCA t 2, 120, .inl fi) := rfl
theorem gc_42 (t : gT) (o : Nat) (fi : Nat → Int32) (fl : Nat → Int64) : g_cell t 42 o fi fl = .inl (gCA t 2, 120, .inl fi) := rfl
theorem gc_43 (t : gT) (o : Nat) (fi : Nat → Int32) (fl : Nat → Int64) : g_cell t 43 o fi fl = .inl (gCA t 3, 12, .inr (.inr (.inr (.inr (fun j => some (gAd t 3 (12 * o + j))))))) := rfl
theorem gc_44 (t : gT) (o : Nat) (fi : Nat → Int32) (fl : Nat → Int64) : g_cell t 44 o fi fl = .inl (gCA t 2, 120, .inl fi) := rfl
theorem gc_45 (t : gT) (o : Nat) (fi : Nat → Int32) (fl : Nat → Int64) : g_cell t 45 o fi fl = .inl (gCA t 0, 3, .inl fi) := rfl
theorem gc_46 (t : gT) (o : Nat) (fi : Nat → Int32) (fl : Nat → Int64) : g_cell t 46 o fi fl = .inl (gCA t 4, 3, .inr (.inr (.inr (.inr (fun j => some (gAd t 7 (2 + j))))))) := rfl
theorem gc_47 (t : gT) (o : Nat) (fi : Nat → Int32) (fl : Nat → Int64) : g_cell t 47 o fi fl = .inl (gCA t 1, 7600, .inr (.inl fl)) := rfl
theorem gc_48 (t : gT) (o : Nat) (fi : Nat → Int32) (fl : Nat → Int64) : g_cell t 48 o fi fl = .inl (gCA t 1, 7600, .inr (.inl fl)) := rfl
theorem gc_49 (t : gT) (o : Nat) (fi : Nat → Int32) (fl : Nat → Int64) : g_cell t 49 o fi fl = .inl (gCA t 1, 22800, .inr (.inl fl)) := rfl
theorem gc_50 (t : gT) (o : Nat) (fi : Nat → Int32) (fl : Nat → Int64) : g_cell t 50 o fi fl = .inl (gCA t 2, 93, .inl fi) := rfl
theorem gc_51 (t : gT) (o : Nat) (fi : Nat → Int32) (fl : Nat → Int64) : g_cell t 51 o fi fl = .inl (gCA t 0, 120, .inl fi) := rfl
theorem gc_52 (t : gT) (o : Nat) (fi : Nat → Int32) (fl : Nat → Int64) : g_cell t 52 o fi fl = .inl (gCA t 0, 3, .inl fi) := rfl
theorem gc_53 (t : gT) (o : Nat) (fi : Nat → Int32) (fl : Nat → Int64) : g_cell t 53 o fi fl = .inl (gCA t 0, 120, .inl fi) := rfl
theorem gc_54 (t : gT) (o : Nat) (fi : Nat → Int32) (fl : Nat → Int64) : g_cell t 54 o fi fl = .inl (gCA t 0, 144, .inl fi) := rfl
theorem gc_55 (t : gT) (o : Nat) (fi : Nat → Int32) (fl : Nat → Int64) : g_cell t 55 o fi fl = .inl (gCA t 1, 160, .inr (.inl fl)) := rfl
theorem gc_56 (t : gT) (o : Nat) (fi : Nat → Int32) (fl : Nat → Int64) : g_cell t 56 o fi fl = .inl (gCA t 0, 130, .inl fi) := rfl
theorem gc_57 (t : gT) (o : Nat) (fi : Nat → Int32) (fl : Nat → Int64) : g_cell t 57 o fi fl = .inl (gCA t 1, 130, .inr (.inl fl)) := rfl
theorem gc_58 (t : gT) (o : Nat) (fi : Nat → Int32) (fl : Nat → Int64) : g_cell t 58 o fi fl = .inl (gCA t 1, 10, .inr (.inl fl)) := rfl
theorem gc_59 (t : gT) (o : Nat) (fi : Nat → Int32) (fl : Nat → Int64) : g_cell t 59 o fi fl = .inl (gCA t 1, 1, .inr (.inl fl)) := rfl
def g_strs : List (String × Nat × String) := [("SchedulerTree", 302, "p"), ("SchedulerTree", 304, "d"), ("SchedulerTree", 306, "M(v,a):r+l/w"), ("SchedulerTree", 308, "M(v,a):r+l*100/w;0<p;0<d;0<M(v,a):r+l*100/w&"), ("SchedulerTree", 310, "t;0<p@100,500;0<0@50,0%;0<d^"), ("SchedulerTree", 312, "0"), ("SchedulerTree$Reader", 131, "pldfwatvnr"), ("SchedulerTree$Reader", 98, "^%&"), ("SchedulerTree", 53, "no such character"), ("SchedulerTree", 63, "the text is full"), ("SchedulerTree", 96, "no such template"), ("SchedulerTree", 100, "no such error"), ("SchedulerTree", 317, "no such node"), ("SchedulerTree", 321, "no such flow"), ("SchedulerTree", 325, "no such weight"), ("SchedulerTree", 142, "the node is not a leaf"), ("SchedulerTree", 147, "no such rate"), ("SchedulerTree", 327, "no such length"), ("SchedulerTree", 329, "no such priority"), ("SchedulerTree", 332, "no such slack"), ("SchedulerTree", 156, "too many packets wait"), ("SchedulerTree", 167, "too many packets have arrived"), ("SchedulerTree", 187, "time does not go back"), ("SchedulerTree", 319, "no such element"), ("SchedulerTree", 225, "no such class at this node"), ("SchedulerTree", 234, "no such place"), ("SchedulerTree", 246, "no such packet waits"), ("SchedulerTree", 323, "no such packet"), ("SchedulerTree", 282, "too many checkpoints are kept"), ("SchedulerTree", 334, "no checkpoint is kept")]
def g_nS : Nat := 8
def g_sLen : List Nat := [1, 1, 12, 44, 28, 1, 10, 3]
def g_sByt : List (List Int32) := [[112], [100], [77, 40, 118, 44, 97, 41, 58, 114, 43, 108, 47, 119], [77, 40, 118, 44, 97, 41, 58, 114, 43, 108, 42, 49, 48, 48, 47, 119, 59, 48, 60, 112, 59, 48, 60, 100, 59, 48, 60, 77, 40, 118, 44, 97, 41, 58, 114, 43, 108, 42, 49, 48, 48, 47, 119, 38], [116, 59, 48, 60, 112, 64, 49, 48, 48, 44, 53, 48, 48, 59, 48, 60, 48, 64, 53, 48, 44, 48, 37, 59, 48, 60, 100, 94], [48], [112, 108, 100, 102, 119, 97, 116, 118, 110, 114], [94, 37, 38]]
def g_ws (t : gT) (M : gM) : va_W := (gKs t).map (fun x => (gAd t x.1 x.2, g_cell t x.1 x.2 (M.1 x.1 x.2) (M.2 x.1 x.2)))
theorem g_at {t : gT} {M : gM} {k o : Nat} (h : (k, o) ∈ gKs t) : ∃ j : Nat, (g_ws t M)[j]? = some (gAd t k o, g_cell t k o (M.1 k o) (M.2 k o)) :=
  List.getElem?_of_mem (List.mem_map.mpr ⟨(k, o), h, rfl⟩)
theorem g_set {t : gT} {M M' : gM} {A : Nat → Prop} (hD : va_D A (g_ws t M)) {k o j : Nat} (h : (k, o) ∈ gKs t) {e : va_E} (hj : (g_ws t M)[j]? = some (gAd t k o, e)) {c : va_E}
    (h1 : ∀ a b, (a, b) ≠ (k, o) → g_cell t a b (M'.1 a b) (M'.2 a b) = g_cell t a b (M.1 a b) (M.2 a b)) (h2 : g_cell t k o (M'.1 k o) (M'.2 k o) = c) : (g_ws t M).set j (gAd t k o, c) = g_ws t M' := by
  obtain ⟨i, hi⟩ := List.getElem?_of_mem h
  have hi2 : (g_ws t M)[i]? = some (gAd t k o, g_cell t k o (M.1 k o) (M.2 k o)) := by simp [g_ws, hi]
  have hij : i = j := hD.1 i j _ _ hi2 hj rfl
  subst hij
  have hl : i < (g_ws t M).length := (List.getElem?_eq_some_iff.mp hj).1
  apply List.ext_getElem?
  intro q
  by_cases hq : q = i
  · subst hq
    rw [List.getElem?_set_self hl]
    simp [g_ws, hi, h2]
  · rw [List.getElem?_set_ne (fun h => hq h.symm)]
    cases hx : (gKs t)[q]? with
    | none => simp [g_ws, hx]
    | some x =>
      have hne : (x.1, x.2) ≠ (k, o) := by
        intro hxe
        have hq2 : (g_ws t M)[q]? = some (gAd t k o, g_cell t k o (M.1 k o) (M.2 k o)) := by
          have : x = (k, o) := hxe
          simp [g_ws, hx, this]
        exact hq (hD.1 q i _ _ hq2 hi2 rfl)
      simp [g_ws, hx, h1 x.1 x.2 hne]
theorem g_uI_ne {M : gM} {k o i : Nat} {v : Int32} {a b : Nat} (h : (a, b) ≠ (k, o)) : (g_uI M k o i v).1 a b = M.1 a b := if_neg (fun q => h (by rw [q.1, q.2]))
theorem g_uI_eq {M : gM} {k o i : Nat} {v : Int32} : (g_uI M k o i v).1 k o = upd (M.1 k o) i v := if_pos ⟨rfl, rfl⟩
theorem g_uL_ne {M : gM} {k o i : Nat} {v : Int64} {a b : Nat} (h : (a, b) ≠ (k, o)) : (g_uL M k o i v).2 a b = M.2 a b := if_neg (fun q => h (by rw [q.1, q.2]))
theorem g_uL_eq {M : gM} {k o i : Nat} {v : Int64} : (g_uL M k o i v).2 k o = vp_updL (M.2 k o) i v := if_pos ⟨rfl, rfl⟩
theorem g_cI_ne {M : gM} {k' o' k o sp dp n : Nat} {a b : Nat} (h : (a, b) ≠ (k, o)) : (g_cI M k' o' k o sp dp n).1 a b = M.1 a b := if_neg (fun q => h (by rw [q.1, q.2]))
theorem g_cI_eq {M : gM} {k' o' k o sp dp n : Nat} : (g_cI M k' o' k o sp dp n).1 k o = va_cpy (M.1 k' o') (M.1 k o) sp dp n := if_pos ⟨rfl, rfl⟩
theorem g_cL_ne {M : gM} {k' o' k o sp dp n : Nat} {a b : Nat} (h : (a, b) ≠ (k, o)) : (g_cL M k' o' k o sp dp n).2 a b = M.2 a b := if_neg (fun q => h (by rw [q.1, q.2]))
theorem g_cL_eq {M : gM} {k' o' k o sp dp n : Nat} : (g_cL M k' o' k o sp dp n).2 k o = va_cpy (M.2 k' o') (M.2 k o) sp dp n := if_pos ⟨rfl, rfl⟩
theorem g_setI {t : gT} {M : gM} {A : Nat → Prop} (hD : va_D A (g_ws t M)) {k o j : Nat} (h : (k, o) ∈ gKs t) {e : va_E} (hj : (g_ws t M)[j]? = some (gAd t k o, e)) {i : Nat} {v : Int32} {c : va_E}
    (h2 : g_cell t k o (upd (M.1 k o) i v) (M.2 k o) = c) : (g_ws t M).set j (gAd t k o, c) = g_ws t (g_uI M k o i v) :=
  g_set hD h hj (fun a b hn => by rw [g_uI_ne hn]; rfl) (by rw [g_uI_eq]; exact h2)
theorem g_setL {t : gT} {M : gM} {A : Nat → Prop} (hD : va_D A (g_ws t M)) {k o j : Nat} (h : (k, o) ∈ gKs t) {e : va_E} (hj : (g_ws t M)[j]? = some (gAd t k o, e)) {i : Nat} {v : Int64} {c : va_E}
    (h2 : g_cell t k o (M.1 k o) (vp_updL (M.2 k o) i v) = c) : (g_ws t M).set j (gAd t k o, c) = g_ws t (g_uL M k o i v) :=
  g_set hD h hj (fun a b hn => by rw [g_uL_ne hn]; rfl) (by rw [g_uL_eq]; exact h2)
theorem g_setCI {t : gT} {M : gM} {A : Nat → Prop} (hD : va_D A (g_ws t M)) {k o j : Nat} (h : (k, o) ∈ gKs t) {e : va_E} (hj : (g_ws t M)[j]? = some (gAd t k o, e)) {k' o' sp dp n : Nat} {c : va_E}
    (h2 : g_cell t k o (va_cpy (M.1 k' o') (M.1 k o) sp dp n) (M.2 k o) = c) : (g_ws t M).set j (gAd t k o, c) = g_ws t (g_cI M k' o' k o sp dp n) :=
  g_set hD h hj (fun a b hn => by rw [g_cI_ne hn]; rfl) (by rw [g_cI_eq]; exact h2)
theorem g_setCL {t : gT} {M : gM} {A : Nat → Prop} (hD : va_D A (g_ws t M)) {k o j : Nat} (h : (k, o) ∈ gKs t) {e : va_E} (hj : (g_ws t M)[j]? = some (gAd t k o, e)) {k' o' sp dp n : Nat} {c : va_E}
    (h2 : g_cell t k o (M.1 k o) (va_cpy (M.2 k' o') (M.2 k o) sp dp n) = c) : (g_ws t M).set j (gAd t k o, c) = g_ws t (g_cL M k' o' k o sp dp n) :=
  g_set hD h hj (fun a b hn => by rw [g_cL_ne hn]; rfl) (by rw [g_cL_eq]; exact h2)
def g_tys (t : gT) : List (ClassId × FieldType) := [(gCA t 0, .int), (gCA t 1, .long), (gCA t 2, .char), (gCA t 3, .object "SchedulerTree$Node"), (gCA t 4, .object "SchedulerTree$World")]
def g_eN : Nat → String
  | 0 => "java/lang/IllegalArgumentException"
  | 1 => "java/lang/IllegalStateException"
  | _ => "java/lang/IndexOutOfBoundsException"
/-- words of the tables that a callee's state has by laws of their own -/
def g_nw : List Cond := [.castable "java/lang/IllegalArgumentException" "java/lang/IllegalArgumentException", .castable "java/lang/IllegalStateException" "java/lang/IllegalStateException", .castable "java/lang/IndexOutOfBoundsException" "java/lang/IndexOutOfBoundsException", .declares ⟨"java/lang/RuntimeException", "<init>", "()V"⟩, .declares ⟨"java/lang/RuntimeException", "<init>", "(Ljava/lang/String;)V"⟩, .declares ⟨"java/lang/Exception", "<init>", "()V"⟩, .declares ⟨"java/lang/Exception", "<init>", "(Ljava/lang/String;)V"⟩, .declares ⟨"java/lang/Throwable", "<init>", "()V"⟩, .declares ⟨"java/lang/Throwable", "<init>", "(Ljava/lang/String;)V"⟩, .methodLinkNest "SchedulerTree" 19 ⟨"SchedulerTree$Reader", "<init>", "()V"⟩ "SchedulerTree", .methodLinkNest "SchedulerTree$Reader" 11 ⟨"SchedulerTree$Plan", "<init>", "()V"⟩ "SchedulerTree", .methodLinkNest "SchedulerTree" 32 ⟨"SchedulerTree$Calculator", "<init>", "()V"⟩ "SchedulerTree", .methodLinkNest "SchedulerTree$World" 17 ⟨"SchedulerTree$Plan", "<init>", "()V"⟩ "SchedulerTree", .methodLinkNest "SchedulerTree$World" 30 ⟨"SchedulerTree$Packets", "<init>", "()V"⟩ "SchedulerTree", .methodLinkNest "SchedulerTree$World" 44 ⟨"SchedulerTree$Line", "<init>", "()V"⟩ "SchedulerTree", .methodLinkNest "SchedulerTree$World" 53 ⟨"SchedulerTree$Node", "<init>", "()V"⟩ "SchedulerTree"]
theorem g_nw_warm {s U : State} (hW : s.WarmedH U.vm) : ∀ w ∈ g_nw, va_Nw w s → va_Nw w U := List.forall_mem_cons.mpr ⟨va_Nw.warmC hW, List.forall_mem_cons.mpr ⟨va_Nw.warmC hW, List.forall_mem_cons.mpr ⟨va_Nw.warmC hW, List.forall_mem_cons.mpr ⟨va_Nw.warmD hW, List.forall_mem_cons.mpr ⟨va_Nw.warmD hW, List.forall_mem_cons.mpr ⟨va_Nw.warmD hW, List.forall_mem_cons.mpr ⟨va_Nw.warmD hW, List.forall_mem_cons.mpr ⟨va_Nw.warmD hW, List.forall_mem_cons.mpr ⟨va_Nw.warmD hW, List.forall_mem_cons.mpr ⟨va_Nw.warmM hW, List.forall_mem_cons.mpr ⟨va_Nw.warmM hW, List.forall_mem_cons.mpr ⟨va_Nw.warmM hW, List.forall_mem_cons.mpr ⟨va_Nw.warmM hW, List.forall_mem_cons.mpr ⟨va_Nw.warmM hW, List.forall_mem_cons.mpr ⟨va_Nw.warmM hW, List.forall_mem_cons.mpr ⟨va_Nw.warmM hW, fun _ h => absurd h List.not_mem_nil⟩⟩⟩⟩⟩⟩⟩⟩⟩⟩⟩⟩⟩⟩⟩⟩
theorem g_nw_tab : ∀ w ∈ g_nw, w.onTables = true := by decide +kernel
def g_T (t : gT) (U : State) : Prop := va_K (gD t) vwCl (g_tys t) U ∧ (∀ (i : Nat) (q : String × Nat × String), g_strs[i]? = some q → vk_R q.1 q.2.1 q.2.2 (gSK t i) U) ∧ (∀ w ∈ g_nw, va_Nw w U) ∧ (∀ e f : Nat, e < 3 → f < 3 → e ≠ f → va_Nc (g_eN e) (g_eN f) U) ∧ va_AO "SchedulerTree$Node" U ∧ va_AO "SchedulerTree$World" U
/-- the text constants in the heap -/
def g_vk (t : gT) (U : State) (H : Heap) : Prop := ∀ i : Nat, i < g_nS → va_O "java/lang/String" (gSK t i) (g_A t) U H ∧ va_OF "java/lang/String" "coder" "B" (.int 0) (gSK t i) (g_A t) U H ∧ va_OF "java/lang/String" "value" "[B" (.ref (gSV t i)) (gSK t i) (g_A t) U H ∧ va_T .byte (gSV t i) (g_sLen.getD i 0) (fun j => .int ((g_sByt.getD i []).getD j 0)) (g_A t) U H
theorem g_vk.moved {t : gT} {u U : State} {H : Heap} (hvm : u.vm.Alike U.vm) (h : g_vk t u H) : g_vk t U H := fun i hi => ⟨va_O.moved hvm (h i hi).1, va_OF.moved hvm (h i hi).2.1, va_OF.moved hvm (h i hi).2.2.1, va_T.moved hvm (h i hi).2.2.2⟩
theorem g_vk.kept {t : gT} {U : State} {H H1 : Heap} (h : g_vk t U H) (hq : ∀ a : Nat, a < H.size → ¬ g_A t a → H1[a]? = H[a]?) : g_vk t U H1 := fun i hi => ⟨(h i hi).1.kept hq, (h i hi).2.1.kept hq, (h i hi).2.2.1.kept hq, (h i hi).2.2.2.kept hq⟩
/-- what stands in the heap below the new cells -/
def g_S (t : gT) (U : State) (H : Heap) : Prop := gBs t ≤ H.size ∧ g_vk t U H ∧ vx_Zq Bundle.tN "UNASSIGNED_STACK" Bundle.steD (g_A t) U H ∧ vx_Zq Bundle.tN "SUPPRESSED_SENTINEL" Bundle.listD (g_A t) U H ∧ va_Z "java/lang/String" "COMPACT_STRINGS" "Z" (.int 1) (g_A t) U H ∧ va_Zq "jdk/internal/util/Preconditions" "SIOOBE_FORMATTER" "Ljava/util/function/BiFunction;" (g_A t) U H ∧ va_X (gScB t) (gScL t) (gScX t) U H ∧ gScB t < gBs t
def g_H (t : gT) (M : gM) (U : State) (H : Heap) : Prop := va_P (gD t) vwCl (g_ws t M) H ∧ va_D (g_A t) (g_ws t M) ∧ g_S t U H
def g_Pre (t : gT) (M : gM) (U : State) : Prop := g_T t U ∧ g_H t M U U.heap
def g_B (t : gT) (M : gM) (U : State) : Prop := g_H t M U U.heap
theorem g_S.kept {t : gT} {U : State} {H H1 : Heap} (h : g_S t U H) (hz : H.size ≤ H1.size) (hq : ∀ a : Nat, a < H.size → ¬ g_A t a → H1[a]? = H[a]?) : g_S t U H1 := by
  obtain ⟨h1, h2, h3, h4, h5, h6, h7, h8⟩ := h
  exact ⟨Nat.le_trans h1 hz, h2.kept hq, h3.kept hq, h4.kept hq, h5.kept hq, h6.kept hq, h7.kept (hq _ (Nat.lt_of_lt_of_le h8 h1) (Nat.not_le.mpr h8)), h8⟩
theorem g_S.moved {t : gT} {u U : State} {H : Heap} (hvm : u.vm.Alike U.vm) (h : g_S t u H) : g_S t U H := by
  obtain ⟨h1, h2, h3, h4, h5, h6, h7, h8⟩ := h
  exact ⟨h1, h2.moved hvm, h3.moved hvm, h4.moved hvm, h5.moved hvm, h6.moved hvm, h7.moved hvm, h8⟩
theorem g_T.warm {t : gT} {s U : State} (hW : s.WarmedH U.vm) (h : g_T t s) : g_T t U := ⟨h.1.moved hW.alike, fun i q hi => (h.2.1 i q hi).warm hW, fun w hw => g_nw_warm hW w hw (h.2.2.1 w hw), fun e f h1 h2 h3 => va_Nc.moved hW.alike (h.2.2.2.1 e f h1 h2 h3), h.2.2.2.2.1.moved hW.alike, h.2.2.2.2.2.moved hW.alike⟩
theorem g_T.same {t : gT} {s U : State} (hv : U.vm = s.vm) (h : g_T t s) : g_T t U := ⟨h.1.moved (by rw [hv]; exact Vm.Alike.refl _), fun i q hi => (h.2.1 i q hi).same hv, fun w hw => va_tabs (g_nw_tab w hw) hv.symm (h.2.2.1 w hw), fun e f h1 h2 h3 => va_Nc.moved (by rw [hv]; exact Vm.Alike.refl _) (h.2.2.2.1 e f h1 h2 h3), h.2.2.2.2.1.moved (by rw [hv]; exact Vm.Alike.refl _), h.2.2.2.2.2.moved (by rw [hv]; exact Vm.Alike.refl _)⟩
theorem g_H.moved {t : gT} {M : gM} {u U : State} {H : Heap} (hvm : u.vm.Alike U.vm) (h : g_H t M u H) : g_H t M U H := ⟨h.1, h.2.1, h.2.2.moved hvm⟩
abbrev gX : Type := Program × Launch × Env × State × MethodId × Array Value × List Frame × Method × Code × (State → Prop)
abbrev gXp (X : gX) : Program := X.1
abbrev gXl (X : gX) : Launch := X.2.1
abbrev gXe (X : gX) : Env := X.2.2.1
abbrev gXs (X : gX) : State := X.2.2.2.1
abbrev gXm (X : gX) : MethodId := X.2.2.2.2.1
abbrev gXa (X : gX) : Array Value := X.2.2.2.2.2.1
abbrev gXb (X : gX) : List Frame := X.2.2.2.2.2.2.1
abbrev gXt (X : gX) : Method := X.2.2.2.2.2.2.2.1
abbrev gXc (X : gX) : Code := X.2.2.2.2.2.2.2.2.1
abbrev gXQ (X : gX) : State → Prop := X.2.2.2.2.2.2.2.2.2
/-- the machine at pc, with these locals and this stack, over any heap that holds M -/
def G (t : gT) (R : Room) (X : gX) (nL k n : Nat) (M : gM) (lv : List (Nat × Value)) (st : List Value) (pc : Nat) : Prop :=
  ∀ (H : Heap) (locs : List Loc) (ls : Array Slot), g_H t M (gXs X) H → va_S (g_A t) (gXs X).heap H locs → lv_has ls nL lv → W (gXp X) (gXl X) (gXe X) R (gXs X) (gXm X) (gXa X) (gXb X) (gXt X) (gXc X) H locs k n (gXQ X) (F0 (gXm X) pc ls st)
/-- a method's body: its machine, code, words, the place -/
def g_Cx (t : gT) (X : gX) (cc : ByteArray) (nL : Nat) (own : String) (ret : Option FieldType) : Prop :=
  (gXp X).tables.exec = Jvm.exec ∧ (gXc X).code = cc ∧ (gXc X).maxLocals = nL ∧ (gXs X).vm.findClass own = some (gXm X).cls ∧ (∀ w ∈ WL, w.before (gXa X) (gXs X) = true) ∧ g_T t (gXs X) ∧ g_S t (gXs X) (gXs X).heap ∧ (gXt X).sig.returnType = ret ∧ (gXt X).locks = false ∧ (gXl X).stackTraces = false
section GX
variable {t : gT} {R : Room} {X : gX} {nL k n : Nat} {M : gM} {lv : List (Nat × Value)} {st : List Value} {pc : Nat} {cc : ByteArray} {own : String} {ret : Option FieldType}
theorem g_Cx.x (h : g_Cx t X cc nL own ret) : (gXp X).tables.exec = Jvm.exec := h.1
theorem g_Cx.b (h : g_Cx t X cc nL own ret) : (gXc X).code = cc := h.2.1
theorem g_Cx.ml (h : g_Cx t X cc nL own ret) : (gXc X).maxLocals = nL := h.2.2.1
theorem g_Cx.ow (h : g_Cx t X cc nL own ret) : (gXs X).vm.findClass own = some (gXm X).cls := h.2.2.2.1
theorem g_Cx.ts (h : g_Cx t X cc nL own ret) : ∀ w ∈ WL, w.before (gXa X) (gXs X) = true := h.2.2.2.2.1
theorem g_Cx.T (h : g_Cx t X cc nL own ret) : g_T t (gXs X) := h.2.2.2.2.2.1
theorem g_Cx.S (h : g_Cx t X cc nL own ret) : g_S t (gXs X) (gXs X).heap := h.2.2.2.2.2.2.1
theorem g_Cx.r (h : g_Cx t X cc nL own ret) : (gXt X).sig.returnType = ret := h.2.2.2.2.2.2.2.1
theorem g_Cx.lk (h : g_Cx t X cc nL own ret) : (gXt X).locks = false := h.2.2.2.2.2.2.2.2.1
theorem g_Cx.tr (h : g_Cx t X cc nL own ret) : (gXl X).stackTraces = false := h.2.2.2.2.2.2.2.2.2
theorem gg_wide {k' n' : Nat} (h1 : k ≤ k') (h2 : n ≤ n') (kk : G t R X nL k' n' M lv st pc) : G t R X nL k n M lv st pc := fun H locs ls a b c => W.widen h1 h2 (kk H locs ls a b c)
theorem gg_lv {lv' : List (Nat × Value)} (ks : List Nat) (h : lv_pick lv ks = lv') (kk : G t R X nL k n M lv' st pc) : G t R X nL k n M lv st pc := fun H locs ls a b c => kk H locs ls a b (lv_sub c ks h)
theorem gg_topi {x : Int32} (kk : ∀ y : Int32, y = x → G t R X nL k n M lv (.int y :: st) pc) : G t R X nL k n M lv (.int x :: st) pc := kk x rfl
theorem gg_topl {x : Int64} (kk : ∀ y : Int64, y = x → G t R X nL k n M lv (.long y :: st) pc) : G t R X nL k n M lv (.long x :: st) pc := kk x rfl
theorem gg_iconst (cx : g_Cx t X cc nL own ret) {z : Int} {v : Int32} (d : decode cc pc = .ok (.iconst z, 1)) (hv : Int32.ofInt z = v) (kk : G t R X nL k n M lv (.int v :: st) (pc + 1)) : G t R X nL k n M lv st pc := fun H locs ls a b c => lv_iconst cx.x cx.b d hv (kk H locs ls a b c)
theorem gg_bipush (cx : g_Cx t X cc nL own ret) {z : Int} {v : Int32} (d : decode cc pc = .ok (.bipush z, 2)) (hv : (Int8.ofInt z).toInt32 = v) (kk : G t R X nL k n M lv (.int v :: st) (pc + 2)) : G t R X nL k n M lv st pc := fun H locs ls a b c => lv_bipush cx.x cx.b d hv (kk H locs ls a b c)
theorem gg_sipush (cx : g_Cx t X cc nL own ret) {z : Int} {v : Int32} (d : decode cc pc = .ok (.sipush z, 3)) (hv : (Int16.ofInt z).toInt32 = v) (kk : G t R X nL k n M lv (.int v :: st) (pc + 3)) : G t R X nL k n M lv st pc := fun H locs ls a b c => lv_sipush cx.x cx.b d hv (kk H locs ls a b c)
theorem gg_lconst (cx : g_Cx t X cc nL own ret) {z : Fin 2} {v : Int64} (d : decode cc pc = .ok (.lconst z, 1)) (hv : Int64.ofNat z = v) (kk : G t R X nL k n M lv (.long v :: st) (pc + 1)) : G t R X nL k n M lv st pc := fun H locs ls a b c => lv_lconst cx.x cx.b d hv (kk H locs ls a b c)
theorem gg_ldc2 (cx : g_Cx t X cc nL own ret) {ix : Nat} {v : Int64} (hw : Cond.constantLong own ix v ∈ WL) (d : decode cc pc = .ok (.ldc2_w ix, 3)) (kk : G t R X nL k n M lv (.long v :: st) (pc + 3)) : G t R X nL k n M lv st pc := fun H locs ls a b c => lv_ldc2 cx.x cx.b cx.ow (cx.ts _ hw) d (kk H locs ls a b c)
theorem gg_ldc (cx : g_Cx t X cc nL own ret) {ix : Nat} {v : Int32} (hw : Cond.constant own ix v ∈ WL) (d : decode cc pc = .ok (.ldc ix, 2)) (kk : G t R X nL k n M lv (.int v :: st) (pc + 2)) : G t R X nL k n M lv st pc := fun H locs ls a b c => lv_ldc cx.x cx.b cx.ow (cx.ts _ hw) d (kk H locs ls a b c)
theorem gg_iload_n (cx : g_Cx t X cc nL own ret) (j : Nat) {q : Fin 4} {i : Nat} {x : Int32} (hj : lv[j]? = some (i, .int x)) (d : decode cc pc = .ok (.iload_n q, 1)) (hi : (q : Nat) = i) (kk : G t R X nL k n M lv (.int x :: st) (pc + 1)) : G t R X nL k n M lv st pc := fun H locs ls a b c => lv_iload_n cx.x cx.b d hi (lv_at c j hj) (kk H locs ls a b c)
theorem gg_iload (cx : g_Cx t X cc nL own ret) (j : Nat) {i : Nat} {x : Int32} (hj : lv[j]? = some (i, .int x)) (d : decode cc pc = .ok (.iload i, 2)) (kk : G t R X nL k n M lv (.int x :: st) (pc + 2)) : G t R X nL k n M lv st pc := fun H locs ls a b c => lv_iload cx.x cx.b d (lv_at c j hj) (kk H locs ls a b c)
theorem gg_lload_n (cx : g_Cx t X cc nL own ret) (j : Nat) {q : Fin 4} {i : Nat} {x : Int64} (hj : lv[j]? = some (i, .long x)) (d : decode cc pc = .ok (.lload_n q, 1)) (hi : (q : Nat) = i) (kk : G t R X nL k n M lv (.long x :: st) (pc + 1)) : G t R X nL k n M lv st pc := fun H locs ls a b c => lv_lload_n cx.x cx.b d hi (lv_at c j hj) (kk H locs ls a b c)
theorem gg_lload (cx : g_Cx t X cc nL own ret) (j : Nat) {i : Nat} {x : Int64} (hj : lv[j]? = some (i, .long x)) (d : decode cc pc = .ok (.lload i, 2)) (kk : G t R X nL k n M lv (.long x :: st) (pc + 2)) : G t R X nL k n M lv st pc := fun H locs ls a b c => lv_lload cx.x cx.b d (lv_at c j hj) (kk H locs ls a b c)
theorem gg_aload_n (cx : g_Cx t X cc nL own ret) (j : Nat) {q : Fin 4} {i : Nat} {x : Nat} (hj : lv[j]? = some (i, .ref x)) (d : decode cc pc = .ok (.aload_n q, 1)) (hi : (q : Nat) = i) (kk : G t R X nL k n M lv (.ref x :: st) (pc + 1)) : G t R X nL k n M lv st pc := fun H locs ls a b c => lv_aload_n cx.x cx.b d hi (lv_at c j hj) (kk H locs ls a b c)
theorem gg_aload (cx : g_Cx t X cc nL own ret) (j : Nat) {i : Nat} {x : Nat} (hj : lv[j]? = some (i, .ref x)) (d : decode cc pc = .ok (.aload i, 2)) (kk : G t R X nL k n M lv (.ref x :: st) (pc + 2)) : G t R X nL k n M lv st pc := fun H locs ls a b c => lv_aload cx.x cx.b d (lv_at c j hj) (kk H locs ls a b c)
theorem gg_istore_n (cx : g_Cx t X cc nL own ret) {q : Fin 4} {i : Nat} {x : Int32} (lv' : List (Nat × Value)) (d : decode cc pc = .ok (.istore_n q, 1)) (hi : (q : Nat) = i) (hn : i < nL) (hl : (i, Value.int x) :: lv.filter (fun q => !(q.1 == i) && !(q.1 + 1 == i && q.2.category == 2)) = lv') (kk : G t R X nL k n M lv' st (pc + 1)) : G t R X nL k n M lv (.int x :: st) pc := fun H locs ls a b c => lv_istore_n cx.x cx.b d hi c hn hl (fun ls c => kk H locs ls a b c)
theorem gg_istore (cx : g_Cx t X cc nL own ret) {i : Nat} {x : Int32} (lv' : List (Nat × Value)) (d : decode cc pc = .ok (.istore i, 2)) (hn : i < nL) (hl : (i, Value.int x) :: lv.filter (fun q => !(q.1 == i) && !(q.1 + 1 == i && q.2.category == 2)) = lv') (kk : G t R X nL k n M lv' st (pc + 2)) : G t R X nL k n M lv (.int x :: st) pc := fun H locs ls a b c => lv_istore cx.x cx.b d c hn hl (fun ls c => kk H locs ls a b c)
theorem gg_lstore_n (cx : g_Cx t X cc nL own ret) {q : Fin 4} {i : Nat} {x : Int64} (lv' : List (Nat × Value)) (d : decode cc pc = .ok (.lstore_n q, 1)) (hi : (q : Nat) = i) (hn : i + 1 < nL) (hl : (i, Value.long x) :: lv.filter (fun q => !(q.1 == i) && (!(q.1 == i + 1) && !(q.1 + 1 == i && q.2.category == 2))) = lv') (kk : G t R X nL k n M lv' st (pc + 1)) : G t R X nL k n M lv (.long x :: st) pc := fun H locs ls a b c => lv_lstore_n cx.x cx.b d hi c hn hl (fun ls c => kk H locs ls a b c)
theorem gg_lstore (cx : g_Cx t X cc nL own ret) {i : Nat} {x : Int64} (lv' : List (Nat × Value)) (d : decode cc pc = .ok (.lstore i, 2)) (hn : i + 1 < nL) (hl : (i, Value.long x) :: lv.filter (fun q => !(q.1 == i) && (!(q.1 == i + 1) && !(q.1 + 1 == i && q.2.category == 2))) = lv') (kk : G t R X nL k n M lv' st (pc + 2)) : G t R X nL k n M lv (.long x :: st) pc := fun H locs ls a b c => lv_lstore cx.x cx.b d c hn hl (fun ls c => kk H locs ls a b c)
theorem gg_astore_n (cx : g_Cx t X cc nL own ret) {q : Fin 4} {i : Nat} {x : Nat} (lv' : List (Nat × Value)) (d : decode cc pc = .ok (.astore_n q, 1)) (hi : (q : Nat) = i) (hn : i < nL) (hl : (i, Value.ref x) :: lv.filter (fun q => !(q.1 == i) && !(q.1 + 1 == i && q.2.category == 2)) = lv') (kk : G t R X nL k n M lv' st (pc + 1)) : G t R X nL k n M lv (.ref x :: st) pc := fun H locs ls a b c => lv_astore_n cx.x cx.b d hi c hn hl (fun ls c => kk H locs ls a b c)
theorem gg_astore (cx : g_Cx t X cc nL own ret) {i : Nat} {x : Nat} (lv' : List (Nat × Value)) (d : decode cc pc = .ok (.astore i, 2)) (hn : i < nL) (hl : (i, Value.ref x) :: lv.filter (fun q => !(q.1 == i) && !(q.1 + 1 == i && q.2.category == 2)) = lv') (kk : G t R X nL k n M lv' st (pc + 2)) : G t R X nL k n M lv (.ref x :: st) pc := fun H locs ls a b c => lv_astore cx.x cx.b d c hn hl (fun ls c => kk H locs ls a b c)
theorem gg_iinc (cx : g_Cx t X cc nL own ret) (j : Nat) {i : Nat} {z : Int} {x v : Int32} (lv' : List (Nat × Value)) (d : decode cc pc = .ok (.iinc i z, 3)) (hj : lv[j]? = some (i, .int x)) (hv : x + Int32.ofInt z = v) (hn : i < nL) (hl : (i, Value.int v) :: lv.filter (fun q => !(q.1 == i) && !(q.1 + 1 == i && q.2.category == 2)) = lv') (kk : G t R X nL k n M lv' st (pc + 3)) : G t R X nL k n M lv st pc := fun H locs ls a b c => lv_iinc cx.x cx.b d c hj hv hn hl (fun ls c => kk H locs ls a b c)
theorem gg_goto (cx : g_Cx t X cc nL own ret) {off : Int} {tgt : Nat} (d : decode cc pc = .ok (.goto off, 3)) (ht : (pc : Int) + off = (tgt : Int)) (kk : G t R X nL k n M lv st tgt) : G t R X nL k n M lv st pc := fun H locs ls a b c => lv_goto cx.x cx.b d ht (kk H locs ls a b c)
theorem gg_i2l (cx : g_Cx t X cc nL own ret) {x : Int32} (d : decode cc pc = .ok (.i2l, 1)) (kk : G t R X nL k n M lv (.long x.toInt64 :: st) (pc + 1)) : G t R X nL k n M lv (.int x :: st) pc := fun H locs ls a b c => lv_i2l cx.x cx.b d rfl (kk H locs ls a b c)
theorem gg_l2i (cx : g_Cx t X cc nL own ret) {x : Int64} (d : decode cc pc = .ok (.l2i, 1)) (kk : G t R X nL k n M lv (.int x.toInt32 :: st) (pc + 1)) : G t R X nL k n M lv (.long x :: st) pc := fun H locs ls a b c => lv_l2i cx.x cx.b d rfl (kk H locs ls a b c)
theorem gg_i2c (cx : g_Cx t X cc nL own ret) {x : Int32} (d : decode cc pc = .ok (.i2c, 1)) (kk : G t R X nL k n M lv (.int (x.toUInt32 % 65536).toInt32 :: st) (pc + 1)) : G t R X nL k n M lv (.int x :: st) pc := fun H locs ls a b c => lv_i2c cx.x cx.b d rfl (kk H locs ls a b c)
theorem gg_dup (cx : g_Cx t X cc nL own ret) {v : Value} (d : decode cc pc = .ok (.dup, 1)) (hv : v.category = 1) (kk : G t R X nL k n M lv (v :: v :: st) (pc + 1)) : G t R X nL k n M lv (v :: st) pc := fun H locs ls a b c => lv_dup cx.x cx.b d hv (kk H locs ls a b c)
theorem gg_pop (cx : g_Cx t X cc nL own ret) {v : Value} (d : decode cc pc = .ok (.pop, 1)) (hv : v.category = 1) (kk : G t R X nL k n M lv st (pc + 1)) : G t R X nL k n M lv (v :: st) pc := fun H locs ls a b c => lv_pop cx.x cx.b d hv (kk H locs ls a b c)
theorem gg_iadd (cx : g_Cx t X cc nL own ret) {x y : Int32} (d : decode cc pc = .ok (.iadd, 1)) (kk : G t R X nL k n M lv (.int (x + y) :: st) (pc + 1)) : G t R X nL k n M lv (.int y :: .int x :: st) pc := fun H locs ls a b c => lv_iadd cx.x cx.b d (kk H locs ls a b c)
theorem gg_isub (cx : g_Cx t X cc nL own ret) {x y : Int32} (d : decode cc pc = .ok (.isub, 1)) (kk : G t R X nL k n M lv (.int (x - y) :: st) (pc + 1)) : G t R X nL k n M lv (.int y :: .int x :: st) pc := fun H locs ls a b c => lv_isub cx.x cx.b d (kk H locs ls a b c)
theorem gg_imul (cx : g_Cx t X cc nL own ret) {x y : Int32} (d : decode cc pc = .ok (.imul, 1)) (kk : G t R X nL k n M lv (.int (x * y) :: st) (pc + 1)) : G t R X nL k n M lv (.int y :: .int x :: st) pc := fun H locs ls a b c => lv_imul cx.x cx.b d (kk H locs ls a b c)
theorem gg_iand (cx : g_Cx t X cc nL own ret) {x y : Int32} (d : decode cc pc = .ok (.iand, 1)) (kk : G t R X nL k n M lv (.int (x &&& y) :: st) (pc + 1)) : G t R X nL k n M lv (.int y :: .int x :: st) pc := fun H locs ls a b c => lv_iand cx.x cx.b d (kk H locs ls a b c)
theorem gg_ladd (cx : g_Cx t X cc nL own ret) {x y : Int64} (d : decode cc pc = .ok (.ladd, 1)) (kk : G t R X nL k n M lv (.long (x + y) :: st) (pc + 1)) : G t R X nL k n M lv (.long y :: .long x :: st) pc := fun H locs ls a b c => lv_ladd cx.x cx.b d (kk H locs ls a b c)
theorem gg_lsub (cx : g_Cx t X cc nL own ret) {x y : Int64} (d : decode cc pc = .ok (.lsub, 1)) (kk : G t R X nL k n M lv (.long (x - y) :: st) (pc + 1)) : G t R X nL k n M lv (.long y :: .long x :: st) pc := fun H locs ls a b c => lv_lsub cx.x cx.b d (kk H locs ls a b c)
theorem gg_lmul (cx : g_Cx t X cc nL own ret) {x y : Int64} (d : decode cc pc = .ok (.lmul, 1)) (kk : G t R X nL k n M lv (.long (x * y) :: st) (pc + 1)) : G t R X nL k n M lv (.long y :: .long x :: st) pc := fun H locs ls a b c => lv_lmul cx.x cx.b d (kk H locs ls a b c)
theorem gg_ldiv (cx : g_Cx t X cc nL own ret) {x y : Int64} (d : decode cc pc = .ok (.ldiv, 1)) (hne : ¬ y = 0) (kk : G t R X nL k n M lv (.long (x / y) :: st) (pc + 1)) : G t R X nL k n M lv (.long y :: .long x :: st) pc := fun H locs ls a b c => lv_ldiv cx.x cx.b d hne (kk H locs ls a b c)
theorem gg_ineg (cx : g_Cx t X cc nL own ret) {x : Int32} (d : decode cc pc = .ok (.ineg, 1)) (kk : G t R X nL k n M lv (.int (-x) :: st) (pc + 1)) : G t R X nL k n M lv (.int x :: st) pc := fun H locs ls a b c => lv_ineg cx.x cx.b d (kk H locs ls a b c)
theorem gg_lneg (cx : g_Cx t X cc nL own ret) {x : Int64} (d : decode cc pc = .ok (.lneg, 1)) (kk : G t R X nL k n M lv (.long (-x) :: st) (pc + 1)) : G t R X nL k n M lv (.long x :: st) pc := fun H locs ls a b c => lv_lneg cx.x cx.b d (kk H locs ls a b c)
theorem gg_icmp_eq (cx : g_Cx t X cc nL own ret) {x y : Int32} {off : Int} {tgt : Nat} (d : decode cc pc = .ok (.if_icmp .eq off, 3)) (ht : (pc : Int) + off = (tgt : Int)) (kt : x = y → G t R X nL k n M lv st tgt) (kf : ¬ x = y → G t R X nL k n M lv st (pc + 3)) : G t R X nL k n M lv (.int y :: .int x :: st) pc := fun H locs ls a b c => lv_icmp_eq cx.x cx.b d ht (fun h => kt h H locs ls a b c) (fun h => kf h H locs ls a b c)
theorem gg_if_eq (cx : g_Cx t X cc nL own ret) {x : Int32} {off : Int} {tgt : Nat} (d : decode cc pc = .ok (.ifCond .eq off, 3)) (ht : (pc : Int) + off = (tgt : Int)) (kt : x = 0 → G t R X nL k n M lv st tgt) (kf : ¬ x = 0 → G t R X nL k n M lv st (pc + 3)) : G t R X nL k n M lv (.int x :: st) pc := fun H locs ls a b c => lv_if_eq cx.x cx.b d ht (fun h => kt h H locs ls a b c) (fun h => kf h H locs ls a b c)
theorem gg_icmp_ne (cx : g_Cx t X cc nL own ret) {x y : Int32} {off : Int} {tgt : Nat} (d : decode cc pc = .ok (.if_icmp .ne off, 3)) (ht : (pc : Int) + off = (tgt : Int)) (kt : ¬ x = y → G t R X nL k n M lv st tgt) (kf : x = y → G t R X nL k n M lv st (pc + 3)) : G t R X nL k n M lv (.int y :: .int x :: st) pc := fun H locs ls a b c => lv_icmp_ne cx.x cx.b d ht (fun h => kt h H locs ls a b c) (fun h => kf h H locs ls a b c)
theorem gg_if_ne (cx : g_Cx t X cc nL own ret) {x : Int32} {off : Int} {tgt : Nat} (d : decode cc pc = .ok (.ifCond .ne off, 3)) (ht : (pc : Int) + off = (tgt : Int)) (kt : ¬ x = 0 → G t R X nL k n M lv st tgt) (kf : x = 0 → G t R X nL k n M lv st (pc + 3)) : G t R X nL k n M lv (.int x :: st) pc := fun H locs ls a b c => lv_if_ne cx.x cx.b d ht (fun h => kt h H locs ls a b c) (fun h => kf h H locs ls a b c)
theorem gg_icmp_lt (cx : g_Cx t X cc nL own ret) {x y : Int32} {off : Int} {tgt : Nat} (d : decode cc pc = .ok (.if_icmp .lt off, 3)) (ht : (pc : Int) + off = (tgt : Int)) (kt : x < y → G t R X nL k n M lv st tgt) (kf : ¬ x < y → G t R X nL k n M lv st (pc + 3)) : G t R X nL k n M lv (.int y :: .int x :: st) pc := fun H locs ls a b c => lv_icmp_lt cx.x cx.b d ht (fun h => kt h H locs ls a b c) (fun h => kf h H locs ls a b c)
theorem gg_if_lt (cx : g_Cx t X cc nL own ret) {x : Int32} {off : Int} {tgt : Nat} (d : decode cc pc = .ok (.ifCond .lt off, 3)) (ht : (pc : Int) + off = (tgt : Int)) (kt : x < 0 → G t R X nL k n M lv st tgt) (kf : ¬ x < 0 → G t R X nL k n M lv st (pc + 3)) : G t R X nL k n M lv (.int x :: st) pc := fun H locs ls a b c => lv_if_lt cx.x cx.b d ht (fun h => kt h H locs ls a b c) (fun h => kf h H locs ls a b c)
theorem gg_icmp_ge (cx : g_Cx t X cc nL own ret) {x y : Int32} {off : Int} {tgt : Nat} (d : decode cc pc = .ok (.if_icmp .ge off, 3)) (ht : (pc : Int) + off = (tgt : Int)) (kt : y ≤ x → G t R X nL k n M lv st tgt) (kf : ¬ y ≤ x → G t R X nL k n M lv st (pc + 3)) : G t R X nL k n M lv (.int y :: .int x :: st) pc := fun H locs ls a b c => lv_icmp_ge cx.x cx.b d ht (fun h => kt h H locs ls a b c) (fun h => kf h H locs ls a b c)
theorem gg_if_ge (cx : g_Cx t X cc nL own ret) {x : Int32} {off : Int} {tgt : Nat} (d : decode cc pc = .ok (.ifCond .ge off, 3)) (ht : (pc : Int) + off = (tgt : Int)) (kt : 0 ≤ x → G t R X nL k n M lv st tgt) (kf : ¬ 0 ≤ x → G t R X nL k n M lv st (pc + 3)) : G t R X nL k n M lv (.int x :: st) pc := fun H locs ls a b c => lv_if_ge cx.x cx.b d ht (fun h => kt h H locs ls a b c) (fun h => kf h H locs ls a b c)
theorem gg_icmp_gt (cx : g_Cx t X cc nL own ret) {x y : Int32} {off : Int} {tgt : Nat} (d : decode cc pc = .ok (.if_icmp .gt off, 3)) (ht : (pc : Int) + off = (tgt : Int)) (kt : y < x → G t R X nL k n M lv st tgt) (kf : ¬ y < x → G t R X nL k n M lv st (pc + 3)) : G t R X nL k n M lv (.int y :: .int x :: st) pc := fun H locs ls a b c => lv_icmp_gt cx.x cx.b d ht (fun h => kt h H locs ls a b c) (fun h => kf h H locs ls a b c)
theorem gg_if_gt (cx : g_Cx t X cc nL own ret) {x : Int32} {off : Int} {tgt : Nat} (d : decode cc pc = .ok (.ifCond .gt off, 3)) (ht : (pc : Int) + off = (tgt : Int)) (kt : 0 < x → G t R X nL k n M lv st tgt) (kf : ¬ 0 < x → G t R X nL k n M lv st (pc + 3)) : G t R X nL k n M lv (.int x :: st) pc := fun H locs ls a b c => lv_if_gt cx.x cx.b d ht (fun h => kt h H locs ls a b c) (fun h => kf h H locs ls a b c)
theorem gg_icmp_le (cx : g_Cx t X cc nL own ret) {x y : Int32} {off : Int} {tgt : Nat} (d : decode cc pc = .ok (.if_icmp .le off, 3)) (ht : (pc : Int) + off = (tgt : Int)) (kt : x ≤ y → G t R X nL k n M lv st tgt) (kf : ¬ x ≤ y → G t R X nL k n M lv st (pc + 3)) : G t R X nL k n M lv (.int y :: .int x :: st) pc := fun H locs ls a b c => lv_icmp_le cx.x cx.b d ht (fun h => kt h H locs ls a b c) (fun h => kf h H locs ls a b c)
theorem gg_if_le (cx : g_Cx t X cc nL own ret) {x : Int32} {off : Int} {tgt : Nat} (d : decode cc pc = .ok (.ifCond .le off, 3)) (ht : (pc : Int) + off = (tgt : Int)) (kt : x ≤ 0 → G t R X nL k n M lv st tgt) (kf : ¬ x ≤ 0 → G t R X nL k n M lv st (pc + 3)) : G t R X nL k n M lv (.int x :: st) pc := fun H locs ls a b c => lv_if_le cx.x cx.b d ht (fun h => kt h H locs ls a b c) (fun h => kf h H locs ls a b c)
theorem gg_lcmp (cx : g_Cx t X cc nL own ret) {x y : Int64} (d : decode cc pc = .ok (.lcmp, 1)) (kk : G t R X nL k n M lv (.int (lg_cmp x y) :: st) (pc + 1)) : G t R X nL k n M lv (.long y :: .long x :: st) pc := fun H locs ls a b c => W.lcmp cx.x cx.b d (kk H locs ls a b c)
theorem gg_lcmp_ge (cx : g_Cx t X cc nL own ret) {x y : Int64} {off : Int} {tgt : Nat} (d : decode cc pc = .ok (.lcmp, 1)) (d2 : decode cc (pc + 1) = .ok (.ifCond .ge off, 3)) (ht : ((pc + 1 : Nat) : Int) + off = (tgt : Int)) (kt : y ≤ x → G t R X nL k n M lv st tgt) (kf : ¬ y ≤ x → G t R X nL k n M lv st (pc + 4)) : G t R X nL k n M lv (.long y :: .long x :: st) pc := gg_lcmp cx d (gg_if_ge cx d2 ht (fun h => kt ((lg_cmp_ge x y).mp h)) (fun h => kf (fun q => h ((lg_cmp_ge x y).mpr q))))
theorem gg_lcmp_le (cx : g_Cx t X cc nL own ret) {x y : Int64} {off : Int} {tgt : Nat} (d : decode cc pc = .ok (.lcmp, 1)) (d2 : decode cc (pc + 1) = .ok (.ifCond .le off, 3)) (ht : ((pc + 1 : Nat) : Int) + off = (tgt : Int)) (kt : x ≤ y → G t R X nL k n M lv st tgt) (kf : ¬ x ≤ y → G t R X nL k n M lv st (pc + 4)) : G t R X nL k n M lv (.long y :: .long x :: st) pc := gg_lcmp cx d (gg_if_le cx d2 ht (fun h => kt ((lg_cmp_le x y).mp h)) (fun h => kf (fun q => h ((lg_cmp_le x y).mpr q))))
theorem gg_lcmp_gt (cx : g_Cx t X cc nL own ret) {x y : Int64} {off : Int} {tgt : Nat} (d : decode cc pc = .ok (.lcmp, 1)) (d2 : decode cc (pc + 1) = .ok (.ifCond .gt off, 3)) (ht : ((pc + 1 : Nat) : Int) + off = (tgt : Int)) (kt : y < x → G t R X nL k n M lv st tgt) (kf : ¬ y < x → G t R X nL k n M lv st (pc + 4)) : G t R X nL k n M lv (.long y :: .long x :: st) pc := gg_lcmp cx d (gg_if_gt cx d2 ht (fun h => kt ((lg_cmp_gt x y).mp h)) (fun h => kf (fun q => h ((lg_cmp_gt x y).mpr q))))
theorem gg_lcmp_lt (cx : g_Cx t X cc nL own ret) {x y : Int64} {off : Int} {tgt : Nat} (d : decode cc pc = .ok (.lcmp, 1)) (d2 : decode cc (pc + 1) = .ok (.ifCond .lt off, 3)) (ht : ((pc + 1 : Nat) : Int) + off = (tgt : Int)) (kt : x < y → G t R X nL k n M lv st tgt) (kf : ¬ x < y → G t R X nL k n M lv st (pc + 4)) : G t R X nL k n M lv (.long y :: .long x :: st) pc := gg_lcmp cx d (gg_if_lt cx d2 ht (fun h => kt ((lg_cmp_lt x y).mp h)) (fun h => kf (fun q => h ((lg_cmp_lt x y).mpr q))))
theorem gg_lcmp_eq (cx : g_Cx t X cc nL own ret) {x y : Int64} {off : Int} {tgt : Nat} (d : decode cc pc = .ok (.lcmp, 1)) (d2 : decode cc (pc + 1) = .ok (.ifCond .eq off, 3)) (ht : ((pc + 1 : Nat) : Int) + off = (tgt : Int)) (kt : x = y → G t R X nL k n M lv st tgt) (kf : ¬ x = y → G t R X nL k n M lv st (pc + 4)) : G t R X nL k n M lv (.long y :: .long x :: st) pc := gg_lcmp cx d (gg_if_eq cx d2 ht (fun h => kt ((lg_cmp_eq x y).mp h)) (fun h => kf (fun q => h ((lg_cmp_eq x y).mpr q))))
theorem gg_lcmp_ne (cx : g_Cx t X cc nL own ret) {x y : Int64} {off : Int} {tgt : Nat} (d : decode cc pc = .ok (.lcmp, 1)) (d2 : decode cc (pc + 1) = .ok (.ifCond .ne off, 3)) (ht : ((pc + 1 : Nat) : Int) + off = (tgt : Int)) (kt : ¬ x = y → G t R X nL k n M lv st tgt) (kf : x = y → G t R X nL k n M lv st (pc + 4)) : G t R X nL k n M lv (.long y :: .long x :: st) pc := gg_lcmp cx d (gg_if_ne cx d2 ht (fun h => kt (fun q => h ((lg_cmp_eq x y).mpr q))) (fun h => kf ((lg_cmp_eq x y).mp h)))
theorem gg_dup2 (cx : g_Cx t X cc nL own ret) {v w : Value} (d : decode cc pc = .ok (.dup2, 1)) (hv : v.category = 1) (hw : w.category = 1) (kk : G t R X nL k n M lv (v :: w :: v :: w :: st) (pc + 1)) : G t R X nL k n M lv (v :: w :: st) pc := fun H locs ls a b c => lv_dup2_11 cx.x cx.b d hv hw (kk H locs ls a b c)
theorem g_Cx.SH (cx : g_Cx t X cc nL own ret) {H : Heap} {locs : List Loc} (b : va_S (g_A t) (gXs X).heap H locs) : g_S t (gXs X) H := cx.S.kept b.1 b.2.1
theorem gg_get (cx : g_Cx t X cc nL own ret) {κ o ci N ix j : Nat} {C : String} {T : u_T} {fs : List Value} {v : Value} (hk : (κ, o) ∈ gKs t) (hc : g_cell t κ o (M.1 κ o) (M.2 κ o) = .inr (ci, fs)) (hcl : vwCl[ci]? = some (C, T, N)) (hin : ∀ w ∈ u_ws C T N, w ∈ WL) (hj : j < N) (hlink : Cond.fieldLink own ix (T j).1 (T j).2.1 (T j).2.2.1 ∈ WL) (hv : fs[j]? = some v) (d : decode cc pc = .ok (.getfield ix, 3))
    (kk : G t R X nL k n M lv (v :: st) (pc + 3)) : G t R X nL k n M lv (.ref (gAd t κ o) :: st) pc := fun H locs ls a b c => by
  obtain ⟨q0, hq⟩ := g_at (M := M) hk
  rw [hc] at hq
  exact va_get cx.x cx.b cx.ts hin cx.ow cx.T.1 a.1 q0 hq hcl j hj (cx.ts _ hlink) (fun x h => h) hv d (kk H locs ls a b c)
theorem gg_put (cx : g_Cx t X cc nL own ret) {κ o ci N ix j : Nat} {C : String} {T : u_T} {fs : List Value} {v : Value} {ty : FieldType} {M' : gM} (hk : (κ, o) ∈ gKs t) (hc : g_cell t κ o (M.1 κ o) (M.2 κ o) = .inr (ci, fs)) (hcl : vwCl[ci]? = some (C, T, N)) (hin : ∀ w ∈ u_ws C T N, w ∈ WL) (ty0 : Nat → FieldType) (hty : ∀ k, k < N → parseFieldDescriptor (T k).2.2.1 = some (ty0 k)) (hnm : ∀ a, a < N → ∀ b, b < N → a ≠ b → (T a).2.1 ≠ (T b).2.1)
    (hj : j < N) (hlink : Cond.fieldLink own ix (T j).1 (T j).2.1 (T j).2.2.1 ∈ WL) (hfin : (T j).2.2.2 = false) (hd : parseFieldDescriptor (T j).2.2.1 = some ty) (hn : narrow ty v = v) (hfit : fits ty v = true) (hl : j < fs.length)
    (hset : ∀ q0 : Nat, va_D (g_A t) (g_ws t M) → (g_ws t M)[q0]? = some (gAd t κ o, .inr (ci, fs)) → (g_ws t M).set q0 (gAd t κ o, .inr (ci, fs.set j v)) = g_ws t M') (d : decode cc pc = .ok (.putfield ix, 3))
    (kk : G t R X nL k n M' lv st (pc + 3)) : G t R X nL k n M lv (v :: .ref (gAd t κ o) :: st) pc := fun H locs ls a b c => by
  obtain ⟨q0, hq⟩ := g_at (M := M) hk
  rw [hc] at hq
  refine va_put cx.x cx.b cx.ts hin ty0 hty hnm cx.ow cx.T.1 a.1 a.2.1 b q0 hq hcl j hj (cx.ts _ hlink) (fun x h => h) hfin hd hn hfit hl d (fun H1 locs1 hP hD hS => ?_)
  rw [hset q0 a.2.1 hq] at hP hD
  exact kk H1 locs1 ls ⟨hP, hD, cx.SH hS⟩ hS c
theorem gg_iald (cx : g_Cx t X cc nL own ret) {κ o N : Nat} {i : Int32} (hk : (κ, o) ∈ gKs t) (hc : g_cell t κ o (M.1 κ o) (M.2 κ o) = .inl (gCA t 0, N, .inl (M.1 κ o))) (hi : vp_in i N) (d : decode cc pc = .ok (.iaload, 1))
    (kk : G t R X nL k n M lv (.int (M.1 κ o i.toNatClampNeg) :: st) (pc + 1)) : G t R X nL k n M lv (.int i :: .ref (gAd t κ o) :: st) pc := fun H locs ls a b c => by
  obtain ⟨q0, hq⟩ := g_at (M := M) hk
  rw [hc] at hq
  exact va_iald cx.x cx.b cx.T.1 a.1 q0 0 hq rfl hi d (kk H locs ls a b c)
theorem gg_cald (cx : g_Cx t X cc nL own ret) {κ o N : Nat} {i : Int32} (hk : (κ, o) ∈ gKs t) (hc : g_cell t κ o (M.1 κ o) (M.2 κ o) = .inl (gCA t 2, N, .inl (M.1 κ o))) (hi : vp_in i N) (d : decode cc pc = .ok (.caload, 1))
    (kk : G t R X nL k n M lv (.int (M.1 κ o i.toNatClampNeg) :: st) (pc + 1)) : G t R X nL k n M lv (.int i :: .ref (gAd t κ o) :: st) pc := fun H locs ls a b c => by
  obtain ⟨q0, hq⟩ := g_at (M := M) hk
  rw [hc] at hq
  exact va_cald cx.x cx.b cx.T.1 a.1 q0 2 hq rfl hi d (kk H locs ls a b c)
theorem gg_lald (cx : g_Cx t X cc nL own ret) {κ o N : Nat} {i : Int32} (hk : (κ, o) ∈ gKs t) (hc : g_cell t κ o (M.1 κ o) (M.2 κ o) = .inl (gCA t 1, N, .inr (.inl (M.2 κ o)))) (hi : vp_in i N) (d : decode cc pc = .ok (.laload, 1))
    (kk : G t R X nL k n M lv (.long (M.2 κ o i.toNatClampNeg) :: st) (pc + 1)) : G t R X nL k n M lv (.int i :: .ref (gAd t κ o) :: st) pc := fun H locs ls a b c => by
  obtain ⟨q0, hq⟩ := g_at (M := M) hk
  rw [hc] at hq
  exact va_lald cx.x cx.b cx.T.1 a.1 q0 1 hq rfl hi d (kk H locs ls a b c)
theorem gg_aald (cx : g_Cx t X cc nL own ret) {κ o N ca : Nat} {C : String} {i : Int32} {f : Nat → Option Nat} {v : Nat} (hk : (κ, o) ∈ gKs t) (hc : g_cell t κ o (M.1 κ o) (M.2 κ o) = .inl (gCA t ca, N, .inr (.inr (.inr (.inr f))))) (hty : (g_tys t)[ca]? = some (gCA t ca, .object C)) (hi : vp_in i N) (hv : f i.toNatClampNeg = some v) (d : decode cc pc = .ok (.aaload, 1))
    (kk : G t R X nL k n M lv (.ref v :: st) (pc + 1)) : G t R X nL k n M lv (.int i :: .ref (gAd t κ o) :: st) pc := fun H locs ls a b c => by
  obtain ⟨q0, hq⟩ := g_at (M := M) hk
  rw [hc] at hq
  have h1 := kk H locs ls a b c
  refine va_aldq cx.x cx.b cx.T.1 a.1 q0 ca hq hty hi d ?_
  rw [hv]
  exact h1
theorem gg_iast (cx : g_Cx t X cc nL own ret) {κ o N : Nat} {i x : Int32} (hk : (κ, o) ∈ gKs t) (hc : ∀ (fi : Nat → Int32) (fl : Nat → Int64), g_cell t κ o fi fl = .inl (gCA t 0, N, .inl fi)) (hi : vp_in i N) (d : decode cc pc = .ok (.iastore, 1))
    (kk : G t R X nL k n (g_uI M κ o i.toNatClampNeg x) lv st (pc + 1)) : G t R X nL k n M lv (.int x :: .int i :: .ref (gAd t κ o) :: st) pc := fun H locs ls a b c => by
  obtain ⟨q0, hq⟩ := g_at (M := M) hk
  rw [hc] at hq
  refine va_iast cx.x cx.b cx.T.1 a.1 a.2.1 b q0 0 hq rfl hi d (fun H1 locs1 hP hD hS => ?_)
  rw [g_setI a.2.1 hk hq (hc _ _)] at hP hD
  exact kk H1 locs1 ls ⟨hP, hD, cx.SH hS⟩ hS c
theorem gg_cast (cx : g_Cx t X cc nL own ret) {κ o N : Nat} {i x : Int32} (hk : (κ, o) ∈ gKs t) (hc : ∀ (fi : Nat → Int32) (fl : Nat → Int64), g_cell t κ o fi fl = .inl (gCA t 2, N, .inl fi)) (hi : vp_in i N) (d : decode cc pc = .ok (.castore, 1))
    (kk : G t R X nL k n (g_uI M κ o i.toNatClampNeg (vp_nar .char x)) lv st (pc + 1)) : G t R X nL k n M lv (.int x :: .int i :: .ref (gAd t κ o) :: st) pc := fun H locs ls a b c => by
  obtain ⟨q0, hq⟩ := g_at (M := M) hk
  rw [hc] at hq
  refine va_cast cx.x cx.b cx.T.1 a.1 a.2.1 b q0 2 hq rfl hi d (fun H1 locs1 hP hD hS => ?_)
  rw [g_setI a.2.1 hk hq (hc _ _)] at hP hD
  exact kk H1 locs1 ls ⟨hP, hD, cx.SH hS⟩ hS c
theorem gg_last (cx : g_Cx t X cc nL own ret) {κ o N : Nat} {i : Int32} {x : Int64} (hk : (κ, o) ∈ gKs t) (hc : ∀ (fi : Nat → Int32) (fl : Nat → Int64), g_cell t κ o fi fl = .inl (gCA t 1, N, .inr (.inl fl))) (hi : vp_in i N) (d : decode cc pc = .ok (.lastore, 1))
    (kk : G t R X nL k n (g_uL M κ o i.toNatClampNeg x) lv st (pc + 1)) : G t R X nL k n M lv (.long x :: .int i :: .ref (gAd t κ o) :: st) pc := fun H locs ls a b c => by
  obtain ⟨q0, hq⟩ := g_at (M := M) hk
  rw [hc] at hq
  refine va_last cx.x cx.b cx.T.1 a.1 a.2.1 b q0 1 hq rfl hi d (fun H1 locs1 hP hD hS => ?_)
  rw [g_setL a.2.1 hk hq (hc _ _)] at hP hD
  exact kk H1 locs1 ls ⟨hP, hD, cx.SH hS⟩ hS c
theorem gg_alen (cx : g_Cx t X cc nL own ret) {κ o ca : Nat} {x : vp_A} {ty : FieldType} {v : Int32} (hk : (κ, o) ∈ gKs t) (hc : g_cell t κ o (M.1 κ o) (M.2 κ o) = .inl (gCA t ca, x)) (hty : (g_tys t)[ca]? = some (gCA t ca, ty)) (hv : Int32.ofNat x.1 = v) (d : decode cc pc = .ok (.arraylength, 1))
    (kk : G t R X nL k n M lv (.int v :: st) (pc + 1)) : G t R X nL k n M lv (.ref (gAd t κ o) :: st) pc := fun H locs ls a b c => by
  obtain ⟨q0, hq⟩ := g_at (M := M) hk
  rw [hc] at hq
  exact va_alen cx.x cx.b cx.T.1 a.1 q0 ca hq hty hv d (kk H locs ls a b c)
theorem gg_mmaxL (cx : g_Cx t X cc nL own ret) {ix : Nat} {x y : Int64} (hlink : Cond.methodLink own ix Lib.MathLoose.max_long.x ∈ WL) (h : Cond.static Lib.MathLoose.max_long.x ∈ WL ∧ Cond.initialized "java/lang/Math" ∈ WL ∧ Cond.code Lib.MathLoose.max_long.x Lib.MathLoose.max_long.code 4 (some .long) ∈ WL) (hR : 1 ≤ R.frames ∧ (st.map fun v => v.category).sum + 15 ≤ R.locals ∧ k ≤ R.cells ∧ n ≤ R.slots) (d : decode cc pc = .ok (.invokestatic ix, 3))
    (kk : G t R X nL k n M lv (.long (if y < x then x else y) :: st) (pc + 3)) : G t R X nL k n M lv (.long y :: .long x :: st) pc := fun H locs ls a b c =>
  va_mmax_long cx.x cx.b (cx.ml.trans c.1.symm) cx.ow (cx.ts _ hlink) (cx.ts _ h.1) (cx.ts _ h.2.1) (cx.ts _ h.2.2) hR.1 hR.2.1 hR.2.2.1 hR.2.2.2 d (kk H locs ls a b c)
theorem gg_mmaxI (cx : g_Cx t X cc nL own ret) {ix : Nat} {x y : Int32} (hlink : Cond.methodLink own ix Lib.Math.max.name ∈ WL) (h : Cond.static Lib.Math.max.name ∈ WL ∧ Cond.initialized "java/lang/Math" ∈ WL ∧ Cond.code Lib.Math.max.name Lib.Math.max.code 2 (some .int) ∈ WL) (hR : 1 ≤ R.frames ∧ (st.map fun v => v.category).sum + 13 ≤ R.locals ∧ k ≤ R.cells ∧ n ≤ R.slots) (d : decode cc pc = .ok (.invokestatic ix, 3))
    (kk : G t R X nL k n M lv (.int (if x < y then y else x) :: st) (pc + 3)) : G t R X nL k n M lv (.int y :: .int x :: st) pc := fun H locs ls a b c =>
  va_mmax cx.x cx.b (cx.ml.trans c.1.symm) cx.ow (cx.ts _ hlink) (cx.ts _ h.1) (cx.ts _ h.2.1) (cx.ts _ h.2.2) hR.1 hR.2.1 hR.2.2.1 hR.2.2.2 d (kk H locs ls a b c)
theorem gg_mminI (cx : g_Cx t X cc nL own ret) {ix : Nat} {x y : Int32} (hlink : Cond.methodLink own ix Lib.Math.min.name ∈ WL) (h : Cond.static Lib.Math.min.name ∈ WL ∧ Cond.initialized "java/lang/Math" ∈ WL ∧ Cond.code Lib.Math.min.name Lib.Math.min.code 2 (some .int) ∈ WL) (hR : 1 ≤ R.frames ∧ (st.map fun v => v.category).sum + 13 ≤ R.locals ∧ k ≤ R.cells ∧ n ≤ R.slots) (d : decode cc pc = .ok (.invokestatic ix, 3))
    (kk : G t R X nL k n M lv (.int (if y < x then y else x) :: st) (pc + 3)) : G t R X nL k n M lv (.int y :: .int x :: st) pc := fun H locs ls a b c =>
  va_mmin cx.x cx.b (cx.ml.trans c.1.symm) cx.ow (cx.ts _ hlink) (cx.ts _ h.1) (cx.ts _ h.2.1) (cx.ts _ h.2.2) hR.1 hR.2.1 hR.2.2.1 hR.2.2.2 d (kk H locs ls a b c)
/-- what every arraycopy of ints and longs needs -/
def g_Cpy : Prop := Cond.native arraycopyName ∈ WL ∧ Cond.static arraycopyName ∈ WL ∧ Cond.initialized "java/lang/System" ∈ WL
theorem gg_copyI (cx : g_Cx t X cc nL own ret) {κ o κ' o' N N' ix : Nat} {sp dp m : Int32} (hw : g_Cpy) (hlink : Cond.methodLink own ix arraycopyName ∈ WL) (hk' : (κ', o') ∈ gKs t) (hk : (κ, o) ∈ gKs t) (hc' : g_cell t κ' o' (M.1 κ' o') (M.2 κ' o') = .inl (gCA t 0, N', .inl (M.1 κ' o'))) (hc : ∀ (fi : Nat → Int32) (fl : Nat → Int64), g_cell t κ o fi fl = .inl (gCA t 0, N, .inl fi))
    (h1 : ¬ sp < 0) (h2 : ¬ dp < 0) (h3 : ¬ m < 0) (h4 : sp.toNatClampNeg + m.toNatClampNeg ≤ N') (h5 : dp.toNatClampNeg + m.toNatClampNeg ≤ N) (hR : 1 ≤ R.frames ∧ (st.map fun v => v.category).sum + (nativeFrameWords "java/lang/System" "arraycopy" 5 + 11) ≤ R.locals) (d : decode cc pc = .ok (.invokestatic ix, 3))
    (kk : G t R X nL k n (g_cI M κ' o' κ o sp.toNatClampNeg dp.toNatClampNeg m.toNatClampNeg) lv st (pc + 3)) : G t R X nL k n M lv (.int m :: .int dp :: .ref (gAd t κ o) :: .int sp :: .ref (gAd t κ' o') :: st) pc := fun H locs ls a b c => by
  obtain ⟨q0, hq0⟩ := g_at (M := M) hk'
  obtain ⟨q1, hq1⟩ := g_at (M := M) hk
  rw [hc'] at hq0
  rw [hc] at hq1
  refine va_copyi cx.x cx.b (cx.ml.trans c.1.symm) cx.ow (cx.ts _ hlink) (cx.ts _ hw.1) (cx.ts _ hw.2.1) (cx.ts _ hw.2.2) cx.T.1 a.1 a.2.1 b q0 q1 0 0 hq0 hq1 rfl rfl rfl h1 h2 h3 h4 h5 (fun _ _ => rfl) hR.1 hR.2 d (fun H1 locs1 hP hD hS => ?_)
  rw [g_setCI a.2.1 hk hq1 (hc _ _)] at hP hD
  exact kk H1 locs1 ls ⟨hP, hD, cx.SH hS⟩ hS c
theorem gg_copyL (cx : g_Cx t X cc nL own ret) {κ o κ' o' N N' ix : Nat} {sp dp m : Int32} (hw : g_Cpy) (hlink : Cond.methodLink own ix arraycopyName ∈ WL) (hk' : (κ', o') ∈ gKs t) (hk : (κ, o) ∈ gKs t) (hc' : g_cell t κ' o' (M.1 κ' o') (M.2 κ' o') = .inl (gCA t 1, N', .inr (.inl (M.2 κ' o')))) (hc : ∀ (fi : Nat → Int32) (fl : Nat → Int64), g_cell t κ o fi fl = .inl (gCA t 1, N, .inr (.inl fl)))
    (h1 : ¬ sp < 0) (h2 : ¬ dp < 0) (h3 : ¬ m < 0) (h4 : sp.toNatClampNeg + m.toNatClampNeg ≤ N') (h5 : dp.toNatClampNeg + m.toNatClampNeg ≤ N) (hR : 1 ≤ R.frames ∧ (st.map fun v => v.category).sum + (nativeFrameWords "java/lang/System" "arraycopy" 5 + 11) ≤ R.locals) (d : decode cc pc = .ok (.invokestatic ix, 3))
    (kk : G t R X nL k n (g_cL M κ' o' κ o sp.toNatClampNeg dp.toNatClampNeg m.toNatClampNeg) lv st (pc + 3)) : G t R X nL k n M lv (.int m :: .int dp :: .ref (gAd t κ o) :: .int sp :: .ref (gAd t κ' o') :: st) pc := fun H locs ls a b c => by
  obtain ⟨q0, hq0⟩ := g_at (M := M) hk'
  obtain ⟨q1, hq1⟩ := g_at (M := M) hk
  rw [hc'] at hq0
  rw [hc] at hq1
  refine va_copyl cx.x cx.b (cx.ml.trans c.1.symm) cx.ow (cx.ts _ hlink) (cx.ts _ hw.1) (cx.ts _ hw.2.1) (cx.ts _ hw.2.2) cx.T.1 a.1 a.2.1 b q0 q1 1 1 hq0 hq1 rfl rfl rfl h1 h2 h3 h4 h5 (fun _ _ => rfl) hR.1 hR.2 d (fun H1 locs1 hP hD hS => ?_)
  rw [g_setCL a.2.1 hk hq1 (hc _ _)] at hP hD
  exact kk H1 locs1 ls ⟨hP, hD, cx.SH hS⟩ hS c
/-- a callee's own words -/
def g_Cal (y : MethodName) (bytes : ByteArray) (maxL : Nat) (rt : Option FieldType) (nA : Nat) : Prop := Cond.initialized y.cls ∈ WL ∧ Cond.code y bytes maxL rt ∈ WL ∧ y.cls ≠ "java/lang/invoke/MethodHandle" ∧ y.cls ≠ "java/lang/invoke/VarHandle" ∧ (parseMethodDescriptor y.desc).map (fun d => d.parameters.length) = some nA
def g_CalV (y : MethodName) : Prop := Cond.instanceMethod y ∈ WL ∧ Cond.selects y.cls y y ∈ WL
abbrev g_y (y : MethodName) (bytes : ByteArray) (maxL : Nat) (rt : Option FieldType) : List Cond := Cond.code y bytes maxL rt :: WL
theorem g_y_in {y : MethodName} {bytes : ByteArray} {maxL nA : Nat} {rt : Option FieldType} (h : g_Cal y bytes maxL rt nA) : ∀ w ∈ g_y y bytes maxL rt, w ∈ WL := fun w hw => by
  rcases List.mem_cons.mp hw with e | e
  · rw [e]; exact h.2.1
  · exact e
theorem g_cwV {s : State} {args : Array Value} (hts : ∀ w ∈ WL, w.before args s = true) {y : MethodName} {bytes : ByteArray} {maxL nA ix : Nat} {rt : Option FieldType} {rm : Room} (h : g_Cal y bytes maxL rt nA) (hv : g_CalV y) (hl : Cond.methodLink own ix y ∈ WL) (hR : rm.frames + 1 ≤ R.frames ∧ 8 + (maxL + 11) + rm.locals ≤ R.locals) :
    CallW R s args own y.cls ix y bytes maxL rt (g_y y bytes maxL rt) rm rm.cells rm.slots nA :=
  cwV nA hts (WL_good (fun _ q => q) (fun w hw => by
    unfold wsV at hw
    rcases List.mem_append.mp hw with e | e
    · simp only [List.mem_cons, List.not_mem_nil, or_false] at e
      rcases e with e | e | e | e
      · rw [e]; exact hl
      · rw [e]; exact hv.1
      · rw [e]; exact hv.2
      · rw [e]; exact h.1
    · exact g_y_in h w e)) rfl rfl rfl ⟨rfl, h.2.2⟩ hR
theorem g_cwS {s : State} {args : Array Value} (hts : ∀ w ∈ WL, w.before args s = true) {y : MethodName} {bytes : ByteArray} {maxL nA ix : Nat} {rt : Option FieldType} {rm : Room} (h : g_Cal y bytes maxL rt nA) (hv : Cond.static y ∈ WL) (hl : Cond.methodLink own ix y ∈ WL) (hR : rm.frames + 1 ≤ R.frames ∧ 8 + (maxL + 11) + rm.locals ≤ R.locals) :
    CallB R s args own ix y bytes maxL rt (g_y y bytes maxL rt) rm rm.cells rm.slots nA ∧ (Cond.static y).before args s = true :=
  va_cwS nA hts (WL_good (fun _ q => q) (fun w hw => by
    unfold va_wsS at hw
    rcases List.mem_append.mp hw with e | e
    · simp only [List.mem_cons, List.not_mem_nil, or_false] at e
      rcases e with e | e | e
      · rw [e]; exact hl
      · rw [e]; exact hv
      · rw [e]; exact h.1
    · exact g_y_in h w e)) rfl rfl rfl h.2.2 hR
theorem g_blind {av : List Value} {M : gM} : FrameBlind (va_Pc av (g_Pre t M)) := fun a U g mk q => ⟨q.1, g_T.same (s := U) rfl q.2.1, g_H.moved (u := U) (Vm.Alike.refl U.vm) q.2.2⟩
theorem g_preS (cx : g_Cx t X cc nL own ret) {H : Heap} {M : gM} (a : g_H t M (gXs X) H) {av : List Value} : PreS (gXs X) H (va_Pc av (g_Pre t M)) av := ⟨g_blind, fun U hU hW => ⟨rfl, cx.T.warm hW, by rw [hU]; exact a.moved hW.alike⟩⟩
theorem g_preV (cx : g_Cx t X cc nL own ret) {H : Heap} {M : gM} (a : g_H t M (gXs X) H) {As : List Value} {κ o ci N : Nat} {C : String} {T : u_T} {fs : List Value} (hk : (κ, o) ∈ gKs t) (hc : g_cell t κ o (M.1 κ o) (M.2 κ o) = .inr (ci, fs)) (hcl : vwCl[ci]? = some (C, T, N)) : PreV (gXs X) H C (gAd t κ o) (va_Pc (.ref (gAd t κ o) :: As) (g_Pre t M)) As := by
  obtain ⟨q0, hq⟩ := g_at (M := M) hk
  rw [hc] at hq
  exact ⟨g_blind, va_recv cx.T.1 a.1 (ci := ci) (q0 := q0) hcl hq, fun U hU hW => ⟨rfl, cx.T.warm hW, by rw [hU]; exact a.moved hW.alike⟩⟩
theorem gg_callVi (cx : g_Cx t X cc nL own ret) {y : MethodName} {bytes : ByteArray} {maxL nA ix κ o ci N : Nat} {rt : Option FieldType} {rm : Room} {As st0 : List Value} {T : u_T} {fs : List Value} {K : Int32 → gM → Prop} (hy : g_Cal y bytes maxL rt nA) (hv : g_CalV y) (hM : Met (gXl X) y (g_y y bytes maxL rt) rm (va_Pc (.ref (gAd t κ o) :: As) (g_Pre t M)) (va_Qi K (g_B t) (g_A t)) rm.cells rm.slots (g_A t))
    (hl : Cond.methodLink own ix y ∈ WL) (hk : (κ, o) ∈ gKs t) (hc : g_cell t κ o (M.1 κ o) (M.2 κ o) = .inr (ci, fs)) (hcl : vwCl[ci]? = some (y.cls, T, N)) (hn : As.length = nA) (hst : st0 = As.reverse ++ .ref (gAd t κ o) :: st) (hsm : (st.map fun v => v.category).sum ≤ 8) (hR : rm.frames + 1 ≤ R.frames ∧ 8 + (maxL + 11) + rm.locals ≤ R.locals) (hf : k + rm.cells ≤ R.cells ∧ n + rm.slots ≤ R.slots) (d : decode cc pc = .ok (.invokevirtual ix, 3))
    (kk : ∀ (r : Int32) (M' : gM), K r M' → G t R X nL (k + rm.cells) (n + rm.slots) M' lv (.int r :: st) (pc + 3)) : G t R X nL k n M lv st0 pc := fun H locs ls a b c => by
  subst hst
  have hrun := va_runV (H := H) (locs := locs) (cells := k) (slots := n) (e := gXe X) (below := gXb X) (meth := gXt X) (As := As) (rest := st) (g := F0 (gXm X) pc ls (As.reverse ++ .ref (gAd t κ o) :: st)) ⟨cx.x, cx.b, cx.ml, cx.ow, cx.ts⟩ hM (g_cwV cx.ts hy hv hl hR) (g_preV cx a hk hc hcl) rfl hn c.1 rfl (lv_room hsm) d hf
  refine va_calli hrun b (fun _ _ h => h) (fun _ h => h) (fun r u tt H1 locs1 ht hvm hp hB hz1 hk1 hS => ?_)
  exact kk r u hp H1 locs1 ls ⟨by rw [← ht]; exact hB.1, hB.2.1, cx.SH hS⟩ hS c
theorem gg_callSi (cx : g_Cx t X cc nL own ret) {y : MethodName} {bytes : ByteArray} {maxL nA ix : Nat} {rt : Option FieldType} {rm : Room} {As st0 : List Value} {K : Int32 → gM → Prop} (hy : g_Cal y bytes maxL rt nA) (hv : Cond.static y ∈ WL) (hM : Met (gXl X) y (g_y y bytes maxL rt) rm (va_Pc As (g_Pre t M)) (va_Qi K (g_B t) (g_A t)) rm.cells rm.slots (g_A t))
    (hl : Cond.methodLink own ix y ∈ WL) (hn : As.length = nA) (hst : st0 = As.reverse ++ st) (hsm : (st.map fun v => v.category).sum ≤ 8) (hR : rm.frames + 1 ≤ R.frames ∧ 8 + (maxL + 11) + rm.locals ≤ R.locals) (hf : k + rm.cells ≤ R.cells ∧ n + rm.slots ≤ R.slots) (d : decode cc pc = .ok (.invokestatic ix, 3))
    (kk : ∀ (r : Int32) (M' : gM), K r M' → G t R X nL (k + rm.cells) (n + rm.slots) M' lv (.int r :: st) (pc + 3)) : G t R X nL k n M lv st0 pc := fun H locs ls a b c => by
  subst hst
  have hrun := va_runS (H := H) (locs := locs) (cells := k) (slots := n) (e := gXe X) (below := gXb X) (meth := gXt X) (As := As) (rest := st) (g := F0 (gXm X) pc ls (As.reverse ++ st)) ⟨cx.x, cx.b, cx.ml, cx.ow, cx.ts⟩ hM (g_cwS cx.ts hy hv hl hR) (g_preS cx a) rfl hn c.1 rfl (lv_room hsm) d hf
  refine va_calli hrun b (fun _ _ h => h) (fun _ h => h) (fun r u tt H1 locs1 ht hvm hp hB hz1 hk1 hS => ?_)
  exact kk r u hp H1 locs1 ls ⟨by rw [← ht]; exact hB.1, hB.2.1, cx.SH hS⟩ hS c
theorem gg_callVl (cx : g_Cx t X cc nL own ret) {y : MethodName} {bytes : ByteArray} {maxL nA ix κ o ci N : Nat} {rt : Option FieldType} {rm : Room} {As st0 : List Value} {T : u_T} {fs : List Value} {K : Int64 → gM → Prop} (hy : g_Cal y bytes maxL rt nA) (hv : g_CalV y) (hM : Met (gXl X) y (g_y y bytes maxL rt) rm (va_Pc (.ref (gAd t κ o) :: As) (g_Pre t M)) (va_Ql K (g_B t) (g_A t)) rm.cells rm.slots (g_A t))
    (hl : Cond.methodLink own ix y ∈ WL) (hk : (κ, o) ∈ gKs t) (hc : g_cell t κ o (M.1 κ o) (M.2 κ o) = .inr (ci, fs)) (hcl : vwCl[ci]? = some (y.cls, T, N)) (hn : As.length = nA) (hst : st0 = As.reverse ++ .ref (gAd t κ o) :: st) (hsm : (st.map fun v => v.category).sum ≤ 8) (hR : rm.frames + 1 ≤ R.frames ∧ 8 + (maxL + 11) + rm.locals ≤ R.locals) (hf : k + rm.cells ≤ R.cells ∧ n + rm.slots ≤ R.slots) (d : decode cc pc = .ok (.invokevirtual ix, 3))
    (kk : ∀ (r : Int64) (M' : gM), K r M' → G t R X nL (k + rm.cells) (n + rm.slots) M' lv (.long r :: st) (pc + 3)) : G t R X nL k n M lv st0 pc := fun H locs ls a b c => by
  subst hst
  have hrun := va_runV (H := H) (locs := locs) (cells := k) (slots := n) (e := gXe X) (below := gXb X) (meth := gXt X) (As := As) (rest := st) (g := F0 (gXm X) pc ls (As.reverse ++ .ref (gAd t κ o) :: st)) ⟨cx.x, cx.b, cx.ml, cx.ow, cx.ts⟩ hM (g_cwV cx.ts hy hv hl hR) (g_preV cx a hk hc hcl) rfl hn c.1 rfl (lv_room hsm) d hf
  refine va_calll hrun b (fun _ _ h => h) (fun _ h => h) (fun r u tt H1 locs1 ht hvm hp hB hz1 hk1 hS => ?_)
  exact kk r u hp H1 locs1 ls ⟨by rw [← ht]; exact hB.1, hB.2.1, cx.SH hS⟩ hS c
theorem gg_callSl (cx : g_Cx t X cc nL own ret) {y : MethodName} {bytes : ByteArray} {maxL nA ix : Nat} {rt : Option FieldType} {rm : Room} {As st0 : List Value} {K : Int64 → gM → Prop} (hy : g_Cal y bytes maxL rt nA) (hv : Cond.static y ∈ WL) (hM : Met (gXl X) y (g_y y bytes maxL rt) rm (va_Pc As (g_Pre t M)) (va_Ql K (g_B t) (g_A t)) rm.cells rm.slots (g_A t))
    (hl : Cond.methodLink own ix y ∈ WL) (hn : As.length = nA) (hst : st0 = As.reverse ++ st) (hsm : (st.map fun v => v.category).sum ≤ 8) (hR : rm.frames + 1 ≤ R.frames ∧ 8 + (maxL + 11) + rm.locals ≤ R.locals) (hf : k + rm.cells ≤ R.cells ∧ n + rm.slots ≤ R.slots) (d : decode cc pc = .ok (.invokestatic ix, 3))
    (kk : ∀ (r : Int64) (M' : gM), K r M' → G t R X nL (k + rm.cells) (n + rm.slots) M' lv (.long r :: st) (pc + 3)) : G t R X nL k n M lv st0 pc := fun H locs ls a b c => by
  subst hst
  have hrun := va_runS (H := H) (locs := locs) (cells := k) (slots := n) (e := gXe X) (below := gXb X) (meth := gXt X) (As := As) (rest := st) (g := F0 (gXm X) pc ls (As.reverse ++ st)) ⟨cx.x, cx.b, cx.ml, cx.ow, cx.ts⟩ hM (g_cwS cx.ts hy hv hl hR) (g_preS cx a) rfl hn c.1 rfl (lv_room hsm) d hf
  refine va_calll hrun b (fun _ _ h => h) (fun _ h => h) (fun r u tt H1 locs1 ht hvm hp hB hz1 hk1 hS => ?_)
  exact kk r u hp H1 locs1 ls ⟨by rw [← ht]; exact hB.1, hB.2.1, cx.SH hS⟩ hS c
theorem gg_callVv (cx : g_Cx t X cc nL own ret) {y : MethodName} {bytes : ByteArray} {maxL nA ix κ o ci N : Nat} {rt : Option FieldType} {rm : Room} {As st0 : List Value} {T : u_T} {fs : List Value} {K : gM → Prop} (hy : g_Cal y bytes maxL rt nA) (hv : g_CalV y) (hM : Met (gXl X) y (g_y y bytes maxL rt) rm (va_Pc (.ref (gAd t κ o) :: As) (g_Pre t M)) (va_Qv K (g_B t) (g_A t)) rm.cells rm.slots (g_A t))
    (hl : Cond.methodLink own ix y ∈ WL) (hk : (κ, o) ∈ gKs t) (hc : g_cell t κ o (M.1 κ o) (M.2 κ o) = .inr (ci, fs)) (hcl : vwCl[ci]? = some (y.cls, T, N)) (hn : As.length = nA) (hst : st0 = As.reverse ++ .ref (gAd t κ o) :: st) (hsm : (st.map fun v => v.category).sum ≤ 8) (hR : rm.frames + 1 ≤ R.frames ∧ 8 + (maxL + 11) + rm.locals ≤ R.locals) (hf : k + rm.cells ≤ R.cells ∧ n + rm.slots ≤ R.slots) (d : decode cc pc = .ok (.invokevirtual ix, 3))
    (kk : ∀ (M' : gM), K M' → G t R X nL (k + rm.cells) (n + rm.slots) M' lv st (pc + 3)) : G t R X nL k n M lv st0 pc := fun H locs ls a b c => by
  subst hst
  have hrun := va_runV (H := H) (locs := locs) (cells := k) (slots := n) (e := gXe X) (below := gXb X) (meth := gXt X) (As := As) (rest := st) (g := F0 (gXm X) pc ls (As.reverse ++ .ref (gAd t κ o) :: st)) ⟨cx.x, cx.b, cx.ml, cx.ow, cx.ts⟩ hM (g_cwV cx.ts hy hv hl hR) (g_preV cx a hk hc hcl) rfl hn c.1 rfl (lv_room hsm) d hf
  refine va_callv hrun b (fun _ _ h => h) (fun _ h => h) (fun u tt H1 locs1 ht hvm hp hB hz1 hk1 hS => ?_)
  exact kk u hp H1 locs1 ls ⟨by rw [← ht]; exact hB.1, hB.2.1, cx.SH hS⟩ hS c
theorem gg_callSv (cx : g_Cx t X cc nL own ret) {y : MethodName} {bytes : ByteArray} {maxL nA ix : Nat} {rt : Option FieldType} {rm : Room} {As st0 : List Value} {K : gM → Prop} (hy : g_Cal y bytes maxL rt nA) (hv : Cond.static y ∈ WL) (hM : Met (gXl X) y (g_y y bytes maxL rt) rm (va_Pc As (g_Pre t M)) (va_Qv K (g_B t) (g_A t)) rm.cells rm.slots (g_A t))
    (hl : Cond.methodLink own ix y ∈ WL) (hn : As.length = nA) (hst : st0 = As.reverse ++ st) (hsm : (st.map fun v => v.category).sum ≤ 8) (hR : rm.frames + 1 ≤ R.frames ∧ 8 + (maxL + 11) + rm.locals ≤ R.locals) (hf : k + rm.cells ≤ R.cells ∧ n + rm.slots ≤ R.slots) (d : decode cc pc = .ok (.invokestatic ix, 3))
    (kk : ∀ (M' : gM), K M' → G t R X nL (k + rm.cells) (n + rm.slots) M' lv st (pc + 3)) : G t R X nL k n M lv st0 pc := fun H locs ls a b c => by
  subst hst
  have hrun := va_runS (H := H) (locs := locs) (cells := k) (slots := n) (e := gXe X) (below := gXb X) (meth := gXt X) (As := As) (rest := st) (g := F0 (gXm X) pc ls (As.reverse ++ st)) ⟨cx.x, cx.b, cx.ml, cx.ow, cx.ts⟩ hM (g_cwS cx.ts hy hv hl hR) (g_preS cx a) rfl hn c.1 rfl (lv_room hsm) d hf
  refine va_callv hrun b (fun _ _ h => h) (fun _ h => h) (fun u tt H1 locs1 ht hvm hp hB hz1 hk1 hS => ?_)
  exact kk u hp H1 locs1 ls ⟨by rw [← ht]; exact hB.1, hB.2.1, cx.SH hS⟩ hS c
theorem g_F (cx : g_Cx t X cc nL own ret) {H : Heap} {locs : List Loc} (b : va_S (g_A t) (gXs X).heap H locs) {u : State} (hu : u.heap = H) : va_F (g_A t) (gXs X) u := ⟨by rw [hu]; exact b.1, fun q h1 h2 => by rw [hu]; exact b.2.1 q h1 h2⟩
theorem g_Bof {H : Heap} {M : gM} (a : g_H t M (gXs X) H) {u : State} (hu : u.heap = H) (hW : (gXs X).WarmedH u.vm) : g_B t M u := by
  show g_H t M u u.heap
  rw [hu]
  exact a.moved hW.alike
theorem gg_iret (cx : g_Cx t X cc nL own (some .int)) {K : Int32 → gM → Prop} (hQ : gXQ X = MQ (gXb X) (va_Qi K (g_B t) (g_A t)) (gXa X) (gXs X) k n (g_A t)) {r : Int32} (h : K r M) (d : decode cc pc = .ok (.ireturn, 1)) : G t R X nL k n M lv [.int r] pc := fun H locs ls a b c => by
  rw [hQ]
  exact W.iret cx.x cx.b cx.r (fun u hu hW => ⟨⟨r, M, rfl, h, g_Bof a hu hW⟩, g_F cx b hu⟩) (fun q hq => b.2.2 q hq) d cx.lk
theorem gg_zret {ty : FieldType} (cx : g_Cx t X cc nL own (some ty)) {K : Int32 → gM → Prop} (hQ : gXQ X = MQ (gXb X) (va_Qi K (g_B t) (g_A t)) (gXa X) (gXs X) k n (g_A t)) {r : Int32} (hz : narrow ty (.int r) = .int r) (h : K r M) (d : decode cc pc = .ok (.ireturn, 1)) : G t R X nL k n M lv [.int r] pc := fun H locs ls a b c => by
  rw [hQ]
  exact W.zret cx.x cx.b cx.r hz (fun u hu hW => ⟨⟨r, M, rfl, h, g_Bof a hu hW⟩, g_F cx b hu⟩) (fun q hq => b.2.2 q hq) d cx.lk
theorem gg_lret (cx : g_Cx t X cc nL own (some .long)) {K : Int64 → gM → Prop} (hQ : gXQ X = MQ (gXb X) (va_Ql K (g_B t) (g_A t)) (gXa X) (gXs X) k n (g_A t)) {r : Int64} (h : K r M) (d : decode cc pc = .ok (.lreturn, 1)) : G t R X nL k n M lv [.long r] pc := fun H locs ls a b c => by
  rw [hQ]
  exact W.lret cx.x cx.b cx.r (fun u hu hW => ⟨⟨r, M, rfl, h, g_Bof a hu hW⟩, g_F cx b hu⟩) (fun q hq => b.2.2 q hq) d cx.lk
theorem gg_vret (cx : g_Cx t X cc nL own none) {K : gM → Prop} (hQ : gXQ X = MQ (gXb X) (va_Qv K (g_B t) (g_A t)) (gXa X) (gXs X) k n (g_A t)) (h : K M) (d : decode cc pc = .ok (.return_, 1)) : G t R X nL k n M lv [] pc := fun H locs ls a b c => by
  rw [hQ]
  exact W.vret cx.x cx.b cx.r (fun u hu hW => ⟨⟨M, rfl, h, g_Bof a hu hW⟩, g_F cx b hu⟩) (fun q hq => b.2.2 q hq) d cx.lk
end GX
/-- a contract out of the walk of its body -/
theorem g_met {l : Launch} (hl : l.stackTraces = false) {t : gT} {y : MethodName} {bytes : ByteArray} {maxL : Nat} {rt : Option FieldType} {rm : Room} {av : List Value} {M : gM} {Qc : Array Value → State → Outcome → State → Prop} (hy : plainName y.cls = true) (hsz : (lg_sl av).length ≤ maxL)
    (body : ∀ X : gX, gXl X = l → g_Cx t X bytes maxL y.cls rt → gXQ X = MQ (gXb X) Qc (gXa X) (gXs X) rm.cells rm.slots (g_A t) → G t rm X maxL 0 0 M (lv_args 0 av) [] 0) : Met l y (g_y y bytes maxL rt) rm (va_Pc av (g_Pre t M)) Qc rm.cells rm.slots (g_A t) := by
  refine Met.ofW (cc := bytes) (maxL := maxL) (ret := rt) hy rfl ?_
  intro p e s m args below meth c s₁ B hml hv
  obtain ⟨rfl, hT, hH⟩ := hv
  have hts := atoms_spec (ws := g_y y bytes maxL rt) B.pre
  have hl0 := lv_entry av (n := maxL) hsz
  rw [lg_entry_eq]
  exact body (p, l, e, s, m, av.toArray, below, meth, c, MQ below Qc av.toArray s rm.cells rm.slots (g_A t)) rfl ⟨B.exec, B.bytes, hml, findClass_of_methodNamed B.named, fun w hw => hts w (List.mem_cons_of_mem _ hw), hT, hH.2.2, B.returns, B.notSynchronized, hl⟩ rfl s.heap [] _ hH va_S.rf hl0
theorem g_it {c A B : Prop} [Decidable c] (hc : c) (h : if c then A else B) : A := by rwa [if_pos hc] at h
theorem g_if {c A B : Prop} [Decidable c] (hc : ¬ c) (h : if c then A else B) : B := by rwa [if_neg hc] at h
def g_isC (k : Nat) : Bool := decide (k ≤ 8) || (decide (10 ≤ k) && decide (k ≤ 46))
def g_isM (k : Nat) : Bool := decide (k = 9) || (decide (47 ≤ k) && decide (k ≤ 58))
def g_isO (k : Nat) : Bool := decide (k = 59)
/-- the class's cells are there; the reference's; the law's row -/
def g_hC (t : gT) : Prop := ∀ k o : Nat, g_isC k = true → o < g_cnt k → (k, o) ∈ gKs t
def g_hM (t : gT) : Prop := ∀ k o : Nat, g_isM k = true → o < g_cnt k → (k, o) ∈ gKs t
def g_hO (t : gT) : Prop := ∀ k o : Nat, g_isO k = true → o < g_cnt k → (k, o) ∈ gKs t
theorem g_v56 {o : Nat} (h : o < 5) : o < 6 := Nat.lt_of_lt_of_le h (by decide)
theorem g_vN {o : Nat} {i : Int32} (h : o < 5) (hi : vp_in i 12) : 12 * o + i.toNatClampNeg < 60 := by
  have h2 : i.toNatClampNeg < 12 := Nat.not_le.mp fun q => hi (Or.inr q)
  omega
theorem g_vW {i : Int32} (hi : vp_in i 3) : 2 + i.toNatClampNeg < 5 := by
  have h2 : i.toNatClampNeg < 3 := Nat.not_le.mp fun q => hi (Or.inr q)
  omega
section GY
variable {t : gT} {R : Room} {X : gX} {nL k n : Nat} {M : gM} {lv : List (Nat × Value)} {st : List Value} {pc : Nat} {cc : ByteArray} {own : String} {ret : Option FieldType}
theorem gg_mem (kk : ∀ M' : gM, M' = M → G t R X nL k n M' lv st pc) : G t R X nL k n M lv st pc := kk M rfl
theorem gg_swv {x y : Int32} (h : x = y) (kk : G t R X nL k n M lv (.int y :: st) pc) : G t R X nL k n M lv (.int x :: st) pc := by rw [h]; exact kk
theorem gg_tableIn (cx : g_Cx t X cc nL own ret) {dflt lo hi : Int} {offs : Array Int} {len : Nat} {x : Int32} {off : Int} {tgt : Nat} (d : decode cc pc = .ok (.tableswitch dflt lo hi offs, len)) (h1 : ¬ x.toInt < lo) (h2 : ¬ hi < x.toInt) (ho : offs[(x.toInt - lo).toNat]? = some off) (ht : (pc : Int) + off = (tgt : Int)) (kk : G t R X nL k n M lv st tgt) : G t R X nL k n M lv (.int x :: st) pc := fun H locs ls a b c => lv_tableIn cx.x cx.b d h1 h2 ho ht (kk H locs ls a b c)
theorem gg_tableOut (cx : g_Cx t X cc nL own ret) {dflt lo hi : Int} {offs : Array Int} {len : Nat} {x : Int32} {tgt : Nat} (d : decode cc pc = .ok (.tableswitch dflt lo hi offs, len)) (h : x.toInt < lo ∨ hi < x.toInt) (ht : (pc : Int) + dflt = (tgt : Int)) (kk : G t R X nL k n M lv st tgt) : G t R X nL k n M lv (.int x :: st) pc := fun H locs ls a b c => lv_tableOut cx.x cx.b d h ht (kk H locs ls a b c)
theorem gg_lookup (cx : g_Cx t X cc nL own ret) {dflt : Int} {ps : Array (Int × Int)} {len : Nat} {x : Int32} {off : Int} {tgt : Nat} (d : decode cc pc = .ok (.lookupswitch dflt ps, len)) (hp : (ps.toList.zip (ps.toList.drop 1)).all (fun (a, next) => a.1 < next.1) = true) (ho : Op.lookupswitch.offset ps.toList dflt x.toInt = off) (ht : (pc : Int) + off = (tgt : Int)) (kk : G t R X nL k n M lv st tgt) : G t R X nL k n M lv (.int x :: st) pc := fun H locs ls a b c => lv_lookup cx.x cx.b d hp ho ht (kk H locs ls a b c)
theorem gg_ldcS (cx : g_Cx t X cc nL own ret) {ix i : Nat} {tx : String} (hs : vk_R own ix tx (gSK t i) (gXs X)) (d : decode cc pc = .ok (.ldc ix, 2)) (kk : G t R X nL k n M lv (.ref (gSK t i) :: st) (pc + 2)) : G t R X nL k n M lv st pc := fun H locs ls a b c => va_ldcS cx.x cx.b cx.ow hs d (kk H locs ls a b c)
/-- a method that gives back a text -/
def g_Qs (t : gT) (K : Nat → gM → Prop) : Array Value → State → Outcome → State → Prop := fun _ st o u => (∃ (i : Nat) (M : gM), o = .returned (some (.ref (gSK t i))) ∧ K i M ∧ g_B t M u) ∧ va_F (g_A t) st u
/-- what is thrown: which, and the memory then -/
def g_XC (t : gT) (KX : Nat → gM → Prop) : String → State → State → Prop := vx_X (S := Nat × gM) (fun u => KX u.1 u.2) (fun E u s => E = g_eN u.1 ∧ u.1 < 3 ∧ g_B t u.2 s) (g_A t)
theorem gg_xiret (cx : g_Cx t X cc nL own (some .int)) {K : Int32 → gM → Prop} {KX : Nat → gM → Prop} (hQ : gXQ X = vx_MQ (gXb X) (va_Qi K (g_B t) (g_A t)) (g_XC t KX) (gXa X) (gXs X) k n (g_A t)) {r : Int32} (h : K r M) (d : decode cc pc = .ok (.ireturn, 1)) : G t R X nL k n M lv [.int r] pc := fun H locs ls a b c => by
  rw [hQ]
  exact vx_ret (W.iret cx.x cx.b cx.r (fun u hu hW => ⟨⟨r, M, rfl, h, g_Bof a hu hW⟩, g_F cx b hu⟩) (fun q hq => b.2.2 q hq) d cx.lk)
theorem gg_xlret (cx : g_Cx t X cc nL own (some .long)) {K : Int64 → gM → Prop} {KX : Nat → gM → Prop} (hQ : gXQ X = vx_MQ (gXb X) (va_Ql K (g_B t) (g_A t)) (g_XC t KX) (gXa X) (gXs X) k n (g_A t)) {r : Int64} (h : K r M) (d : decode cc pc = .ok (.lreturn, 1)) : G t R X nL k n M lv [.long r] pc := fun H locs ls a b c => by
  rw [hQ]
  exact vx_ret (W.lret cx.x cx.b cx.r (fun u hu hW => ⟨⟨r, M, rfl, h, g_Bof a hu hW⟩, g_F cx b hu⟩) (fun q hq => b.2.2 q hq) d cx.lk)
theorem gg_xvret (cx : g_Cx t X cc nL own none) {K : gM → Prop} {KX : Nat → gM → Prop} (hQ : gXQ X = vx_MQ (gXb X) (va_Qv K (g_B t) (g_A t)) (g_XC t KX) (gXa X) (gXs X) k n (g_A t)) (h : K M) (d : decode cc pc = .ok (.return_, 1)) : G t R X nL k n M lv [] pc := fun H locs ls a b c => by
  rw [hQ]
  exact vx_ret (W.vret cx.x cx.b cx.r (fun u hu hW => ⟨⟨M, rfl, h, g_Bof a hu hW⟩, g_F cx b hu⟩) (fun q hq => b.2.2 q hq) d cx.lk)
end GY
section GZ
variable {t : gT} {R : Room} {X : gX} {nL k n : Nat} {M : gM} {lv : List (Nat × Value)} {st : List Value} {pc : Nat} {cc : ByteArray} {own : String} {ret : Option FieldType}
theorem g_xout (cx : g_Cx t X cc nL own ret) {Qc : Array Value → State → Outcome → State → Prop} {KX : Nat → gM → Prop} {mc ms : Nat} (hQ : gXQ X = vx_MQ (gXb X) Qc (g_XC t KX) (gXa X) (gXs X) mc ms (g_A t)) (hx : ∀ x ∈ (gXc X).exceptionTable.toList, False) {E : String} {ce : Cell} {q : Addr} {H : Heap} {locs : List Loc} {ls : Array Slot} {u : Nat × gM} {tt : State} (ht : tt.heap = H) (hvm : (gXs X).vm.Alike tt.vm) (hp : KX u.1 u.2) (hB : E = g_eN u.1 ∧ u.1 < 3 ∧ g_B t u.2 tt) (hS : va_S (g_A t) (gXs X).heap H locs) (hce : H[q]? = some ce) (hcv : ce.vm = .none) (hcl : (gXs X).vm.findClass E = some ce.cls) (h1 : k ≤ mc) (h2 : n ≤ ms) :
    vx_W (gXp X) (gXl X) (gXe X) R (gXs X) (gXm X) (gXa X) (gXb X) (gXt X) (gXc X) H locs k n (gXQ X) (F0 (gXm X) pc ls st) q := by
  rw [hQ]
  refine vx_out (E := E) (fun x h => (hx x h).elim) cx.lk hce hcv hcl (fun tv hv ha => ⟨u, hp, ⟨hB.1, hB.2.1, ?_⟩, ?_⟩) (fun z hz => hS.2.2 z hz) h1 h2
  · show g_H t u.2 tv tv.heap
    rw [hv]
    exact ⟨by rw [← ht]; exact hB.2.2.1, hB.2.2.2.1, (cx.SH hS).moved ha⟩
  · exact ⟨by rw [hv]; exact hS.1, fun q h1 h2 => by rw [hv]; exact hS.2.1 q h1 h2⟩
theorem gg_xcallVi (cx : g_Cx t X cc nL own ret) {y : MethodName} {bytes : ByteArray} {maxL nA ix κ o ci N mc ms : Nat} {rt : Option FieldType} {rm : Room} {As st0 : List Value} {T : u_T} {fs : List Value} {K : Int32 → gM → Prop} {KX : Nat → gM → Prop} {Qc : Array Value → State → Outcome → State → Prop} (hy : g_Cal y bytes maxL rt nA) (hv : g_CalV y) (hM : vx_Met (gXl X) y (g_y y bytes maxL rt) rm (va_Pc (.ref (gAd t κ o) :: As) (g_Pre t M)) (va_Qi K (g_B t) (g_A t)) (g_XC t KX) rm.cells rm.slots (g_A t))
    (hl : Cond.methodLink own ix y ∈ WL) (hk : (κ, o) ∈ gKs t) (hc : g_cell t κ o (M.1 κ o) (M.2 κ o) = .inr (ci, fs)) (hcl : vwCl[ci]? = some (y.cls, T, N)) (hn : As.length = nA) (hst : st0 = As.reverse ++ .ref (gAd t κ o) :: st) (hsm : (st.map fun v => v.category).sum ≤ 8) (hR : rm.frames + 1 ≤ R.frames ∧ 8 + (maxL + 11) + rm.locals ≤ R.locals) (hf : k + rm.cells ≤ R.cells ∧ n + rm.slots ≤ R.slots) (d : decode cc pc = .ok (.invokevirtual ix, 3))
    (hQ : gXQ X = vx_MQ (gXb X) Qc (g_XC t KX) (gXa X) (gXs X) mc ms (g_A t)) (hx : ∀ x ∈ (gXc X).exceptionTable.toList, False) (hcs : k + rm.cells ≤ mc ∧ n + rm.slots ≤ ms)
    (kk : ∀ (r : Int32) (M' : gM), K r M' → G t R X nL (k + rm.cells) (n + rm.slots) M' lv (.int r :: st) (pc + 3)) : G t R X nL k n M lv st0 pc := fun H locs ls a b c => by
  subst hst
  have hrun := vx_runV (H := H) (locs := locs) (cells := k) (slots := n) (e := gXe X) (below := gXb X) (meth := gXt X) (As := As) (rest := st) (g := F0 (gXm X) pc ls (As.reverse ++ .ref (gAd t κ o) :: st)) ⟨cx.x, cx.b, cx.ml, cx.ow, cx.ts⟩ hM (g_cwV cx.ts hy hv hl hR) (g_preV cx a hk hc hcl) rfl hn c.1 rfl (lv_room hsm) d hf
  refine vx_calli hrun b (fun _ _ h => h) (fun _ h => h) (fun _ _ h => h) (fun E ce q9 u tt H1 locs1 ht hvm hp hB hz1 hk1 hS hce hcv hcl => g_xout cx hQ hx ht hvm hp hB hS hce hcv hcl hcs.1 hcs.2) (fun r u tt H1 locs1 ht hvm hp hB hz1 hk1 hS => ?_)
  exact kk r u hp H1 locs1 ls ⟨by rw [← ht]; exact hB.1, hB.2.1, cx.SH hS⟩ hS c
theorem gg_xcallSi (cx : g_Cx t X cc nL own ret) {y : MethodName} {bytes : ByteArray} {maxL nA ix mc ms : Nat} {rt : Option FieldType} {rm : Room} {As st0 : List Value} {K : Int32 → gM → Prop} {KX : Nat → gM → Prop} {Qc : Array Value → State → Outcome → State → Prop} (hy : g_Cal y bytes maxL rt nA) (hv : Cond.static y ∈ WL) (hM : vx_Met (gXl X) y (g_y y bytes maxL rt) rm (va_Pc As (g_Pre t M)) (va_Qi K (g_B t) (g_A t)) (g_XC t KX) rm.cells rm.slots (g_A t))
    (hl : Cond.methodLink own ix y ∈ WL) (hn : As.length = nA) (hst : st0 = As.reverse ++ st) (hsm : (st.map fun v => v.category).sum ≤ 8) (hR : rm.frames + 1 ≤ R.frames ∧ 8 + (maxL + 11) + rm.locals ≤ R.locals) (hf : k + rm.cells ≤ R.cells ∧ n + rm.slots ≤ R.slots) (d : decode cc pc = .ok (.invokestatic ix, 3))
    (hQ : gXQ X = vx_MQ (gXb X) Qc (g_XC t KX) (gXa X) (gXs X) mc ms (g_A t)) (hx : ∀ x ∈ (gXc X).exceptionTable.toList, False) (hcs : k + rm.cells ≤ mc ∧ n + rm.slots ≤ ms)
    (kk : ∀ (r : Int32) (M' : gM), K r M' → G t R X nL (k + rm.cells) (n + rm.slots) M' lv (.int r :: st) (pc + 3)) : G t R X nL k n M lv st0 pc := fun H locs ls a b c => by
  subst hst
  have hrun := vx_runS (H := H) (locs := locs) (cells := k) (slots := n) (e := gXe X) (below := gXb X) (meth := gXt X) (As := As) (rest := st) (g := F0 (gXm X) pc ls (As.reverse ++ st)) ⟨cx.x, cx.b, cx.ml, cx.ow, cx.ts⟩ hM (g_cwS cx.ts hy hv hl hR) (g_preS cx a) rfl hn c.1 rfl (lv_room hsm) d hf
  refine vx_calli hrun b (fun _ _ h => h) (fun _ h => h) (fun _ _ h => h) (fun E ce q9 u tt H1 locs1 ht hvm hp hB hz1 hk1 hS hce hcv hcl => g_xout cx hQ hx ht hvm hp hB hS hce hcv hcl hcs.1 hcs.2) (fun r u tt H1 locs1 ht hvm hp hB hz1 hk1 hS => ?_)
  exact kk r u hp H1 locs1 ls ⟨by rw [← ht]; exact hB.1, hB.2.1, cx.SH hS⟩ hS c
theorem gg_xcallVl (cx : g_Cx t X cc nL own ret) {y : MethodName} {bytes : ByteArray} {maxL nA ix κ o ci N mc ms : Nat} {rt : Option FieldType} {rm : Room} {As st0 : List Value} {T : u_T} {fs : List Value} {K : Int64 → gM → Prop} {KX : Nat → gM → Prop} {Qc : Array Value → State → Outcome → State → Prop} (hy : g_Cal y bytes maxL rt nA) (hv : g_CalV y) (hM : vx_Met (gXl X) y (g_y y bytes maxL rt) rm (va_Pc (.ref (gAd t κ o) :: As) (g_Pre t M)) (va_Ql K (g_B t) (g_A t)) (g_XC t KX) rm.cells rm.slots (g_A t))
    (hl : Cond.methodLink own ix y ∈ WL) (hk : (κ, o) ∈ gKs t) (hc : g_cell t κ o (M.1 κ o) (M.2 κ o) = .inr (ci, fs)) (hcl : vwCl[ci]? = some (y.cls, T, N)) (hn : As.length = nA) (hst : st0 = As.reverse ++ .ref (gAd t κ o) :: st) (hsm : (st.map fun v => v.category).sum ≤ 8) (hR : rm.frames + 1 ≤ R.frames ∧ 8 + (maxL + 11) + rm.locals ≤ R.locals) (hf : k + rm.cells ≤ R.cells ∧ n + rm.slots ≤ R.slots) (d : decode cc pc = .ok (.invokevirtual ix, 3))
    (hQ : gXQ X = vx_MQ (gXb X) Qc (g_XC t KX) (gXa X) (gXs X) mc ms (g_A t)) (hx : ∀ x ∈ (gXc X).exceptionTable.toList, False) (hcs : k + rm.cells ≤ mc ∧ n + rm.slots ≤ ms)
    (kk : ∀ (r : Int64) (M' : gM), K r M' → G t R X nL (k + rm.cells) (n + rm.slots) M' lv (.long r :: st) (pc + 3)) : G t R X nL k n M lv st0 pc := fun H locs ls a b c => by
  subst hst
  have hrun := vx_runV (H := H) (locs := locs) (cells := k) (slots := n) (e := gXe X) (below := gXb X) (meth := gXt X) (As := As) (rest := st) (g := F0 (gXm X) pc ls (As.reverse ++ .ref (gAd t κ o) :: st)) ⟨cx.x, cx.b, cx.ml, cx.ow, cx.ts⟩ hM (g_cwV cx.ts hy hv hl hR) (g_preV cx a hk hc hcl) rfl hn c.1 rfl (lv_room hsm) d hf
  refine vx_calll hrun b (fun _ _ h => h) (fun _ h => h) (fun _ _ h => h) (fun E ce q9 u tt H1 locs1 ht hvm hp hB hz1 hk1 hS hce hcv hcl => g_xout cx hQ hx ht hvm hp hB hS hce hcv hcl hcs.1 hcs.2) (fun r u tt H1 locs1 ht hvm hp hB hz1 hk1 hS => ?_)
  exact kk r u hp H1 locs1 ls ⟨by rw [← ht]; exact hB.1, hB.2.1, cx.SH hS⟩ hS c
theorem gg_xcallSl (cx : g_Cx t X cc nL own ret) {y : MethodName} {bytes : ByteArray} {maxL nA ix mc ms : Nat} {rt : Option FieldType} {rm : Room} {As st0 : List Value} {K : Int64 → gM → Prop} {KX : Nat → gM → Prop} {Qc : Array Value → State → Outcome → State → Prop} (hy : g_Cal y bytes maxL rt nA) (hv : Cond.static y ∈ WL) (hM : vx_Met (gXl X) y (g_y y bytes maxL rt) rm (va_Pc As (g_Pre t M)) (va_Ql K (g_B t) (g_A t)) (g_XC t KX) rm.cells rm.slots (g_A t))
    (hl : Cond.methodLink own ix y ∈ WL) (hn : As.length = nA) (hst : st0 = As.reverse ++ st) (hsm : (st.map fun v => v.category).sum ≤ 8) (hR : rm.frames + 1 ≤ R.frames ∧ 8 + (maxL + 11) + rm.locals ≤ R.locals) (hf : k + rm.cells ≤ R.cells ∧ n + rm.slots ≤ R.slots) (d : decode cc pc = .ok (.invokestatic ix, 3))
    (hQ : gXQ X = vx_MQ (gXb X) Qc (g_XC t KX) (gXa X) (gXs X) mc ms (g_A t)) (hx : ∀ x ∈ (gXc X).exceptionTable.toList, False) (hcs : k + rm.cells ≤ mc ∧ n + rm.slots ≤ ms)
    (kk : ∀ (r : Int64) (M' : gM), K r M' → G t R X nL (k + rm.cells) (n + rm.slots) M' lv (.long r :: st) (pc + 3)) : G t R X nL k n M lv st0 pc := fun H locs ls a b c => by
  subst hst
  have hrun := vx_runS (H := H) (locs := locs) (cells := k) (slots := n) (e := gXe X) (below := gXb X) (meth := gXt X) (As := As) (rest := st) (g := F0 (gXm X) pc ls (As.reverse ++ st)) ⟨cx.x, cx.b, cx.ml, cx.ow, cx.ts⟩ hM (g_cwS cx.ts hy hv hl hR) (g_preS cx a) rfl hn c.1 rfl (lv_room hsm) d hf
  refine vx_calll hrun b (fun _ _ h => h) (fun _ h => h) (fun _ _ h => h) (fun E ce q9 u tt H1 locs1 ht hvm hp hB hz1 hk1 hS hce hcv hcl => g_xout cx hQ hx ht hvm hp hB hS hce hcv hcl hcs.1 hcs.2) (fun r u tt H1 locs1 ht hvm hp hB hz1 hk1 hS => ?_)
  exact kk r u hp H1 locs1 ls ⟨by rw [← ht]; exact hB.1, hB.2.1, cx.SH hS⟩ hS c
theorem gg_xcallVv (cx : g_Cx t X cc nL own ret) {y : MethodName} {bytes : ByteArray} {maxL nA ix κ o ci N mc ms : Nat} {rt : Option FieldType} {rm : Room} {As st0 : List Value} {T : u_T} {fs : List Value} {K : gM → Prop} {KX : Nat → gM → Prop} {Qc : Array Value → State → Outcome → State → Prop} (hy : g_Cal y bytes maxL rt nA) (hv : g_CalV y) (hM : vx_Met (gXl X) y (g_y y bytes maxL rt) rm (va_Pc (.ref (gAd t κ o) :: As) (g_Pre t M)) (va_Qv K (g_B t) (g_A t)) (g_XC t KX) rm.cells rm.slots (g_A t))
    (hl : Cond.methodLink own ix y ∈ WL) (hk : (κ, o) ∈ gKs t) (hc : g_cell t κ o (M.1 κ o) (M.2 κ o) = .inr (ci, fs)) (hcl : vwCl[ci]? = some (y.cls, T, N)) (hn : As.length = nA) (hst : st0 = As.reverse ++ .ref (gAd t κ o) :: st) (hsm : (st.map fun v => v.category).sum ≤ 8) (hR : rm.frames + 1 ≤ R.frames ∧ 8 + (maxL + 11) + rm.locals ≤ R.locals) (hf : k + rm.cells ≤ R.cells ∧ n + rm.slots ≤ R.slots) (d : decode cc pc = .ok (.invokevirtual ix, 3))
    (hQ : gXQ X = vx_MQ (gXb X) Qc (g_XC t KX) (gXa X) (gXs X) mc ms (g_A t)) (hx : ∀ x ∈ (gXc X).exceptionTable.toList, False) (hcs : k + rm.cells ≤ mc ∧ n + rm.slots ≤ ms)
    (kk : ∀ (M' : gM), K M' → G t R X nL (k + rm.cells) (n + rm.slots) M' lv st (pc + 3)) : G t R X nL k n M lv st0 pc := fun H locs ls a b c => by
  subst hst
  have hrun := vx_runV (H := H) (locs := locs) (cells := k) (slots := n) (e := gXe X) (below := gXb X) (meth := gXt X) (As := As) (rest := st) (g := F0 (gXm X) pc ls (As.reverse ++ .ref (gAd t κ o) :: st)) ⟨cx.x, cx.b, cx.ml, cx.ow, cx.ts⟩ hM (g_cwV cx.ts hy hv hl hR) (g_preV cx a hk hc hcl) rfl hn c.1 rfl (lv_room hsm) d hf
  refine vx_callv hrun b (fun _ _ h => h) (fun _ h => h) (fun _ _ h => h) (fun E ce q9 u tt H1 locs1 ht hvm hp hB hz1 hk1 hS hce hcv hcl => g_xout cx hQ hx ht hvm hp hB hS hce hcv hcl hcs.1 hcs.2) (fun u tt H1 locs1 ht hvm hp hB hz1 hk1 hS => ?_)
  exact kk u hp H1 locs1 ls ⟨by rw [← ht]; exact hB.1, hB.2.1, cx.SH hS⟩ hS c
theorem gg_xcallSv (cx : g_Cx t X cc nL own ret) {y : MethodName} {bytes : ByteArray} {maxL nA ix mc ms : Nat} {rt : Option FieldType} {rm : Room} {As st0 : List Value} {K : gM → Prop} {KX : Nat → gM → Prop} {Qc : Array Value → State → Outcome → State → Prop} (hy : g_Cal y bytes maxL rt nA) (hv : Cond.static y ∈ WL) (hM : vx_Met (gXl X) y (g_y y bytes maxL rt) rm (va_Pc As (g_Pre t M)) (va_Qv K (g_B t) (g_A t)) (g_XC t KX) rm.cells rm.slots (g_A t))
    (hl : Cond.methodLink own ix y ∈ WL) (hn : As.length = nA) (hst : st0 = As.reverse ++ st) (hsm : (st.map fun v => v.category).sum ≤ 8) (hR : rm.frames + 1 ≤ R.frames ∧ 8 + (maxL + 11) + rm.locals ≤ R.locals) (hf : k + rm.cells ≤ R.cells ∧ n + rm.slots ≤ R.slots) (d : decode cc pc = .ok (.invokestatic ix, 3))
    (hQ : gXQ X = vx_MQ (gXb X) Qc (g_XC t KX) (gXa X) (gXs X) mc ms (g_A t)) (hx : ∀ x ∈ (gXc X).exceptionTable.toList, False) (hcs : k + rm.cells ≤ mc ∧ n + rm.slots ≤ ms)
    (kk : ∀ (M' : gM), K M' → G t R X nL (k + rm.cells) (n + rm.slots) M' lv st (pc + 3)) : G t R X nL k n M lv st0 pc := fun H locs ls a b c => by
  subst hst
  have hrun := vx_runS (H := H) (locs := locs) (cells := k) (slots := n) (e := gXe X) (below := gXb X) (meth := gXt X) (As := As) (rest := st) (g := F0 (gXm X) pc ls (As.reverse ++ st)) ⟨cx.x, cx.b, cx.ml, cx.ow, cx.ts⟩ hM (g_cwS cx.ts hy hv hl hR) (g_preS cx a) rfl hn c.1 rfl (lv_room hsm) d hf
  refine vx_callv hrun b (fun _ _ h => h) (fun _ h => h) (fun _ _ h => h) (fun E ce q9 u tt H1 locs1 ht hvm hp hB hz1 hk1 hS hce hcv hcl => g_xout cx hQ hx ht hvm hp hB hS hce hcv hcl hcs.1 hcs.2) (fun u tt H1 locs1 ht hvm hp hB hz1 hk1 hS => ?_)
  exact kk u hp H1 locs1 ls ⟨by rw [← ht]; exact hB.1, hB.2.1, cx.SH hS⟩ hS c
/-- the words of 'throw new E("..")' in the class -/
def g_Thr (ic e : Nat) : Prop := Bundle.fit (g_eN e) = true ∧ Cond.initialized (g_eN e) ∈ WL ∧ (∀ w ∈ (vx_atS RX8 ic (g_eN e) ["java/lang/RuntimeException", "java/lang/Exception"]).filter goodWord, w ∈ WL) ∧ (∀ w ∈ (vx_atS RX8 ic (g_eN e) ["java/lang/RuntimeException", "java/lang/Exception"]).filter (fun w => !goodWord w), w ∈ g_nw) ∧ (∀ w ∈ Cond.initialized (g_eN e) :: vx_atS RX8 ic (g_eN e) ["java/lang/RuntimeException", "java/lang/Exception"], vx_ot w = true) ∧ e < 3
theorem gg_throw (cx : g_Cx t X cc nL RX8 ret) {Qc : Array Value → State → Outcome → State → Prop} {KX : Nat → gM → Prop} {mc ms : Nat} (hQ : gXQ X = vx_MQ (gXb X) Qc (g_XC t KX) (gXa X) (gXs X) mc ms (g_A t)) (hx : ∀ x ∈ (gXc X).exceptionTable.toList, False) {e ik is ic i : Nat} {tx : String} (hw : g_Thr ic e) (hk : Cond.classLink RX8 ik (g_eN e) ∈ WL) (hstr : vk_R RX8 is tx (gSK t i) (gXs X))
    (hR1 : 5 < R.frames) (hR2 : (st.map fun v => v.category).sum + 82 ≤ R.locals) (hc : k + 1 ≤ R.cells ∧ n + 6 ≤ R.slots) (hm : k + 1 ≤ mc ∧ n + 6 ≤ ms)
    (d0 : decode cc pc = .ok (.new ik, 3)) (d3 : decode cc (pc + 3) = .ok (.dup, 1)) (d4 : decode cc (pc + 4) = .ok (.ldc is, 2)) (d6 : decode cc (pc + 6) = .ok (.invokespecial ic, 3)) (d9 : decode cc (pc + 9) = .ok (.athrow, 1)) (h : KX e M) : G t R X nL k n M lv st pc := fun H locs ls a b c => by
  rw [hQ]
  refine vx_throwS (A := g_A t) (names := ["java/lang/RuntimeException", "java/lang/Exception"]) cx.x cx.b cx.tr cx.ow hw.1 (by decide) (cx.ts _ hk) (cx.ts _ hw.2.1) hstr (vx_hat (fun w q => cx.ts w (hw.2.2.1 w q)) hw.2.2.2.1 (fun w q => va_Nw.use (g_nw_tab w q) (cx.T.2.2.1 w q))) ?_ cx.S.2.2.1 cx.S.2.2.2.1 b (c.1.trans cx.ml.symm) d0 d3 d4 d6 d9 (fun x q => (hx x q).elim) hR1 hR2 hc.1 hc.2 cx.lk (fun tv ha hz hq => ⟨(e, M), h, ⟨rfl, hw.2.2.2.2.2, ?_⟩, ?_⟩) (fun z hz => b.2.2 z hz) hm.1 hm.2
  · intro w hw'
    rcases List.mem_cons.mp hw' with q | q
    · rw [q]; rfl
    · exact hw.2.2.2.2.1 w q
  · show g_H t M tv tv.heap
    refine ⟨a.1.kept (fun j x hj => hq _ (vx_lt a.1 hj)), a.2.1, ?_⟩
    exact ((cx.SH b).kept hz (fun q h1 _ => hq q h1)).moved ha
  · exact ⟨Nat.le_trans b.1 hz, fun q h1 h2 => (hq q (Nat.lt_of_lt_of_le h1 b.1)).trans (b.2.1 q h1 h2)⟩
theorem gg_throwW (cx : g_Cx t X cc nL RX8 ret) {Qc : Array Value → State → Outcome → State → Prop} {KX : Nat → gM → Prop} {mc ms : Nat} (hQ : gXQ X = vx_MQ (gXb X) Qc (g_XC t KX) (gXa X) (gXs X) mc ms (g_A t)) (hx : ∀ x ∈ (gXc X).exceptionTable.toList, False) {e ik is ic i : Nat} {tx : String} (hw : g_Thr ic e) (hk : Cond.classLink RX8 ik (g_eN e) ∈ WL) (hstr : vk_R RX8 is tx (gSK t i) (gXs X))
    (hR1 : 5 < R.frames) (hR2 : (st.map fun v => v.category).sum + 82 ≤ R.locals) (hc : k + 1 ≤ R.cells ∧ n + 6 ≤ R.slots) (hm : k + 1 ≤ mc ∧ n + 6 ≤ ms)
    (d0 : decode cc pc = .ok (.new ik, 3)) (d3 : decode cc (pc + 3) = .ok (.dup, 1)) (d4 : decode cc (pc + 4) = .ok (.ldc_w is, 3)) (d6 : decode cc (pc + 7) = .ok (.invokespecial ic, 3)) (d9 : decode cc (pc + 10) = .ok (.athrow, 1)) (h : KX e M) : G t R X nL k n M lv st pc := fun H locs ls a b c => by
  rw [hQ]
  refine vx_throwSW (A := g_A t) (names := ["java/lang/RuntimeException", "java/lang/Exception"]) cx.x cx.b cx.tr cx.ow hw.1 (by decide) (cx.ts _ hk) (cx.ts _ hw.2.1) hstr (vx_hat (fun w q => cx.ts w (hw.2.2.1 w q)) hw.2.2.2.1 (fun w q => va_Nw.use (g_nw_tab w q) (cx.T.2.2.1 w q))) ?_ cx.S.2.2.1 cx.S.2.2.2.1 b (c.1.trans cx.ml.symm) d0 d3 d4 d6 d9 (fun x q => (hx x q).elim) hR1 hR2 hc.1 hc.2 cx.lk (fun tv ha hz hq => ⟨(e, M), h, ⟨rfl, hw.2.2.2.2.2, ?_⟩, ?_⟩) (fun z hz => b.2.2 z hz) hm.1 hm.2
  · intro w hw'
    rcases List.mem_cons.mp hw' with q | q
    · rw [q]; rfl
    · exact hw.2.2.2.2.1 w q
  · show g_H t M tv tv.heap
    refine ⟨a.1.kept (fun j x hj => hq _ (vx_lt a.1 hj)), a.2.1, ?_⟩
    exact ((cx.SH b).kept hz (fun q h1 _ => hq q h1)).moved ha
  · exact ⟨Nat.le_trans b.1 hz, fun q h1 h2 => (hq q (Nat.lt_of_lt_of_le h1 b.1)).trans (b.2.1 q h1 h2)⟩
end GZ
/-- a contract of a method that may throw, out of the walk of its body -/
theorem g_xmet {l : Launch} (hl : l.stackTraces = false) {t : gT} {y : MethodName} {bytes : ByteArray} {maxL : Nat} {rt : Option FieldType} {rm : Room} {av : List Value} {M : gM} {Qc : Array Value → State → Outcome → State → Prop} {KX : Nat → gM → Prop} (hy : plainName y.cls = true) (hsz : (lg_sl av).length ≤ maxL)
    (body : ∀ X : gX, gXl X = l → g_Cx t X bytes maxL y.cls rt → (∀ x ∈ (gXc X).exceptionTable.toList, False) → gXQ X = vx_MQ (gXb X) Qc (g_XC t KX) (gXa X) (gXs X) rm.cells rm.slots (g_A t) → G t rm X maxL 0 0 M (lv_args 0 av) [] 0) : vx_Met l y (g_y y bytes maxL rt) rm (va_Pc av (g_Pre t M)) Qc (g_XC t KX) rm.cells rm.slots (g_A t) := by
  refine vx_ofW (cc := bytes) (maxL := maxL) (ret := rt) hy rfl ?_
  intro p e s m args below meth c s₁ B hml htab hv
  obtain ⟨rfl, hT, hH⟩ := hv
  have hts := atoms_spec (ws := g_y y bytes maxL rt) B.pre
  have hl0 := lv_entry av (n := maxL) hsz
  rw [lg_entry_eq]
  exact body (p, l, e, s, m, av.toArray, below, meth, c, vx_MQ below Qc (g_XC t KX) av.toArray s rm.cells rm.slots (g_A t)) rfl ⟨B.exec, B.bytes, hml, findClass_of_methodNamed B.named, fun w hw => hts w (List.mem_cons_of_mem _ hw), hT, hH.2.2, B.returns, B.notSynchronized, hl⟩ htab rfl s.heap [] _ hH va_S.rf hl0
section GH
variable {t : gT} {R : Room} {X : gX} {nL k n : Nat} {M : gM} {lv : List (Nat × Value)} {st : List Value} {pc : Nat} {cc : ByteArray} {own : String} {ret : Option FieldType}
/-- which row of the table takes what was thrown -/
def g_Take (own : String) (hh : List (Nat × Nat × Nat × Nat)) (pc e tgt : Nat) : Prop := ∃ (pre : List ExceptionTableEntry) (x : ExceptionTableEntry) (suf : List ExceptionTableEntry), tableOf hh = pre ++ x :: suf ∧ (∀ z ∈ pre, z.catchType ≠ 0 ∧ ∃ f : Nat, f < 3 ∧ e ≠ f ∧ Cond.classLink own z.catchType (g_eN f) ∈ WL) ∧ covers x pc = true ∧ x.catchType ≠ 0 ∧ Cond.classLink own x.catchType (g_eN e) ∈ WL ∧ x.handlerPc = tgt
theorem g_castIn : ∀ e : Nat, e < 3 → Cond.castable (g_eN e) (g_eN e) ∈ g_nw := fun e he => by
  rcases (show e = 0 ∨ e = 1 ∨ e = 2 by omega) with rfl | rfl | rfl <;> decide +kernel
theorem gg_hcallVi (cx : g_Cx t X cc nL own ret) {y : MethodName} {bytes : ByteArray} {maxL nA ix κ o ci N : Nat} {rt : Option FieldType} {rm : Room} {As st0 : List Value} {T : u_T} {fs : List Value} {K : Int32 → gM → Prop} {KX : Nat → gM → Prop} {hh : List (Nat × Nat × Nat × Nat)} (hy : g_Cal y bytes maxL rt nA) (hv : g_CalV y) (hM : vx_Met (gXl X) y (g_y y bytes maxL rt) rm (va_Pc (.ref (gAd t κ o) :: As) (g_Pre t M)) (va_Qi K (g_B t) (g_A t)) (g_XC t KX) rm.cells rm.slots (g_A t))
    (hl : Cond.methodLink own ix y ∈ WL) (hk : (κ, o) ∈ gKs t) (hc : g_cell t κ o (M.1 κ o) (M.2 κ o) = .inr (ci, fs)) (hcl : vwCl[ci]? = some (y.cls, T, N)) (hn : As.length = nA) (hst : st0 = As.reverse ++ .ref (gAd t κ o) :: st) (hsm : (st.map fun v => v.category).sum ≤ 8) (hR : rm.frames + 1 ≤ R.frames ∧ 8 + (maxL + 11) + rm.locals ≤ R.locals) (hf : k + rm.cells ≤ R.cells ∧ n + rm.slots ≤ R.slots) (d : decode cc pc = .ok (.invokevirtual ix, 3))
    (hx : (gXc X).exceptionTable.toList = tableOf hh)
    (kx : ∀ (e : Nat) (M' : gM) (q : Nat), e < 3 → KX e M' → ∃ tgt : Nat, g_Take own hh pc e tgt ∧ G t R X nL (k + rm.cells) (n + rm.slots) M' lv [.ref q] tgt)
    (kk : ∀ (r : Int32) (M' : gM), K r M' → G t R X nL (k + rm.cells) (n + rm.slots) M' lv (.int r :: st) (pc + 3)) : G t R X nL k n M lv st0 pc := fun H locs ls a b c => by
  subst hst
  have hrun := vx_runV (H := H) (locs := locs) (cells := k) (slots := n) (e := gXe X) (below := gXb X) (meth := gXt X) (As := As) (rest := st) (g := F0 (gXm X) pc ls (As.reverse ++ .ref (gAd t κ o) :: st)) ⟨cx.x, cx.b, cx.ml, cx.ow, cx.ts⟩ hM (g_cwV cx.ts hy hv hl hR) (g_preV cx a hk hc hcl) rfl hn c.1 rfl (lv_room hsm) d hf
  refine vx_calli hrun b (fun _ _ h => h) (fun _ h => h) (fun _ _ h => h) (fun E ce q9 u tt H1 locs1 ht hvm hp hB hz1 hk1 hS hce hcv hcl => ?_) (fun r u tt H1 locs1 ht hvm hp hB hz1 hk1 hS => ?_)
  · obtain ⟨tgt, ⟨pre, x, suf, h1, h2, h3, h4, h5, h6⟩, hG⟩ := kx u.1 u.2 q9 hB.2.1 hp
    refine vx_catch (E := E) (name := g_eN u.1) cx.ow pre x suf (hx.trans h1) (fun z hz => Or.inr ?_) h3 h4 (cx.ts _ h5) (by rw [hB.1]; exact va_Nw.use (g_nw_tab _ (g_castIn _ hB.2.1)) (cx.T.2.2.1 _ (g_castIn _ hB.2.1))) hce hcv hcl ?_
    · obtain ⟨z1, f, z2, z3, z4⟩ := h2 z hz
      exact ⟨z1, g_eN f, cx.ts _ z4, by rw [hB.1]; exact cx.T.2.2.2.1 _ _ hB.2.1 z2 z3⟩
    · rw [h6]
      exact hG H1 locs1 ls ⟨by rw [← ht]; exact hB.2.2.1, hB.2.2.2.1, cx.SH hS⟩ hS c
  · exact kk r u hp H1 locs1 ls ⟨by rw [← ht]; exact hB.1, hB.2.1, cx.SH hS⟩ hS c
theorem gg_hcallVl (cx : g_Cx t X cc nL own ret) {y : MethodName} {bytes : ByteArray} {maxL nA ix κ o ci N : Nat} {rt : Option FieldType} {rm : Room} {As st0 : List Value} {T : u_T} {fs : List Value} {K : Int64 → gM → Prop} {KX : Nat → gM → Prop} {hh : List (Nat × Nat × Nat × Nat)} (hy : g_Cal y bytes maxL rt nA) (hv : g_CalV y) (hM : vx_Met (gXl X) y (g_y y bytes maxL rt) rm (va_Pc (.ref (gAd t κ o) :: As) (g_Pre t M)) (va_Ql K (g_B t) (g_A t)) (g_XC t KX) rm.cells rm.slots (g_A t))
    (hl : Cond.methodLink own ix y ∈ WL) (hk : (κ, o) ∈ gKs t) (hc : g_cell t κ o (M.1 κ o) (M.2 κ o) = .inr (ci, fs)) (hcl : vwCl[ci]? = some (y.cls, T, N)) (hn : As.length = nA) (hst : st0 = As.reverse ++ .ref (gAd t κ o) :: st) (hsm : (st.map fun v => v.category).sum ≤ 8) (hR : rm.frames + 1 ≤ R.frames ∧ 8 + (maxL + 11) + rm.locals ≤ R.locals) (hf : k + rm.cells ≤ R.cells ∧ n + rm.slots ≤ R.slots) (d : decode cc pc = .ok (.invokevirtual ix, 3))
    (hx : (gXc X).exceptionTable.toList = tableOf hh)
    (kx : ∀ (e : Nat) (M' : gM) (q : Nat), e < 3 → KX e M' → ∃ tgt : Nat, g_Take own hh pc e tgt ∧ G t R X nL (k + rm.cells) (n + rm.slots) M' lv [.ref q] tgt)
    (kk : ∀ (r : Int64) (M' : gM), K r M' → G t R X nL (k + rm.cells) (n + rm.slots) M' lv (.long r :: st) (pc + 3)) : G t R X nL k n M lv st0 pc := fun H locs ls a b c => by
  subst hst
  have hrun := vx_runV (H := H) (locs := locs) (cells := k) (slots := n) (e := gXe X) (below := gXb X) (meth := gXt X) (As := As) (rest := st) (g := F0 (gXm X) pc ls (As.reverse ++ .ref (gAd t κ o) :: st)) ⟨cx.x, cx.b, cx.ml, cx.ow, cx.ts⟩ hM (g_cwV cx.ts hy hv hl hR) (g_preV cx a hk hc hcl) rfl hn c.1 rfl (lv_room hsm) d hf
  refine vx_calll hrun b (fun _ _ h => h) (fun _ h => h) (fun _ _ h => h) (fun E ce q9 u tt H1 locs1 ht hvm hp hB hz1 hk1 hS hce hcv hcl => ?_) (fun r u tt H1 locs1 ht hvm hp hB hz1 hk1 hS => ?_)
  · obtain ⟨tgt, ⟨pre, x, suf, h1, h2, h3, h4, h5, h6⟩, hG⟩ := kx u.1 u.2 q9 hB.2.1 hp
    refine vx_catch (E := E) (name := g_eN u.1) cx.ow pre x suf (hx.trans h1) (fun z hz => Or.inr ?_) h3 h4 (cx.ts _ h5) (by rw [hB.1]; exact va_Nw.use (g_nw_tab _ (g_castIn _ hB.2.1)) (cx.T.2.2.1 _ (g_castIn _ hB.2.1))) hce hcv hcl ?_
    · obtain ⟨z1, f, z2, z3, z4⟩ := h2 z hz
      exact ⟨z1, g_eN f, cx.ts _ z4, by rw [hB.1]; exact cx.T.2.2.2.1 _ _ hB.2.1 z2 z3⟩
    · rw [h6]
      exact hG H1 locs1 ls ⟨by rw [← ht]; exact hB.2.2.1, hB.2.2.2.1, cx.SH hS⟩ hS c
  · exact kk r u hp H1 locs1 ls ⟨by rw [← ht]; exact hB.1, hB.2.1, cx.SH hS⟩ hS c
abbrev g_yW (y : MethodName) (bytes : ByteArray) (maxL : Nat) (rt : Option FieldType) (hh : List (Nat × Nat × Nat × Nat)) : List Cond := Cond.codeWith y bytes maxL rt hh :: WL
def g_CalW (y : MethodName) (bytes : ByteArray) (maxL : Nat) (rt : Option FieldType) (hh : List (Nat × Nat × Nat × Nat)) (nA : Nat) : Prop := Cond.initialized y.cls ∈ WL ∧ Cond.codeWith y bytes maxL rt hh ∈ WL ∧ y.cls ≠ "java/lang/invoke/MethodHandle" ∧ y.cls ≠ "java/lang/invoke/VarHandle" ∧ (parseMethodDescriptor y.desc).map (fun d => d.parameters.length) = some nA
theorem g_cwSW {s : State} {args : Array Value} (hts : ∀ w ∈ WL, w.before args s = true) {y : MethodName} {bytes : ByteArray} {maxL nA ix : Nat} {rt : Option FieldType} {hh : List (Nat × Nat × Nat × Nat)} {rm : Room} (h : g_CalW y bytes maxL rt hh nA) (hv : Cond.static y ∈ WL) (hl : Cond.methodLink own ix y ∈ WL) (hR : rm.frames + 1 ≤ R.frames ∧ 8 + (maxL + 11) + rm.locals ≤ R.locals) :
    vx_CSW R s args own ix y bytes maxL rt hh (g_yW y bytes maxL rt hh) rm rm.cells rm.slots nA :=
  vx_cwSW nA hts (WL_good (fun _ q => q) (fun w hw => by
    unfold va_wsS at hw
    rcases List.mem_append.mp hw with e | e
    · simp only [List.mem_cons, List.not_mem_nil, or_false] at e
      rcases e with e | e | e
      · rw [e]; exact hl
      · rw [e]; exact hv
      · rw [e]; exact h.1
    · rcases List.mem_cons.mp e with e | e
      · rw [e]; exact h.2.1
      · exact e)) rfl rfl rfl h.2.2 hR
theorem gg_callSWi (cx : g_Cx t X cc nL own ret) {y : MethodName} {bytes : ByteArray} {maxL nA ix : Nat} {rt : Option FieldType} {hh : List (Nat × Nat × Nat × Nat)} {rm : Room} {As st0 : List Value} {K : Int32 → gM → Prop} (hy : g_CalW y bytes maxL rt hh nA) (hv : Cond.static y ∈ WL) (hM : Met (gXl X) y (g_yW y bytes maxL rt hh) rm (va_Pc As (g_Pre t M)) (va_Qi K (g_B t) (g_A t)) rm.cells rm.slots (g_A t))
    (hl : Cond.methodLink own ix y ∈ WL) (hn : As.length = nA) (hst : st0 = As.reverse ++ st) (hsm : (st.map fun v => v.category).sum ≤ 8) (hR : rm.frames + 1 ≤ R.frames ∧ 8 + (maxL + 11) + rm.locals ≤ R.locals) (hf : k + rm.cells ≤ R.cells ∧ n + rm.slots ≤ R.slots) (d : decode cc pc = .ok (.invokestatic ix, 3))
    (kk : ∀ (r : Int32) (M' : gM), K r M' → G t R X nL (k + rm.cells) (n + rm.slots) M' lv (.int r :: st) (pc + 3)) : G t R X nL k n M lv st0 pc := fun H locs ls a b c => by
  subst hst
  have hrun := vx_runSW (H := H) (locs := locs) (cells := k) (slots := n) (e := gXe X) (below := gXb X) (meth := gXt X) (As := As) (rest := st) (g := F0 (gXm X) pc ls (As.reverse ++ st)) ⟨cx.x, cx.b, cx.ml, cx.ow, cx.ts⟩ hM (g_cwSW cx.ts hy hv hl hR) (g_preS cx a) rfl hn c.1 rfl (lv_room hsm) d hf
  refine va_calli hrun b (fun _ _ h => h) (fun _ h => h) (fun r u tt H1 locs1 ht hvm hp hB hz1 hk1 hS => ?_)
  exact kk r u hp H1 locs1 ls ⟨by rw [← ht]; exact hB.1, hB.2.1, cx.SH hS⟩ hS c
theorem gg_sld (cx : g_Cx t X cc nL own ret) {i : Int32} (hi : vp_in i (gScL t)) (d : decode cc pc = .ok (.iaload, 1)) (kk : G t R X nL k n M lv (.int (gScX t i.toNatClampNeg) :: st) (pc + 1)) : G t R X nL k n M lv (.int i :: .ref (gScB t) :: st) pc := fun H locs ls a b c =>
  va_sld cx.x cx.b cx.S.2.2.2.2.2.2.1 (Nat.lt_of_lt_of_le cx.S.2.2.2.2.2.2.2 cx.S.1) (Nat.not_le.mpr cx.S.2.2.2.2.2.2.2) b hi d (kk H locs ls a b c)
theorem gg_slen (cx : g_Cx t X cc nL own ret) (d : decode cc pc = .ok (.arraylength, 1)) (kk : G t R X nL k n M lv (.int (Int32.ofNat (gScL t)) :: st) (pc + 1)) : G t R X nL k n M lv (.ref (gScB t) :: st) pc := fun H locs ls a b c =>
  va_slen cx.x cx.b cx.S.2.2.2.2.2.2.1 (Nat.lt_of_lt_of_le cx.S.2.2.2.2.2.2.2 cx.S.1) (Nat.not_le.mpr cx.S.2.2.2.2.2.2.2) b d (kk H locs ls a b c)
theorem gg_sret {K : Nat → gM → Prop} {sn : String} (cx : g_Cx t X cc nL own (some (.object sn))) (hQ : gXQ X = MQ (gXb X) (g_Qs t K) (gXa X) (gXs X) k n (g_A t)) {i : Nat} (h : K i M) (d : decode cc pc = .ok (.areturn, 1)) : G t R X nL k n M lv [.ref (gSK t i)] pc := fun H locs ls a b c => by
  rw [hQ]
  exact W.aret cx.x cx.b cx.r (Or.inl ⟨_, rfl⟩) (Or.inr ⟨_, rfl⟩) (fun u hu hW => ⟨⟨i, M, rfl, h, g_Bof a hu hW⟩, g_F cx b hu⟩) (fun q hq => b.2.2 q hq) d cx.lk
end GH
/-- a contract of a method with a table of its own -/
theorem g_hmet {l : Launch} (hl : l.stackTraces = false) {t : gT} {y : MethodName} {bytes : ByteArray} {maxL : Nat} {rt : Option FieldType} {hh : List (Nat × Nat × Nat × Nat)} {rm : Room} {av : List Value} {M : gM} {Qc : Array Value → State → Outcome → State → Prop} (hy : plainName y.cls = true) (hsz : (lg_sl av).length ≤ maxL)
    (body : ∀ X : gX, gXl X = l → g_Cx t X bytes maxL y.cls rt → (gXc X).exceptionTable.toList = tableOf hh → gXQ X = MQ (gXb X) Qc (gXa X) (gXs X) rm.cells rm.slots (g_A t) → G t rm X maxL 0 0 M (lv_args 0 av) [] 0) : Met l y (g_yW y bytes maxL rt hh) rm (va_Pc av (g_Pre t M)) Qc rm.cells rm.slots (g_A t) := by
  refine va_MetW (cc := bytes) (maxL := maxL) (ret := rt) (hh := hh) hy rfl ?_
  intro p e s m args below meth c s₁ B hml hv
  obtain ⟨rfl, hT, hH⟩ := hv
  have hts := atoms_spec (ws := g_yW y bytes maxL rt hh) B.pre
  have hl0 := lv_entry av (n := maxL) hsz
  rw [lg_entry_eq]
  exact body (p, l, e, s, m, av.toArray, below, meth, c, MQ below Qc av.toArray s rm.cells rm.slots (g_A t)) rfl ⟨B.exec, B.bytes, hml, findClass_of_methodNamed B.named, fun w hw => hts w (List.mem_cons_of_mem _ hw), hT, hH.2.2, B.returns, B.notSynchronized, hl⟩ (vx_table (x := y) B (hts _ List.mem_cons_self)) rfl s.heap [] _ hH va_S.rf hl0
section GW
variable {t : gT} {R : Room} {X : gX} {nL k n : Nat} {M : gM} {lv : List (Nat × Value)} {st : List Value} {pc : Nat} {cc : ByteArray} {own : String} {ret : Option FieldType}
theorem gg_ldc_w (cx : g_Cx t X cc nL own ret) {ix : Nat} {v : Int32} (hw : Cond.constant own ix v ∈ WL) (d : decode cc pc = .ok (.ldc_w ix, 3)) (kk : G t R X nL k n M lv (.int v :: st) (pc + 3)) : G t R X nL k n M lv st pc := fun H locs ls a b c => lv_ldcw cx.x cx.b cx.ow (cx.ts _ hw) d (kk H locs ls a b c)
theorem gg_ldcSW (cx : g_Cx t X cc nL own ret) {ix i : Nat} {tx : String} (hs : vk_R own ix tx (gSK t i) (gXs X)) (d : decode cc pc = .ok (.ldc_w ix, 3)) (kk : G t R X nL k n M lv (.ref (gSK t i) :: st) (pc + 3)) : G t R X nL k n M lv st pc := fun H locs ls a b c => by
  intro T hT Y
  obtain ⟨u, a1, b1⟩ := kk H locs ls a b c T hT Y
  exact ⟨u, Y.ldcStringW cx.x cx.ow (text := tx) (a := gSK t i) hs.1 hs.2 (g := F0 (gXm X) pc ls st) rfl (by rw [cx.b]; exact d) u a1, b1⟩
theorem gg_callSs (cx : g_Cx t X cc nL own ret) {y : MethodName} {bytes : ByteArray} {maxL nA ix : Nat} {rt : Option FieldType} {rm : Room} {As st0 : List Value} {K : Nat → gM → Prop} (hy : g_Cal y bytes maxL rt nA) (hv : Cond.static y ∈ WL) (hM : Met (gXl X) y (g_y y bytes maxL rt) rm (va_Pc As (g_Pre t M)) (g_Qs t K) rm.cells rm.slots (g_A t))
    (hl : Cond.methodLink own ix y ∈ WL) (hn : As.length = nA) (hst : st0 = As.reverse ++ st) (hsm : (st.map fun v => v.category).sum ≤ 8) (hR : rm.frames + 1 ≤ R.frames ∧ 8 + (maxL + 11) + rm.locals ≤ R.locals) (hf : k + rm.cells ≤ R.cells ∧ n + rm.slots ≤ R.slots) (d : decode cc pc = .ok (.invokestatic ix, 3))
    (kk : ∀ (r : Nat) (M' : gM), K r M' → G t R X nL (k + rm.cells) (n + rm.slots) M' lv (.ref (gSK t r) :: st) (pc + 3)) : G t R X nL k n M lv st0 pc := fun H locs ls a b c => by
  subst hst
  have hrun := va_runS (H := H) (locs := locs) (cells := k) (slots := n) (e := gXe X) (below := gXb X) (meth := gXt X) (As := As) (rest := st) (g := F0 (gXm X) pc ls (As.reverse ++ st)) ⟨cx.x, cx.b, cx.ml, cx.ow, cx.ts⟩ hM (g_cwS cx.ts hy hv hl hR) (g_preS cx a) rfl hn c.1 rfl (lv_room hsm) d hf
  intro T hT Y
  obtain ⟨v, st₀, u, T', L, h0, Y', hL, e1, e2, ⟨⟨i, M', hv1, hp, hB⟩, hz, hk⟩, stp⟩ := hrun T hT Y
  cases hv1
  rw [h0] at hz hk
  have hS : va_S (g_A t) (gXs X).heap T'.heap (locs ++ L) := ⟨Nat.le_trans b.1 (by rw [e1]; exact hz), fun q h1 h2 => by rw [e1, hk q (Nat.lt_of_lt_of_le h1 b.1) h2]; exact b.2.1 q h1 h2, fun q hq => by
      rcases List.mem_append.mp hq with h | h
      · exact b.2.2 q h
      · exact hL q h⟩
  obtain ⟨t2, a1, b1⟩ := kk i M' hp T'.heap (locs ++ L) ls ⟨by rw [e1]; exact hB.1, hB.2.1, cx.SH hS⟩ hS c T' rfl Y'
  exact ⟨t2, stp t2 a1, b1⟩
end GW
