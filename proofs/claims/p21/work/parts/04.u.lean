/-! THE METHODS, AND WHAT THEIR CALLS ARE -/
abbrev am_M : Type := (Nat × Nat × Bool × Nat × Nat × (Nat → Option (Instr × Nat))) × ByteArray × Option FieldType × MethodName × Nat
theorem am_okOf {b : ByteArray} {t : Nat → Option (Instr × Nat)} {n : Nat} (hd : am_dok b t n = true) (hn : ∀ pc, Nat.blt pc n = false → t pc = none) : ∀ (pc : Nat) (x : Instr × Nat), t pc = some x → decode b pc = .ok x ∧ (am_len x.1 = 0 ∨ x.2 = am_len x.1) := by
  intro pc x hx
  cases hb : Nat.blt pc n with
  | false => rw [hn pc hb] at hx; cases hx
  | true =>
    unfold am_dok at hd
    have h1 := List.all_eq_true.mp hd pc (List.mem_range.mpr (Nat.blt_eq.mp hb))
    simp only [hx, Bool.and_eq_true, Bool.or_eq_true] at h1
    exact ⟨of_decide_eq_true h1.1, h1.2.imp Nat.eq_of_beq_eq_true Nat.eq_of_beq_eq_true⟩
def am_ok (M : am_M) : Prop := ∀ (pc : Nat) (x : Instr × Nat), M.1.2.2.2.2.2 pc = some x → decode M.2.1 pc = .ok x ∧ (am_len x.1 = 0 ∨ x.2 = am_len x.1)
theorem am_tb1 {w : Cond} (h : w ∈ tables_1_1) : w ∈ lw_tbl := List.mem_append_right _ (List.mem_append_left _ h)
theorem am_tb2 {w : Cond} (h : w ∈ tables_1_2) : w ∈ lw_tbl := List.mem_append_right _ (List.mem_append_right _ (List.mem_append_left _ h))
theorem am_tb3 {w : Cond} (h : w ∈ tables_1_3) : w ∈ lw_tbl := List.mem_append_right _ (List.mem_append_right _ (List.mem_append_right _ (List.mem_append_left _ h)))
theorem am_tb4 {w : Cond} (h : w ∈ tables_1_4) : w ∈ lw_tbl := List.mem_append_right _ (List.mem_append_right _ (List.mem_append_right _ (List.mem_append_right _ (List.mem_append_left _ h))))
theorem am_tb5 {w : Cond} (h : w ∈ tables_1_5) : w ∈ lw_tbl := List.mem_append_right _ (List.mem_append_right _ (List.mem_append_right _ (List.mem_append_right _ (List.mem_append_right _ (List.mem_append_left _ h)))))
theorem am_tb6 {w : Cond} (h : w ∈ tables_1_6) : w ∈ lw_tbl := List.mem_append_right _ (List.mem_append_right _ (List.mem_append_right _ (List.mem_append_right _ (List.mem_append_right _ (List.mem_append_right _ (List.mem_append_left _ h))))))
theorem am_tb7 {w : Cond} (h : w ∈ tables_1_7) : w ∈ lw_tbl := List.mem_append_right _ (List.mem_append_right _ (List.mem_append_right _ (List.mem_append_right _ (List.mem_append_right _ (List.mem_append_right _ (List.mem_append_right _ (List.mem_append_left _ h)))))))
theorem am_tb8 {w : Cond} (h : w ∈ tables_1_8) : w ∈ lw_tbl := List.mem_append_right _ (List.mem_append_right _ (List.mem_append_right _ (List.mem_append_right _ (List.mem_append_right _ (List.mem_append_right _ (List.mem_append_right _ (List.mem_append_right _ h)))))))
theorem am_tb0 {w : Cond} (h : w ∈ k2_sels lw_privs) : w ∈ lw_tbl := List.mem_append_left _ h
theorem am_k_X0_init : ∀ (pc : Nat) (x : Instr × Nat), am_c_X0_init pc = some x → decode cX0_init pc = .ok x ∧ (am_len x.1 = 0 ∨ x.2 = am_len x.1) := am_okOf am_c_X0_init_ok (fun pc h => by unfold am_c_X0_init; rw [h]; rfl)
def am_m_X0_init : am_M := ((0, 4, true, 1, 20, am_c_X0_init), cX0_init, none, yX0_init, 3)
abbrev am_i_X0_init : Nat := 0
theorem am_k_X0_reaches : ∀ (pc : Nat) (x : Instr × Nat), am_c_X0_reaches pc = some x → decode cX0_reaches pc = .ok x ∧ (am_len x.1 = 0 ∨ x.2 = am_len x.1) := am_okOf am_c_X0_reaches_ok (fun pc h => by unfold am_c_X0_reaches; rw [h]; rfl)
def am_m_X0_reaches : am_M := ((0, 2, false, 1, 22, am_c_X0_reaches), cX0_reaches, (some .boolean), yX0_reaches, 1)
abbrev am_i_X0_reaches : Nat := 1
theorem am_k_X0_isMarked : ∀ (pc : Nat) (x : Instr × Nat), am_c_X0_isMarked pc = some x → decode cX0_isMarked pc = .ok x ∧ (am_len x.1 = 0 ∨ x.2 = am_len x.1) := am_okOf am_c_X0_isMarked_ok (fun pc h => by unfold am_c_X0_isMarked; rw [h]; rfl)
def am_m_X0_isMarked : am_M := ((0, 5, false, 1, 22, am_c_X0_isMarked), cX0_isMarked, (some .boolean), yX0_isMarked, 3)
abbrev am_i_X0_isMarked : Nat := 2
theorem am_k_X0_isZeroFrom : ∀ (pc : Nat) (x : Instr × Nat), am_c_X0_isZeroFrom pc = some x → decode cX0_isZeroFrom pc = .ok x ∧ (am_len x.1 = 0 ∨ x.2 = am_len x.1) := am_okOf am_c_X0_isZeroFrom_ok (fun pc h => by unfold am_c_X0_isZeroFrom; rw [h]; rfl)
def am_m_X0_isZeroFrom : am_M := ((0, 3, false, 1, 22, am_c_X0_isZeroFrom), cX0_isZeroFrom, (some .boolean), yX0_isZeroFrom, 1)
abbrev am_i_X0_isZeroFrom : Nat := 3
theorem am_k_X0_isNamed : ∀ (pc : Nat) (x : Instr × Nat), am_c_X0_isNamed pc = some x → decode cX0_isNamed pc = .ok x ∧ (am_len x.1 = 0 ∨ x.2 = am_len x.1) := am_okOf am_c_X0_isNamed_ok (fun pc h => by unfold am_c_X0_isNamed; rw [h]; rfl)
def am_m_X0_isNamed : am_M := ((0, 2, false, 3, 67, am_c_X0_isNamed), cX0_isNamed, (some .boolean), yX0_isNamed, 1)
abbrev am_i_X0_isNamed : Nat := 4
theorem am_k_X0_arrives : ∀ (pc : Nat) (x : Instr × Nat), am_c_X0_arrives pc = some x → decode cX0_arrives pc = .ok x ∧ (am_len x.1 = 0 ∨ x.2 = am_len x.1) := am_okOf am_c_X0_arrives_ok (fun pc h => by unfold am_c_X0_arrives; rw [h]; rfl)
def am_m_X0_arrives : am_M := ((0, 7, false, 4, 92, am_c_X0_arrives), cX0_arrives, (some .boolean), yX0_arrives, 6)
abbrev am_i_X0_arrives : Nat := 5
theorem am_k_X0_addTitle : ∀ (pc : Nat) (x : Instr × Nat), am_c_X0_addTitle pc = some x → decode cX0_addTitle pc = .ok x ∧ (am_len x.1 = 0 ∨ x.2 = am_len x.1) := am_okOf am_c_X0_addTitle_ok (fun pc h => by unfold am_c_X0_addTitle; rw [h]; rfl)
def am_m_X0_addTitle : am_M := ((0, 3, false, 2, 45, am_c_X0_addTitle), cX0_addTitle, none, yX0_addTitle, 2)
abbrev am_i_X0_addTitle : Nat := 6
theorem am_k_X1_init : ∀ (pc : Nat) (x : Instr × Nat), am_c_X1_init pc = some x → decode cX1_init pc = .ok x ∧ (am_len x.1 = 0 ∨ x.2 = am_len x.1) := am_okOf am_c_X1_init_ok (fun pc h => by unfold am_c_X1_init; rw [h]; rfl)
def am_m_X1_init : am_M := ((1, 4, true, 2, 43, am_c_X1_init), cX1_init, none, yX1_init, 3)
abbrev am_i_X1_init : Nat := 7
theorem am_k_X1_takeIn : ∀ (pc : Nat) (x : Instr × Nat), am_c_X1_takeIn pc = some x → decode cX1_takeIn pc = .ok x ∧ (am_len x.1 = 0 ∨ x.2 = am_len x.1) := am_okOf am_c_X1_takeIn_ok (fun pc h => by unfold am_c_X1_takeIn; rw [h]; rfl)
def am_m_X1_takeIn : am_M := ((1, 8, false, 5, 118, am_c_X1_takeIn), cX1_takeIn, (some .boolean), yX1_takeIn, 1)
abbrev am_i_X1_takeIn : Nat := 8
theorem am_k_X1_isEmptyBlock : ∀ (pc : Nat) (x : Instr × Nat), am_c_X1_isEmptyBlock pc = some x → decode cX1_isEmptyBlock pc = .ok x ∧ (am_len x.1 = 0 ∨ x.2 = am_len x.1) := am_okOf am_c_X1_isEmptyBlock_ok (fun pc h => by unfold am_c_X1_isEmptyBlock; rw [h]; rfl)
def am_m_X1_isEmptyBlock : am_M := ((1, 3, false, 1, 21, am_c_X1_isEmptyBlock), cX1_isEmptyBlock, (some .boolean), yX1_isEmptyBlock, 1)
abbrev am_i_X1_isEmptyBlock : Nat := 9
theorem am_k_X1_isHead : ∀ (pc : Nat) (x : Instr × Nat), am_c_X1_isHead pc = some x → decode cX1_isHead pc = .ok x ∧ (am_len x.1 = 0 ∨ x.2 = am_len x.1) := am_okOf am_c_X1_isHead_ok (fun pc h => by unfold am_c_X1_isHead; rw [h]; rfl)
def am_m_X1_isHead : am_M := ((1, 2, false, 3, 69, am_c_X1_isHead), cX1_isHead, (some .boolean), yX1_isHead, 1)
abbrev am_i_X1_isHead : Nat := 10
theorem am_k_X1_isSummed : ∀ (pc : Nat) (x : Instr × Nat), am_c_X1_isSummed pc = some x → decode cX1_isSummed pc = .ok x ∧ (am_len x.1 = 0 ∨ x.2 = am_len x.1) := am_okOf am_c_X1_isSummed_ok (fun pc h => by unfold am_c_X1_isSummed; rw [h]; rfl)
def am_m_X1_isSummed : am_M := ((1, 2, false, 2, 46, am_c_X1_isSummed), cX1_isSummed, (some .boolean), yX1_isSummed, 1)
abbrev am_i_X1_isSummed : Nat := 11
theorem am_k_X1_isSorted : ∀ (pc : Nat) (x : Instr × Nat), am_c_X1_isSorted pc = some x → decode cX1_isSorted pc = .ok x ∧ (am_len x.1 = 0 ∨ x.2 = am_len x.1) := am_okOf am_c_X1_isSorted_ok (fun pc h => by unfold am_c_X1_isSorted; rw [h]; rfl)
def am_m_X1_isSorted : am_M := ((1, 4, false, 2, 46, am_c_X1_isSorted), cX1_isSorted, (some .boolean), yX1_isSorted, 1)
abbrev am_i_X1_isSorted : Nat := 12
theorem am_k_X1_areDigits : ∀ (pc : Nat) (x : Instr × Nat), am_c_X1_areDigits pc = some x → decode cX1_areDigits pc = .ok x ∧ (am_len x.1 = 0 ∨ x.2 = am_len x.1) := am_okOf am_c_X1_areDigits_ok (fun pc h => by unfold am_c_X1_areDigits; rw [h]; rfl)
def am_m_X1_areDigits : am_M := ((1, 5, false, 1, 22, am_c_X1_areDigits), cX1_areDigits, (some .boolean), yX1_areDigits, 3)
abbrev am_i_X1_areDigits : Nat := 13
theorem am_k_X1_isOctal : ∀ (pc : Nat) (x : Instr × Nat), am_c_X1_isOctal pc = some x → decode cX1_isOctal pc = .ok x ∧ (am_len x.1 = 0 ∨ x.2 = am_len x.1) := am_okOf am_c_X1_isOctal_ok (fun pc h => by unfold am_c_X1_isOctal; rw [h]; rfl)
def am_m_X1_isOctal : am_M := ((1, 3, false, 2, 46, am_c_X1_isOctal), cX1_isOctal, (some .boolean), yX1_isOctal, 2)
abbrev am_i_X1_isOctal : Nat := 14
theorem am_k_X1_octal : ∀ (pc : Nat) (x : Instr × Nat), am_c_X1_octal pc = some x → decode cX1_octal pc = .ok x ∧ (am_len x.1 = 0 ∨ x.2 = am_len x.1) := am_okOf am_c_X1_octal_ok (fun pc h => by unfold am_c_X1_octal; rw [h]; rfl)
def am_m_X1_octal : am_M := ((1, 6, false, 1, 21, am_c_X1_octal), cX1_octal, (some .long), yX1_octal, 2)
abbrev am_i_X1_octal : Nat := 15
theorem am_k_X1_sumOf : ∀ (pc : Nat) (x : Instr × Nat), am_c_X1_sumOf pc = some x → decode cX1_sumOf pc = .ok x ∧ (am_len x.1 = 0 ∨ x.2 = am_len x.1) := am_okOf am_c_X1_sumOf_ok (fun pc h => by unfold am_c_X1_sumOf; rw [h]; rfl)
def am_m_X1_sumOf : am_M := ((1, 4, false, 1, 21, am_c_X1_sumOf), cX1_sumOf, (some .int), yX1_sumOf, 1)
abbrev am_i_X1_sumOf : Nat := 16
theorem am_k_X1_spell : ∀ (pc : Nat) (x : Instr × Nat), am_c_X1_spell pc = some x → decode cX1_spell pc = .ok x ∧ (am_len x.1 = 0 ∨ x.2 = am_len x.1) := am_okOf am_c_X1_spell_ok (fun pc h => by unfold am_c_X1_spell; rw [h]; rfl)
def am_m_X1_spell : am_M := ((1, 4, false, 2, 44, am_c_X1_spell), cX1_spell, none, yX1_spell, 2)
abbrev am_i_X1_spell : Nat := 17
theorem am_k_X1_addToPath : ∀ (pc : Nat) (x : Instr × Nat), am_c_X1_addToPath pc = some x → decode cX1_addToPath pc = .ok x ∧ (am_len x.1 = 0 ∨ x.2 = am_len x.1) := am_okOf am_c_X1_addToPath_ok (fun pc h => by unfold am_c_X1_addToPath; rw [h]; rfl)
def am_m_X1_addToPath : am_M := ((1, 4, false, 1, 21, am_c_X1_addToPath), cX1_addToPath, none, yX1_addToPath, 2)
abbrev am_i_X1_addToPath : Nat := 18
theorem am_k_X1_layOut : ∀ (pc : Nat) (x : Instr × Nat), am_c_X1_layOut pc = some x → decode cX1_layOut pc = .ok x ∧ (am_len x.1 = 0 ∨ x.2 = am_len x.1) := am_okOf am_c_X1_layOut_ok (fun pc h => by unfold am_c_X1_layOut; rw [h]; rfl)
def am_m_X1_layOut : am_M := ((1, 6, false, 7, 189, am_c_X1_layOut), cX1_layOut, none, yX1_layOut, 2)
abbrev am_i_X1_layOut : Nat := 19
theorem am_k_X1_addHead : ∀ (pc : Nat) (x : Instr × Nat), am_c_X1_addHead pc = some x → decode cX1_addHead pc = .ok x ∧ (am_len x.1 = 0 ∨ x.2 = am_len x.1) := am_okOf am_c_X1_addHead_ok (fun pc h => by unfold am_c_X1_addHead; rw [h]; rfl)
def am_m_X1_addHead : am_M := ((1, 3, false, 6, 167, am_c_X1_addHead), cX1_addHead, none, yX1_addHead, 1)
abbrev am_i_X1_addHead : Nat := 20
theorem am_k_X1_addOctal : ∀ (pc : Nat) (x : Instr × Nat), am_c_X1_addOctal pc = some x → decode cX1_addOctal pc = .ok x ∧ (am_len x.1 = 0 ∨ x.2 = am_len x.1) := am_okOf am_c_X1_addOctal_ok (fun pc h => by unfold am_c_X1_addOctal; rw [h]; rfl)
def am_m_X1_addOctal : am_M := ((1, 4, false, 1, 21, am_c_X1_addOctal), cX1_addOctal, none, yX1_addOctal, 2)
abbrev am_i_X1_addOctal : Nat := 21
theorem am_k_X1_setSum : ∀ (pc : Nat) (x : Instr × Nat), am_c_X1_setSum pc = some x → decode cX1_setSum pc = .ok x ∧ (am_len x.1 = 0 ∨ x.2 = am_len x.1) := am_okOf am_c_X1_setSum_ok (fun pc h => by unfold am_c_X1_setSum; rw [h]; rfl)
def am_m_X1_setSum : am_M := ((1, 4, false, 2, 44, am_c_X1_setSum), cX1_setSum, none, yX1_setSum, 1)
abbrev am_i_X1_setSum : Nat := 22
theorem am_k_X2_init : ∀ (pc : Nat) (x : Instr × Nat), am_c_X2_init pc = some x → decode cX2_init pc = .ok x ∧ (am_len x.1 = 0 ∨ x.2 = am_len x.1) := am_okOf am_c_X2_init_ok (fun pc h => by unfold am_c_X2_init; rw [h]; rfl)
def am_m_X2_init : am_M := ((2, 2, true, 1, 20, am_c_X2_init), cX2_init, none, yX2_init, 1)
abbrev am_i_X2_init : Nat := 23
theorem am_k_X2_size : ∀ (pc : Nat) (x : Instr × Nat), am_c_X2_size pc = some x → decode cX2_size pc = .ok x ∧ (am_len x.1 = 0 ∨ x.2 = am_len x.1) := am_okOf am_c_X2_size_ok (fun pc h => by unfold am_c_X2_size; rw [h]; rfl)
def am_m_X2_size : am_M := ((2, 1, false, 0, 0, am_c_X2_size), cX2_size, (some .int), yX2_size, 0)
abbrev am_i_X2_size : Nat := 24
theorem am_k_X2_has : ∀ (pc : Nat) (x : Instr × Nat), am_c_X2_has pc = some x → decode cX2_has pc = .ok x ∧ (am_len x.1 = 0 ∨ x.2 = am_len x.1) := am_okOf am_c_X2_has_ok (fun pc h => by unfold am_c_X2_has; rw [h]; rfl)
def am_m_X2_has : am_M := ((2, 2, false, 0, 0, am_c_X2_has), cX2_has, (some .boolean), yX2_has, 1)
abbrev am_i_X2_has : Nat := 25
theorem am_k_X2_get : ∀ (pc : Nat) (x : Instr × Nat), am_c_X2_get pc = some x → decode cX2_get pc = .ok x ∧ (am_len x.1 = 0 ∨ x.2 = am_len x.1) := am_okOf am_c_X2_get_ok (fun pc h => by unfold am_c_X2_get; rw [h]; rfl)
def am_m_X2_get : am_M := ((2, 2, false, 0, 0, am_c_X2_get), cX2_get, (some .int), yX2_get, 1)
abbrev am_i_X2_get : Nat := 26
theorem am_k_X2_set : ∀ (pc : Nat) (x : Instr × Nat), am_c_X2_set pc = some x → decode cX2_set pc = .ok x ∧ (am_len x.1 = 0 ∨ x.2 = am_len x.1) := am_okOf am_c_X2_set_ok (fun pc h => by unfold am_c_X2_set; rw [h]; rfl)
def am_m_X2_set : am_M := ((2, 3, false, 0, 0, am_c_X2_set), cX2_set, none, yX2_set, 2)
abbrev am_i_X2_set : Nat := 27
theorem am_k_X2_cutTo : ∀ (pc : Nat) (x : Instr × Nat), am_c_X2_cutTo pc = some x → decode cX2_cutTo pc = .ok x ∧ (am_len x.1 = 0 ∨ x.2 = am_len x.1) := am_okOf am_c_X2_cutTo_ok (fun pc h => by unfold am_c_X2_cutTo; rw [h]; rfl)
def am_m_X2_cutTo : am_M := ((2, 2, false, 0, 0, am_c_X2_cutTo), cX2_cutTo, none, yX2_cutTo, 1)
abbrev am_i_X2_cutTo : Nat := 28
theorem am_k_X2_add : ∀ (pc : Nat) (x : Instr × Nat), am_c_X2_add pc = some x → decode cX2_add pc = .ok x ∧ (am_len x.1 = 0 ∨ x.2 = am_len x.1) := am_okOf am_c_X2_add_ok (fun pc h => by unfold am_c_X2_add; rw [h]; rfl)
def am_m_X2_add : am_M := ((2, 2, false, 0, 0, am_c_X2_add), cX2_add, none, yX2_add, 1)
abbrev am_i_X2_add : Nat := 29
theorem am_k_X2_addRow : ∀ (pc : Nat) (x : Instr × Nat), am_c_X2_addRow pc = some x → decode cX2_addRow pc = .ok x ∧ (am_len x.1 = 0 ∨ x.2 = am_len x.1) := am_okOf am_c_X2_addRow_ok (fun pc h => by unfold am_c_X2_addRow; rw [h]; rfl)
def am_m_X2_addRow : am_M := ((2, 5, false, 1, 21, am_c_X2_addRow), cX2_addRow, none, yX2_addRow, 3)
abbrev am_i_X2_addRow : Nat := 30
theorem am_k_X2_addText : ∀ (pc : Nat) (x : Instr × Nat), am_c_X2_addText pc = some x → decode cX2_addText pc = .ok x ∧ (am_len x.1 = 0 ∨ x.2 = am_len x.1) := am_okOf am_c_X2_addText_ok (fun pc h => by unfold am_c_X2_addText; rw [h]; rfl)
def am_m_X2_addText : am_M := ((2, 3, false, 5, 145, am_c_X2_addText), cX2_addText, none, yX2_addText, 1)
abbrev am_i_X2_addText : Nat := 31
theorem am_k_X2_addMark : ∀ (pc : Nat) (x : Instr × Nat), am_c_X2_addMark pc = some x → decode cX2_addMark pc = .ok x ∧ (am_len x.1 = 0 ∨ x.2 = am_len x.1) := am_okOf am_c_X2_addMark_ok (fun pc h => by unfold am_c_X2_addMark; rw [h]; rfl)
def am_m_X2_addMark : am_M := ((2, 3, false, 1, 21, am_c_X2_addMark), cX2_addMark, none, yX2_addMark, 1)
abbrev am_i_X2_addMark : Nat := 32
theorem am_k_X2_addZeros : ∀ (pc : Nat) (x : Instr × Nat), am_c_X2_addZeros pc = some x → decode cX2_addZeros pc = .ok x ∧ (am_len x.1 = 0 ∨ x.2 = am_len x.1) := am_okOf am_c_X2_addZeros_ok (fun pc h => by unfold am_c_X2_addZeros; rw [h]; rfl)
def am_m_X2_addZeros : am_M := ((2, 3, false, 1, 21, am_c_X2_addZeros), cX2_addZeros, none, yX2_addZeros, 1)
abbrev am_i_X2_addZeros : Nat := 33
theorem am_k_X2_addBig : ∀ (pc : Nat) (x : Instr × Nat), am_c_X2_addBig pc = some x → decode cX2_addBig pc = .ok x ∧ (am_len x.1 = 0 ∨ x.2 = am_len x.1) := am_okOf am_c_X2_addBig_ok (fun pc h => by unfold am_c_X2_addBig; rw [h]; rfl)
def am_m_X2_addBig : am_M := ((2, 5, false, 1, 21, am_c_X2_addBig), cX2_addBig, none, yX2_addBig, 2)
abbrev am_i_X2_addBig : Nat := 34
theorem am_k_X2_addLittle : ∀ (pc : Nat) (x : Instr × Nat), am_c_X2_addLittle pc = some x → decode cX2_addLittle pc = .ok x ∧ (am_len x.1 = 0 ∨ x.2 = am_len x.1) := am_okOf am_c_X2_addLittle_ok (fun pc h => by unfold am_c_X2_addLittle; rw [h]; rfl)
def am_m_X2_addLittle : am_M := ((2, 5, false, 1, 21, am_c_X2_addLittle), cX2_addLittle, none, yX2_addLittle, 2)
abbrev am_i_X2_addLittle : Nat := 35
theorem am_k_X2_little : ∀ (pc : Nat) (x : Instr × Nat), am_c_X2_little pc = some x → decode cX2_little pc = .ok x ∧ (am_len x.1 = 0 ∨ x.2 = am_len x.1) := am_okOf am_c_X2_little_ok (fun pc h => by unfold am_c_X2_little; rw [h]; rfl)
def am_m_X2_little : am_M := ((2, 6, false, 1, 21, am_c_X2_little), cX2_little, (some .long), yX2_little, 2)
abbrev am_i_X2_little : Nat := 36
theorem am_k_X2_beginsWith : ∀ (pc : Nat) (x : Instr × Nat), am_c_X2_beginsWith pc = some x → decode cX2_beginsWith pc = .ok x ∧ (am_len x.1 = 0 ∨ x.2 = am_len x.1) := am_okOf am_c_X2_beginsWith_ok (fun pc h => by unfold am_c_X2_beginsWith; rw [h]; rfl)
def am_m_X2_beginsWith : am_M := ((2, 3, false, 1, 21, am_c_X2_beginsWith), cX2_beginsWith, (some .boolean), yX2_beginsWith, 1)
abbrev am_i_X2_beginsWith : Nat := 37
theorem am_k_X2_isText : ∀ (pc : Nat) (x : Instr × Nat), am_c_X2_isText pc = some x → decode cX2_isText pc = .ok x ∧ (am_len x.1 = 0 ∨ x.2 = am_len x.1) := am_okOf am_c_X2_isText_ok (fun pc h => by unfold am_c_X2_isText; rw [h]; rfl)
def am_m_X2_isText : am_M := ((2, 3, false, 5, 145, am_c_X2_isText), cX2_isText, (some .boolean), yX2_isText, 1)
abbrev am_i_X2_isText : Nat := 38
theorem am_k_X2_liesUnder : ∀ (pc : Nat) (x : Instr × Nat), am_c_X2_liesUnder pc = some x → decode cX2_liesUnder pc = .ok x ∧ (am_len x.1 = 0 ∨ x.2 = am_len x.1) := am_okOf am_c_X2_liesUnder_ok (fun pc h => by unfold am_c_X2_liesUnder; rw [h]; rfl)
def am_m_X2_liesUnder : am_M := ((2, 2, false, 2, 43, am_c_X2_liesUnder), cX2_liesUnder, (some .boolean), yX2_liesUnder, 1)
abbrev am_i_X2_liesUnder : Nat := 39
theorem am_k_X3_init : ∀ (pc : Nat) (x : Instr × Nat), am_c_X3_init pc = some x → decode cX3_init pc = .ok x ∧ (am_len x.1 = 0 ∨ x.2 = am_len x.1) := am_okOf am_c_X3_init_ok (fun pc h => by unfold am_c_X3_init; rw [h]; rfl)
def am_m_X3_init : am_M := ((3, 2, true, 1, 20, am_c_X3_init), cX3_init, none, yX3_init, 1)
abbrev am_i_X3_init : Nat := 40
theorem am_k_X3_longest : ∀ (pc : Nat) (x : Instr × Nat), am_c_X3_longest pc = some x → decode cX3_longest pc = .ok x ∧ (am_len x.1 = 0 ∨ x.2 = am_len x.1) := am_okOf am_c_X3_longest_ok (fun pc h => by unfold am_c_X3_longest; rw [h]; rfl)
def am_m_X3_longest : am_M := ((3, 1, false, 0, 0, am_c_X3_longest), cX3_longest, (some .int), yX3_longest, 0)
abbrev am_i_X3_longest : Nat := 41
theorem am_k_X3_amount : ∀ (pc : Nat) (x : Instr × Nat), am_c_X3_amount pc = some x → decode cX3_amount pc = .ok x ∧ (am_len x.1 = 0 ∨ x.2 = am_len x.1) := am_okOf am_c_X3_amount_ok (fun pc h => by unfold am_c_X3_amount; rw [h]; rfl)
def am_m_X3_amount : am_M := ((3, 2, false, 0, 0, am_c_X3_amount), cX3_amount, (some .int), yX3_amount, 1)
abbrev am_i_X3_amount : Nat := 42
theorem am_k_X3_symbol : ∀ (pc : Nat) (x : Instr × Nat), am_c_X3_symbol pc = some x → decode cX3_symbol pc = .ok x ∧ (am_len x.1 = 0 ∨ x.2 = am_len x.1) := am_okOf am_c_X3_symbol_ok (fun pc h => by unfold am_c_X3_symbol; rw [h]; rfl)
def am_m_X3_symbol : am_M := ((3, 2, false, 0, 0, am_c_X3_symbol), cX3_symbol, (some .int), yX3_symbol, 1)
abbrev am_i_X3_symbol : Nat := 43
theorem am_k_X3_order : ∀ (pc : Nat) (x : Instr × Nat), am_c_X3_order pc = some x → decode cX3_order pc = .ok x ∧ (am_len x.1 = 0 ∨ x.2 = am_len x.1) := am_okOf am_c_X3_order_ok (fun pc h => by unfold am_c_X3_order; rw [h]; rfl)
def am_m_X3_order : am_M := ((3, 7, false, 1, 40, am_c_X3_order), cX3_order, none, yX3_order, 3)
abbrev am_i_X3_order : Nat := 44
theorem am_k_X3_placeLengths : ∀ (pc : Nat) (x : Instr × Nat), am_c_X3_placeLengths pc = some x → decode cX3_placeLengths pc = .ok x ∧ (am_len x.1 = 0 ∨ x.2 = am_len x.1) := am_okOf am_c_X3_placeLengths_ok (fun pc h => by unfold am_c_X3_placeLengths; rw [h]; rfl)
def am_m_X3_placeLengths : am_M := ((3, 2, false, 0, 0, am_c_X3_placeLengths), cX3_placeLengths, none, yX3_placeLengths, 0)
abbrev am_i_X3_placeLengths : Nat := 45
theorem am_k_X3_placeSymbol : ∀ (pc : Nat) (x : Instr × Nat), am_c_X3_placeSymbol pc = some x → decode cX3_placeSymbol pc = .ok x ∧ (am_len x.1 = 0 ∨ x.2 = am_len x.1) := am_okOf am_c_X3_placeSymbol_ok (fun pc h => by unfold am_c_X3_placeSymbol; rw [h]; rfl)
def am_m_X3_placeSymbol : am_M := ((3, 4, false, 0, 0, am_c_X3_placeSymbol), cX3_placeSymbol, none, yX3_placeSymbol, 2)
abbrev am_i_X3_placeSymbol : Nat := 46
theorem am_k_X3_areComplete : ∀ (pc : Nat) (x : Instr × Nat), am_c_X3_areComplete pc = some x → decode cX3_areComplete pc = .ok x ∧ (am_len x.1 = 0 ∨ x.2 = am_len x.1) := am_okOf am_c_X3_areComplete_ok (fun pc h => by unfold am_c_X3_areComplete; rw [h]; rfl)
def am_m_X3_areComplete : am_M := ((3, 3, false, 0, 0, am_c_X3_areComplete), cX3_areComplete, (some .boolean), yX3_areComplete, 0)
abbrev am_i_X3_areComplete : Nat := 47
theorem am_k_X3_areNoneOrOneBit : ∀ (pc : Nat) (x : Instr × Nat), am_c_X3_areNoneOrOneBit pc = some x → decode cX3_areNoneOrOneBit pc = .ok x ∧ (am_len x.1 = 0 ∨ x.2 = am_len x.1) := am_okOf am_c_X3_areNoneOrOneBit_ok (fun pc h => by unfold am_c_X3_areNoneOrOneBit; rw [h]; rfl)
def am_m_X3_areNoneOrOneBit : am_M := ((3, 1, false, 0, 0, am_c_X3_areNoneOrOneBit), cX3_areNoneOrOneBit, (some .boolean), yX3_areNoneOrOneBit, 0)
abbrev am_i_X3_areNoneOrOneBit : Nat := 48
theorem am_k_X4_init : ∀ (pc : Nat) (x : Instr × Nat), am_c_X4_init pc = some x → decode cX4_init pc = .ok x ∧ (am_len x.1 = 0 ∨ x.2 = am_len x.1) := am_okOf am_c_X4_init_ok (fun pc h => by unfold am_c_X4_init; rw [h]; rfl)
def am_m_X4_init : am_M := ((4, 4, true, 2, 43, am_c_X4_init), cX4_init, none, yX4_init, 3)
abbrev am_i_X4_init : Nat := 49
theorem am_k_X4_takeIn : ∀ (pc : Nat) (x : Instr × Nat), am_c_X4_takeIn pc = some x → decode cX4_takeIn pc = .ok x ∧ (am_len x.1 = 0 ∨ x.2 = am_len x.1) := am_okOf am_c_X4_takeIn_ok (fun pc h => by unfold am_c_X4_takeIn; rw [h]; rfl)
def am_m_X4_takeIn : am_M := ((4, 8, false, 6, 167, am_c_X4_takeIn), cX4_takeIn, (some .boolean), yX4_takeIn, 1)
abbrev am_i_X4_takeIn : Nat := 50
theorem am_k_X4_isHead : ∀ (pc : Nat) (x : Instr × Nat), am_c_X4_isHead pc = some x → decode cX4_isHead pc = .ok x ∧ (am_len x.1 = 0 ∨ x.2 = am_len x.1) := am_okOf am_c_X4_isHead_ok (fun pc h => by unfold am_c_X4_isHead; rw [h]; rfl)
def am_m_X4_isHead : am_M := ((4, 3, false, 2, 46, am_c_X4_isHead), cX4_isHead, (some .boolean), yX4_isHead, 1)
abbrev am_i_X4_isHead : Nat := 51
theorem am_k_X4_isSpelt : ∀ (pc : Nat) (x : Instr × Nat), am_c_X4_isSpelt pc = some x → decode cX4_isSpelt pc = .ok x ∧ (am_len x.1 = 0 ∨ x.2 = am_len x.1) := am_okOf am_c_X4_isSpelt_ok (fun pc h => by unfold am_c_X4_isSpelt; rw [h]; rfl)
def am_m_X4_isSpelt : am_M := ((4, 5, false, 2, 45, am_c_X4_isSpelt), cX4_isSpelt, (some .boolean), yX4_isSpelt, 1)
abbrev am_i_X4_isSpelt : Nat := 52
theorem am_k_X4_isMember : ∀ (pc : Nat) (x : Instr × Nat), am_c_X4_isMember pc = some x → decode cX4_isMember pc = .ok x ∧ (am_len x.1 = 0 ∨ x.2 = am_len x.1) := am_okOf am_c_X4_isMember_ok (fun pc h => by unfold am_c_X4_isMember; rw [h]; rfl)
def am_m_X4_isMember : am_M := ((4, 3, false, 4, 88, am_c_X4_isMember), cX4_isMember, (some .boolean), yX4_isMember, 1)
abbrev am_i_X4_isMember : Nat := 53
theorem am_k_X4_isSized : ∀ (pc : Nat) (x : Instr × Nat), am_c_X4_isSized pc = some x → decode cX4_isSized pc = .ok x ∧ (am_len x.1 = 0 ∨ x.2 = am_len x.1) := am_okOf am_c_X4_isSized_ok (fun pc h => by unfold am_c_X4_isSized; rw [h]; rfl)
def am_m_X4_isSized : am_M := ((4, 3, false, 2, 45, am_c_X4_isSized), cX4_isSized, (some .boolean), yX4_isSized, 2)
abbrev am_i_X4_isSized : Nat := 54
theorem am_k_X4_isDirectory : ∀ (pc : Nat) (x : Instr × Nat), am_c_X4_isDirectory pc = some x → decode cX4_isDirectory pc = .ok x ∧ (am_len x.1 = 0 ∨ x.2 = am_len x.1) := am_okOf am_c_X4_isDirectory_ok (fun pc h => by unfold am_c_X4_isDirectory; rw [h]; rfl)
def am_m_X4_isDirectory : am_M := ((4, 2, false, 3, 66, am_c_X4_isDirectory), cX4_isDirectory, (some .boolean), yX4_isDirectory, 1)
abbrev am_i_X4_isDirectory : Nat := 55
theorem am_k_X4_sortOf : ∀ (pc : Nat) (x : Instr × Nat), am_c_X4_sortOf pc = some x → decode cX4_sortOf pc = .ok x ∧ (am_len x.1 = 0 ∨ x.2 = am_len x.1) := am_okOf am_c_X4_sortOf_ok (fun pc h => by unfold am_c_X4_sortOf; rw [h]; rfl)
def am_m_X4_sortOf : am_M := ((4, 2, false, 2, 45, am_c_X4_sortOf), cX4_sortOf, (some .int), yX4_sortOf, 1)
abbrev am_i_X4_sortOf : Nat := 56
theorem am_k_X4_sortBits : ∀ (pc : Nat) (x : Instr × Nat), am_c_X4_sortBits pc = some x → decode cX4_sortBits pc = .ok x ∧ (am_len x.1 = 0 ∨ x.2 = am_len x.1) := am_okOf am_c_X4_sortBits_ok (fun pc h => by unfold am_c_X4_sortBits; rw [h]; rfl)
def am_m_X4_sortBits : am_M := ((4, 2, false, 0, 0, am_c_X4_sortBits), cX4_sortBits, (some .int), yX4_sortBits, 1)
abbrev am_i_X4_sortBits : Nat := 57
theorem am_k_X4_number : ∀ (pc : Nat) (x : Instr × Nat), am_c_X4_number pc = some x → decode cX4_number pc = .ok x ∧ (am_len x.1 = 0 ∨ x.2 = am_len x.1) := am_okOf am_c_X4_number_ok (fun pc h => by unfold am_c_X4_number; rw [h]; rfl)
def am_m_X4_number : am_M := ((4, 5, false, 1, 21, am_c_X4_number), cX4_number, (some .long), yX4_number, 1)
abbrev am_i_X4_number : Nat := 58
theorem am_k_X4_digit : ∀ (pc : Nat) (x : Instr × Nat), am_c_X4_digit pc = some x → decode cX4_digit pc = .ok x ∧ (am_len x.1 = 0 ∨ x.2 = am_len x.1) := am_okOf am_c_X4_digit_ok (fun pc h => by unfold am_c_X4_digit; rw [h]; rfl)
def am_m_X4_digit : am_M := ((4, 1, false, 0, 0, am_c_X4_digit), cX4_digit, (some .int), yX4_digit, 1)
abbrev am_i_X4_digit : Nat := 59
theorem am_k_X4_layOut : ∀ (pc : Nat) (x : Instr × Nat), am_c_X4_layOut pc = some x → decode cX4_layOut pc = .ok x ∧ (am_len x.1 = 0 ∨ x.2 = am_len x.1) := am_okOf am_c_X4_layOut_ok (fun pc h => by unfold am_c_X4_layOut; rw [h]; rfl)
def am_m_X4_layOut : am_M := ((4, 7, false, 6, 167, am_c_X4_layOut), cX4_layOut, none, yX4_layOut, 2)
abbrev am_i_X4_layOut : Nat := 60
theorem am_k_X4_addHead : ∀ (pc : Nat) (x : Instr × Nat), am_c_X4_addHead pc = some x → decode cX4_addHead pc = .ok x ∧ (am_len x.1 = 0 ∨ x.2 = am_len x.1) := am_okOf am_c_X4_addHead_ok (fun pc h => by unfold am_c_X4_addHead; rw [h]; rfl)
def am_m_X4_addHead : am_M := ((4, 6, false, 2, 44, am_c_X4_addHead), cX4_addHead, none, yX4_addHead, 4)
abbrev am_i_X4_addHead : Nat := 61
theorem am_k_X4_addNumber : ∀ (pc : Nat) (x : Instr × Nat), am_c_X4_addNumber pc = some x → decode cX4_addNumber pc = .ok x ∧ (am_len x.1 = 0 ∨ x.2 = am_len x.1) := am_okOf am_c_X4_addNumber_ok (fun pc h => by unfold am_c_X4_addNumber; rw [h]; rfl)
def am_m_X4_addNumber : am_M := ((4, 4, false, 1, 21, am_c_X4_addNumber), cX4_addNumber, none, yX4_addNumber, 1)
abbrev am_i_X4_addNumber : Nat := 62
theorem am_k_X4_addRest : ∀ (pc : Nat) (x : Instr × Nat), am_c_X4_addRest pc = some x → decode cX4_addRest pc = .ok x ∧ (am_len x.1 = 0 ∨ x.2 = am_len x.1) := am_okOf am_c_X4_addRest_ok (fun pc h => by unfold am_c_X4_addRest; rw [h]; rfl)
def am_m_X4_addRest : am_M := ((4, 1, false, 2, 43, am_c_X4_addRest), cX4_addRest, none, yX4_addRest, 0)
abbrev am_i_X4_addRest : Nat := 63
theorem am_k_X5_init : ∀ (pc : Nat) (x : Instr × Nat), am_c_X5_init pc = some x → decode cX5_init pc = .ok x ∧ (am_len x.1 = 0 ∨ x.2 = am_len x.1) := am_okOf am_c_X5_init_ok (fun pc h => by unfold am_c_X5_init; rw [h]; rfl)
def am_m_X5_init : am_M := ((5, 7, true, 2, 43, am_c_X5_init), cX5_init, none, yX5_init, 6)
abbrev am_i_X5_init : Nat := 64
theorem am_k_X5_takeIn : ∀ (pc : Nat) (x : Instr × Nat), am_c_X5_takeIn pc = some x → decode cX5_takeIn pc = .ok x ∧ (am_len x.1 = 0 ∨ x.2 = am_len x.1) := am_okOf am_c_X5_takeIn_ok (fun pc h => by unfold am_c_X5_takeIn; rw [h]; rfl)
def am_m_X5_takeIn : am_M := ((5, 5, false, 5, 137, am_c_X5_takeIn), cX5_takeIn, (some .boolean), yX5_takeIn, 1)
abbrev am_i_X5_takeIn : Nat := 65
theorem am_k_X5_isClosing : ∀ (pc : Nat) (x : Instr × Nat), am_c_X5_isClosing pc = some x → decode cX5_isClosing pc = .ok x ∧ (am_len x.1 = 0 ∨ x.2 = am_len x.1) := am_okOf am_c_X5_isClosing_ok (fun pc h => by unfold am_c_X5_isClosing; rw [h]; rfl)
def am_m_X5_isClosing : am_M := ((5, 3, false, 3, 69, am_c_X5_isClosing), cX5_isClosing, (some .boolean), yX5_isClosing, 0)
abbrev am_i_X5_isClosing : Nat := 66
theorem am_k_X5_isZero : ∀ (pc : Nat) (x : Instr × Nat), am_c_X5_isZero pc = some x → decode cX5_isZero pc = .ok x ∧ (am_len x.1 = 0 ∨ x.2 = am_len x.1) := am_okOf am_c_X5_isZero_ok (fun pc h => by unfold am_c_X5_isZero; rw [h]; rfl)
def am_m_X5_isZero : am_M := ((5, 4, false, 2, 46, am_c_X5_isZero), cX5_isZero, (some .boolean), yX5_isZero, 3)
abbrev am_i_X5_isZero : Nat := 67
theorem am_k_X5_isEntry : ∀ (pc : Nat) (x : Instr × Nat), am_c_X5_isEntry pc = some x → decode cX5_isEntry pc = .ok x ∧ (am_len x.1 = 0 ∨ x.2 = am_len x.1) := am_okOf am_c_X5_isEntry_ok (fun pc h => by unfold am_c_X5_isEntry; rw [h]; rfl)
def am_m_X5_isEntry : am_M := ((5, 2, false, 3, 69, am_c_X5_isEntry), cX5_isEntry, (some .boolean), yX5_isEntry, 1)
abbrev am_i_X5_isEntry : Nat := 68
theorem am_k_X5_isMember : ∀ (pc : Nat) (x : Instr × Nat), am_c_X5_isMember pc = some x → decode cX5_isMember pc = .ok x ∧ (am_len x.1 = 0 ∨ x.2 = am_len x.1) := am_okOf am_c_X5_isMember_ok (fun pc h => by unfold am_c_X5_isMember; rw [h]; rfl)
def am_m_X5_isMember : am_M := ((5, 5, false, 3, 69, am_c_X5_isMember), cX5_isMember, (some .boolean), yX5_isMember, 1)
abbrev am_i_X5_isMember : Nat := 69
theorem am_k_X5_isLocal : ∀ (pc : Nat) (x : Instr × Nat), am_c_X5_isLocal pc = some x → decode cX5_isLocal pc = .ok x ∧ (am_len x.1 = 0 ∨ x.2 = am_len x.1) := am_okOf am_c_X5_isLocal_ok (fun pc h => by unfold am_c_X5_isLocal; rw [h]; rfl)
def am_m_X5_isLocal : am_M := ((5, 6, false, 3, 70, am_c_X5_isLocal), cX5_isLocal, (some .boolean), yX5_isLocal, 1)
abbrev am_i_X5_isLocal : Nat := 70
theorem am_k_X5_isSame : ∀ (pc : Nat) (x : Instr × Nat), am_c_X5_isSame pc = some x → decode cX5_isSame pc = .ok x ∧ (am_len x.1 = 0 ∨ x.2 = am_len x.1) := am_okOf am_c_X5_isSame_ok (fun pc h => by unfold am_c_X5_isSame; rw [h]; rfl)
def am_m_X5_isSame : am_M := ((5, 5, false, 2, 46, am_c_X5_isSame), cX5_isSame, (some .boolean), yX5_isSame, 1)
abbrev am_i_X5_isSame : Nat := 71
theorem am_k_X5_isBody : ∀ (pc : Nat) (x : Instr × Nat), am_c_X5_isBody pc = some x → decode cX5_isBody pc = .ok x ∧ (am_len x.1 = 0 ∨ x.2 = am_len x.1) := am_okOf am_c_X5_isBody_ok (fun pc h => by unfold am_c_X5_isBody; rw [h]; rfl)
def am_m_X5_isBody : am_M := ((5, 2, false, 2, 46, am_c_X5_isBody), cX5_isBody, (some .boolean), yX5_isBody, 1)
abbrev am_i_X5_isBody : Nat := 72
theorem am_k_X5_layOut : ∀ (pc : Nat) (x : Instr × Nat), am_c_X5_layOut pc = some x → decode cX5_layOut pc = .ok x ∧ (am_len x.1 = 0 ∨ x.2 = am_len x.1) := am_okOf am_c_X5_layOut_ok (fun pc h => by unfold am_c_X5_layOut; rw [h]; rfl)
def am_m_X5_layOut : am_M := ((5, 8, false, 5, 113, am_c_X5_layOut), cX5_layOut, none, yX5_layOut, 2)
abbrev am_i_X5_layOut : Nat := 73
theorem am_k_X5_addLocal : ∀ (pc : Nat) (x : Instr × Nat), am_c_X5_addLocal pc = some x → decode cX5_addLocal pc = .ok x ∧ (am_len x.1 = 0 ∨ x.2 = am_len x.1) := am_okOf am_c_X5_addLocal_ok (fun pc h => by unfold am_c_X5_addLocal; rw [h]; rfl)
def am_m_X5_addLocal : am_M := ((5, 3, false, 3, 67, am_c_X5_addLocal), cX5_addLocal, none, yX5_addLocal, 2)
abbrev am_i_X5_addLocal : Nat := 74
theorem am_k_X5_titleBytes : ∀ (pc : Nat) (x : Instr × Nat), am_c_X5_titleBytes pc = some x → decode cX5_titleBytes pc = .ok x ∧ (am_len x.1 = 0 ∨ x.2 = am_len x.1) := am_okOf am_c_X5_titleBytes_ok (fun pc h => by unfold am_c_X5_titleBytes; rw [h]; rfl)
def am_m_X5_titleBytes : am_M := ((5, 1, false, 1, 20, am_c_X5_titleBytes), cX5_titleBytes, (some .int), yX5_titleBytes, 1)
abbrev am_i_X5_titleBytes : Nat := 75
theorem am_k_X5_setSize : ∀ (pc : Nat) (x : Instr × Nat), am_c_X5_setSize pc = some x → decode cX5_setSize pc = .ok x ∧ (am_len x.1 = 0 ∨ x.2 = am_len x.1) := am_okOf am_c_X5_setSize_ok (fun pc h => by unfold am_c_X5_setSize; rw [h]; rfl)
def am_m_X5_setSize : am_M := ((5, 4, false, 1, 22, am_c_X5_setSize), cX5_setSize, none, yX5_setSize, 2)
abbrev am_i_X5_setSize : Nat := 76
theorem am_k_X5_addEntries : ∀ (pc : Nat) (x : Instr × Nat), am_c_X5_addEntries pc = some x → decode cX5_addEntries pc = .ok x ∧ (am_len x.1 = 0 ∨ x.2 = am_len x.1) := am_okOf am_c_X5_addEntries_ok (fun pc h => by unfold am_c_X5_addEntries; rw [h]; rfl)
def am_m_X5_addEntries : am_M := ((5, 6, false, 3, 67, am_c_X5_addEntries), cX5_addEntries, none, yX5_addEntries, 1)
abbrev am_i_X5_addEntries : Nat := 77
theorem am_k_X6_init : ∀ (pc : Nat) (x : Instr × Nat), am_c_X6_init pc = some x → decode cX6_init pc = .ok x ∧ (am_len x.1 = 0 ∨ x.2 = am_len x.1) := am_okOf am_c_X6_init_ok (fun pc h => by unfold am_c_X6_init; rw [h]; rfl)
def am_m_X6_init : am_M := ((6, 1, true, 1, 20, am_c_X6_init), cX6_init, none, yX6_init, 0)
abbrev am_i_X6_init : Nat := 78
theorem am_k_X6_number : ∀ (pc : Nat) (x : Instr × Nat), am_c_X6_number pc = some x → decode cX6_number pc = .ok x ∧ (am_len x.1 = 0 ∨ x.2 = am_len x.1) := am_okOf am_c_X6_number_ok (fun pc h => by unfold am_c_X6_number; rw [h]; rfl)
def am_m_X6_number : am_M := ((6, 1, false, 0, 0, am_c_X6_number), cX6_number, (some .int), yX6_number, 0)
abbrev am_i_X6_number : Nat := 79
theorem am_k_X6_place : ∀ (pc : Nat) (x : Instr × Nat), am_c_X6_place pc = some x → decode cX6_place pc = .ok x ∧ (am_len x.1 = 0 ∨ x.2 = am_len x.1) := am_okOf am_c_X6_place_ok (fun pc h => by unfold am_c_X6_place; rw [h]; rfl)
def am_m_X6_place : am_M := ((6, 1, false, 0, 0, am_c_X6_place), cX6_place, (some .int), yX6_place, 0)
abbrev am_i_X6_place : Nat := 80
theorem am_k_X6_clear : ∀ (pc : Nat) (x : Instr × Nat), am_c_X6_clear pc = some x → decode cX6_clear pc = .ok x ∧ (am_len x.1 = 0 ∨ x.2 = am_len x.1) := am_okOf am_c_X6_clear_ok (fun pc h => by unfold am_c_X6_clear; rw [h]; rfl)
def am_m_X6_clear : am_M := ((6, 1, false, 0, 0, am_c_X6_clear), cX6_clear, none, yX6_clear, 0)
abbrev am_i_X6_clear : Nat := 81
theorem am_k_X6_tell : ∀ (pc : Nat) (x : Instr × Nat), am_c_X6_tell pc = some x → decode cX6_tell pc = .ok x ∧ (am_len x.1 = 0 ∨ x.2 = am_len x.1) := am_okOf am_c_X6_tell_ok (fun pc h => by unfold am_c_X6_tell; rw [h]; rfl)
def am_m_X6_tell : am_M := ((6, 3, false, 0, 0, am_c_X6_tell), cX6_tell, (some .boolean), yX6_tell, 2)
abbrev am_i_X6_tell : Nat := 82
theorem am_k_X7_init : ∀ (pc : Nat) (x : Instr × Nat), am_c_X7_init pc = some x → decode cX7_init pc = .ok x ∧ (am_len x.1 = 0 ∨ x.2 = am_len x.1) := am_okOf am_c_X7_init_ok (fun pc h => by unfold am_c_X7_init; rw [h]; rfl)
def am_m_X7_init : am_M := ((7, 1, true, 2, 41, am_c_X7_init), cX7_init, none, yX7_init, 0)
abbrev am_i_X7_init : Nat := 83
theorem am_k_X8_init : ∀ (pc : Nat) (x : Instr × Nat), am_c_X8_init pc = some x → decode cX8_init pc = .ok x ∧ (am_len x.1 = 0 ∨ x.2 = am_len x.1) := am_okOf am_c_X8_init_ok (fun pc h => by unfold am_c_X8_init; rw [h]; rfl)
def am_m_X8_init : am_M := ((8, 2, true, 1, 20, am_c_X8_init), cX8_init, none, yX8_init, 1)
abbrev am_i_X8_init : Nat := 84
theorem am_k_X8_addPacked : ∀ (pc : Nat) (x : Instr × Nat), am_c_X8_addPacked pc = some x → decode cX8_addPacked pc = .ok x ∧ (am_len x.1 = 0 ∨ x.2 = am_len x.1) := am_okOf am_c_X8_addPacked_ok (fun pc h => by unfold am_c_X8_addPacked; rw [h]; rfl)
def am_m_X8_addPacked : am_M := ((8, 6, false, 4, 88, am_c_X8_addPacked), cX8_addPacked, none, yX8_addPacked, 1)
abbrev am_i_X8_addPacked : Nat := 85
theorem am_k_X8_longestBefore : ∀ (pc : Nat) (x : Instr × Nat), am_c_X8_longestBefore pc = some x → decode cX8_longestBefore pc = .ok x ∧ (am_len x.1 = 0 ∨ x.2 = am_len x.1) := am_okOf am_c_X8_longestBefore_ok (fun pc h => by unfold am_c_X8_longestBefore; rw [h]; rfl)
def am_m_X8_longestBefore : am_M := ((8, 7, false, 1, 40, am_c_X8_longestBefore), cX8_longestBefore, (some .int), yX8_longestBefore, 2)
abbrev am_i_X8_longestBefore : Nat := 86
theorem am_k_X8_lengthStep : ∀ (pc : Nat) (x : Instr × Nat), am_c_X8_lengthStep pc = some x → decode cX8_lengthStep pc = .ok x ∧ (am_len x.1 = 0 ∨ x.2 = am_len x.1) := am_okOf am_c_X8_lengthStep_ok (fun pc h => by unfold am_c_X8_lengthStep; rw [h]; rfl)
def am_m_X8_lengthStep : am_M := ((8, 3, false, 2, 40, am_c_X8_lengthStep), cX8_lengthStep, (some .int), yX8_lengthStep, 1)
abbrev am_i_X8_lengthStep : Nat := 87
theorem am_k_X8_distanceSymbol : ∀ (pc : Nat) (x : Instr × Nat), am_c_X8_distanceSymbol pc = some x → decode cX8_distanceSymbol pc = .ok x ∧ (am_len x.1 = 0 ∨ x.2 = am_len x.1) := am_okOf am_c_X8_distanceSymbol_ok (fun pc h => by unfold am_c_X8_distanceSymbol; rw [h]; rfl)
def am_m_X8_distanceSymbol : am_M := ((8, 2, false, 2, 40, am_c_X8_distanceSymbol), cX8_distanceSymbol, (some .int), yX8_distanceSymbol, 0)
abbrev am_i_X8_distanceSymbol : Nat := 88
theorem am_k_X8_addSymbol : ∀ (pc : Nat) (x : Instr × Nat), am_c_X8_addSymbol pc = some x → decode cX8_addSymbol pc = .ok x ∧ (am_len x.1 = 0 ∨ x.2 = am_len x.1) := am_okOf am_c_X8_addSymbol_ok (fun pc h => by unfold am_c_X8_addSymbol; rw [h]; rfl)
def am_m_X8_addSymbol : am_M := ((8, 2, false, 3, 67, am_c_X8_addSymbol), cX8_addSymbol, none, yX8_addSymbol, 1)
abbrev am_i_X8_addSymbol : Nat := 89
theorem am_k_X8_addCode : ∀ (pc : Nat) (x : Instr × Nat), am_c_X8_addCode pc = some x → decode cX8_addCode pc = .ok x ∧ (am_len x.1 = 0 ∨ x.2 = am_len x.1) := am_okOf am_c_X8_addCode_ok (fun pc h => by unfold am_c_X8_addCode; rw [h]; rfl)
def am_m_X8_addCode : am_M := ((8, 4, false, 2, 44, am_c_X8_addCode), cX8_addCode, none, yX8_addCode, 2)
abbrev am_i_X8_addCode : Nat := 90
theorem am_k_X8_addBits : ∀ (pc : Nat) (x : Instr × Nat), am_c_X8_addBits pc = some x → decode cX8_addBits pc = .ok x ∧ (am_len x.1 = 0 ∨ x.2 = am_len x.1) := am_okOf am_c_X8_addBits_ok (fun pc h => by unfold am_c_X8_addBits; rw [h]; rfl)
def am_m_X8_addBits : am_M := ((8, 4, false, 1, 21, am_c_X8_addBits), cX8_addBits, none, yX8_addBits, 2)
abbrev am_i_X8_addBits : Nat := 91
theorem am_k_X9_init : ∀ (pc : Nat) (x : Instr × Nat), am_c_X9_init pc = some x → decode cX9_init pc = .ok x ∧ (am_len x.1 = 0 ∨ x.2 = am_len x.1) := am_okOf am_c_X9_init_ok (fun pc h => by unfold am_c_X9_init; rw [h]; rfl)
def am_m_X9_init : am_M := ((9, 2, true, 3, 61, am_c_X9_init), cX9_init, none, yX9_init, 0)
abbrev am_i_X9_init : Nat := 92
theorem am_k_X9_size : ∀ (pc : Nat) (x : Instr × Nat), am_c_X9_size pc = some x → decode cX9_size pc = .ok x ∧ (am_len x.1 = 0 ∨ x.2 = am_len x.1) := am_okOf am_c_X9_size_ok (fun pc h => by unfold am_c_X9_size; rw [h]; rfl)
def am_m_X9_size : am_M := ((9, 1, false, 0, 0, am_c_X9_size), cX9_size, (some .int), yX9_size, 0)
abbrev am_i_X9_size : Nat := 93
theorem am_k_X9_clear : ∀ (pc : Nat) (x : Instr × Nat), am_c_X9_clear pc = some x → decode cX9_clear pc = .ok x ∧ (am_len x.1 = 0 ∨ x.2 = am_len x.1) := am_okOf am_c_X9_clear_ok (fun pc h => by unfold am_c_X9_clear; rw [h]; rfl)
def am_m_X9_clear : am_M := ((9, 1, false, 0, 0, am_c_X9_clear), cX9_clear, none, yX9_clear, 0)
abbrev am_i_X9_clear : Nat := 94
theorem am_k_X9_member : ∀ (pc : Nat) (x : Instr × Nat), am_c_X9_member pc = some x → decode cX9_member pc = .ok x ∧ (am_len x.1 = 0 ∨ x.2 = am_len x.1) := am_okOf am_c_X9_member_ok (fun pc h => by unfold am_c_X9_member; rw [h]; rfl)
def am_m_X9_member : am_M := ((9, 2, false, 0, 0, am_c_X9_member), cX9_member, (some (.object "ArchiveShelf$Member")), yX9_member, 1)
abbrev am_i_X9_member : Nat := 95
theorem am_k_X9_find : ∀ (pc : Nat) (x : Instr × Nat), am_c_X9_find pc = some x → decode cX9_find pc = .ok x ∧ (am_len x.1 = 0 ∨ x.2 = am_len x.1) := am_okOf am_c_X9_find_ok (fun pc h => by unfold am_c_X9_find; rw [h]; rfl)
def am_m_X9_find : am_M := ((9, 4, false, 2, 43, am_c_X9_find), cX9_find, (some .int), yX9_find, 1)
abbrev am_i_X9_find : Nat := 96
theorem am_k_X9_hasUnder : ∀ (pc : Nat) (x : Instr × Nat), am_c_X9_hasUnder pc = some x → decode cX9_hasUnder pc = .ok x ∧ (am_len x.1 = 0 ∨ x.2 = am_len x.1) := am_okOf am_c_X9_hasUnder_ok (fun pc h => by unfold am_c_X9_hasUnder; rw [h]; rfl)
def am_m_X9_hasUnder : am_M := ((9, 4, false, 3, 64, am_c_X9_hasUnder), cX9_hasUnder, (some .boolean), yX9_hasUnder, 1)
abbrev am_i_X9_hasUnder : Nat := 97
theorem am_k_X9_isInTheWay : ∀ (pc : Nat) (x : Instr × Nat), am_c_X9_isInTheWay pc = some x → decode cX9_isInTheWay pc = .ok x ∧ (am_len x.1 = 0 ∨ x.2 = am_len x.1) := am_okOf am_c_X9_isInTheWay_ok (fun pc h => by unfold am_c_X9_isInTheWay; rw [h]; rfl)
def am_m_X9_isInTheWay : am_M := ((9, 5, false, 3, 64, am_c_X9_isInTheWay), cX9_isInTheWay, (some .boolean), yX9_isInTheWay, 2)
abbrev am_i_X9_isInTheWay : Nat := 98
theorem am_k_X9_hasRoomFor : ∀ (pc : Nat) (x : Instr × Nat), am_c_X9_hasRoomFor pc = some x → decode cX9_hasRoomFor pc = .ok x ∧ (am_len x.1 = 0 ∨ x.2 = am_len x.1) := am_okOf am_c_X9_hasRoomFor_ok (fun pc h => by unfold am_c_X9_hasRoomFor; rw [h]; rfl)
def am_m_X9_hasRoomFor : am_M := ((9, 2, false, 3, 66, am_c_X9_hasRoomFor), cX9_hasRoomFor, (some .boolean), yX9_hasRoomFor, 1)
abbrev am_i_X9_hasRoomFor : Nat := 99
theorem am_k_X9_drop : ∀ (pc : Nat) (x : Instr × Nat), am_c_X9_drop pc = some x → decode cX9_drop pc = .ok x ∧ (am_len x.1 = 0 ∨ x.2 = am_len x.1) := am_okOf am_c_X9_drop_ok (fun pc h => by unfold am_c_X9_drop; rw [h]; rfl)
def am_m_X9_drop : am_M := ((9, 4, false, 1, 21, am_c_X9_drop), cX9_drop, none, yX9_drop, 1)
abbrev am_i_X9_drop : Nat := 100
theorem am_k_X9_take : ∀ (pc : Nat) (x : Instr × Nat), am_c_X9_take pc = some x → decode cX9_take pc = .ok x ∧ (am_len x.1 = 0 ∨ x.2 = am_len x.1) := am_okOf am_c_X9_take_ok (fun pc h => by unfold am_c_X9_take; rw [h]; rfl)
def am_m_X9_take : am_M := ((9, 7, false, 3, 66, am_c_X9_take), cX9_take, none, yX9_take, 5)
abbrev am_i_X9_take : Nat := 101
theorem am_k_X9_children : ∀ (pc : Nat) (x : Instr × Nat), am_c_X9_children pc = some x → decode cX9_children pc = .ok x ∧ (am_len x.1 = 0 ∨ x.2 = am_len x.1) := am_okOf am_c_X9_children_ok (fun pc h => by unfold am_c_X9_children; rw [h]; rfl)
def am_m_X9_children : am_M := ((9, 4, false, 4, 92, am_c_X9_children), cX9_children, (some .int), yX9_children, 1)
abbrev am_i_X9_children : Nat := 102
theorem am_k_X9_firstOfChild : ∀ (pc : Nat) (x : Instr × Nat), am_c_X9_firstOfChild pc = some x → decode cX9_firstOfChild pc = .ok x ∧ (am_len x.1 = 0 ∨ x.2 = am_len x.1) := am_okOf am_c_X9_firstOfChild_ok (fun pc h => by unfold am_c_X9_firstOfChild; rw [h]; rfl)
def am_m_X9_firstOfChild : am_M := ((9, 5, false, 4, 92, am_c_X9_firstOfChild), cX9_firstOfChild, (some .int), yX9_firstOfChild, 2)
abbrev am_i_X9_firstOfChild : Nat := 103
theorem am_k_X9_isFirstOfChild : ∀ (pc : Nat) (x : Instr × Nat), am_c_X9_isFirstOfChild pc = some x → decode cX9_isFirstOfChild pc = .ok x ∧ (am_len x.1 = 0 ∨ x.2 = am_len x.1) := am_okOf am_c_X9_isFirstOfChild_ok (fun pc h => by unfold am_c_X9_isFirstOfChild; rw [h]; rfl)
def am_m_X9_isFirstOfChild : am_M := ((9, 6, false, 3, 67, am_c_X9_isFirstOfChild), cX9_isFirstOfChild, (some .boolean), yX9_isFirstOfChild, 2)
abbrev am_i_X9_isFirstOfChild : Nat := 104
theorem am_k_X9_isSamePart : ∀ (pc : Nat) (x : Instr × Nat), am_c_X9_isSamePart pc = some x → decode cX9_isSamePart pc = .ok x ∧ (am_len x.1 = 0 ∨ x.2 = am_len x.1) := am_okOf am_c_X9_isSamePart_ok (fun pc h => by unfold am_c_X9_isSamePart; rw [h]; rfl)
def am_m_X9_isSamePart : am_M := ((9, 5, false, 2, 43, am_c_X9_isSamePart), cX9_isSamePart, (some .boolean), yX9_isSamePart, 3)
abbrev am_i_X9_isSamePart : Nat := 105
theorem am_k_X10_init : ∀ (pc : Nat) (x : Instr × Nat), am_c_X10_init pc = some x → decode cX10_init pc = .ok x ∧ (am_len x.1 = 0 ∨ x.2 = am_len x.1) := am_okOf am_c_X10_init_ok (fun pc h => by unfold am_c_X10_init; rw [h]; rfl)
def am_m_X10_init : am_M := ((10, 4, true, 3, 86, am_c_X10_init), cX10_init, none, yX10_init, 3)
abbrev am_i_X10_init : Nat := 106
theorem am_k_X10_open : ∀ (pc : Nat) (x : Instr × Nat), am_c_X10_open pc = some x → decode cX10_open pc = .ok x ∧ (am_len x.1 = 0 ∨ x.2 = am_len x.1) := am_okOf am_c_X10_open_ok (fun pc h => by unfold am_c_X10_open; rw [h]; rfl)
def am_m_X10_open : am_M := ((10, 8, false, 4, 110, am_c_X10_open), cX10_open, (some .boolean), yX10_open, 3)
abbrev am_i_X10_open : Nat := 107
theorem am_k_X10_takeBits : ∀ (pc : Nat) (x : Instr × Nat), am_c_X10_takeBits pc = some x → decode cX10_takeBits pc = .ok x ∧ (am_len x.1 = 0 ∨ x.2 = am_len x.1) := am_okOf am_c_X10_takeBits_ok (fun pc h => by unfold am_c_X10_takeBits; rw [h]; rfl)
def am_m_X10_takeBits : am_M := ((10, 4, false, 1, 22, am_c_X10_takeBits), cX10_takeBits, (some .int), yX10_takeBits, 1)
abbrev am_i_X10_takeBits : Nat := 108
theorem am_k_X10_takeSymbol : ∀ (pc : Nat) (x : Instr × Nat), am_c_X10_takeSymbol pc = some x → decode cX10_takeSymbol pc = .ok x ∧ (am_len x.1 = 0 ∨ x.2 = am_len x.1) := am_okOf am_c_X10_takeSymbol_ok (fun pc h => by unfold am_c_X10_takeSymbol; rw [h]; rfl)
def am_m_X10_takeSymbol : am_M := ((10, 8, false, 1, 22, am_c_X10_takeSymbol), cX10_takeSymbol, (some .int), yX10_takeSymbol, 2)
abbrev am_i_X10_takeSymbol : Nat := 109
theorem am_k_X10_isStored : ∀ (pc : Nat) (x : Instr × Nat), am_c_X10_isStored pc = some x → decode cX10_isStored pc = .ok x ∧ (am_len x.1 = 0 ∨ x.2 = am_len x.1) := am_okOf am_c_X10_isStored_ok (fun pc h => by unfold am_c_X10_isStored; rw [h]; rfl)
def am_m_X10_isStored : am_M := ((10, 6, false, 2, 45, am_c_X10_isStored), cX10_isStored, (some .boolean), yX10_isStored, 0)
abbrev am_i_X10_isStored : Nat := 110
theorem am_k_X10_orderFixed : ∀ (pc : Nat) (x : Instr × Nat), am_c_X10_orderFixed pc = some x → decode cX10_orderFixed pc = .ok x ∧ (am_len x.1 = 0 ∨ x.2 = am_len x.1) := am_okOf am_c_X10_orderFixed_ok (fun pc h => by unfold am_c_X10_orderFixed; rw [h]; rfl)
def am_m_X10_orderFixed : am_M := ((10, 1, false, 2, 66, am_c_X10_orderFixed), cX10_orderFixed, none, yX10_orderFixed, 0)
abbrev am_i_X10_orderFixed : Nat := 111
theorem am_k_X10_fillLengths : ∀ (pc : Nat) (x : Instr × Nat), am_c_X10_fillLengths pc = some x → decode cX10_fillLengths pc = .ok x ∧ (am_len x.1 = 0 ∨ x.2 = am_len x.1) := am_okOf am_c_X10_fillLengths_ok (fun pc h => by unfold am_c_X10_fillLengths; rw [h]; rfl)
def am_m_X10_fillLengths : am_M := ((10, 5, false, 0, 0, am_c_X10_fillLengths), cX10_fillLengths, none, yX10_fillLengths, 3)
abbrev am_i_X10_fillLengths : Nat := 112
theorem am_k_X10_areLengthCodes : ∀ (pc : Nat) (x : Instr × Nat), am_c_X10_areLengthCodes pc = some x → decode cX10_areLengthCodes pc = .ok x ∧ (am_len x.1 = 0 ∨ x.2 = am_len x.1) := am_okOf am_c_X10_areLengthCodes_ok (fun pc h => by unfold am_c_X10_areLengthCodes; rw [h]; rfl)
def am_m_X10_areLengthCodes : am_M := ((10, 6, false, 2, 66, am_c_X10_areLengthCodes), cX10_areLengthCodes, (some .boolean), yX10_areLengthCodes, 0)
abbrev am_i_X10_areLengthCodes : Nat := 113
theorem am_k_X10_areLengths : ∀ (pc : Nat) (x : Instr × Nat), am_c_X10_areLengths pc = some x → decode cX10_areLengths pc = .ok x ∧ (am_len x.1 = 0 ∨ x.2 = am_len x.1) := am_okOf am_c_X10_areLengths_ok (fun pc h => by unfold am_c_X10_areLengths; rw [h]; rfl)
def am_m_X10_areLengths : am_M := ((10, 4, false, 3, 87, am_c_X10_areLengths), cX10_areLengths, (some .boolean), yX10_areLengths, 0)
abbrev am_i_X10_areLengths : Nat := 114
theorem am_k_X10_isRepeated : ∀ (pc : Nat) (x : Instr × Nat), am_c_X10_isRepeated pc = some x → decode cX10_isRepeated pc = .ok x ∧ (am_len x.1 = 0 ∨ x.2 = am_len x.1) := am_okOf am_c_X10_isRepeated_ok (fun pc h => by unfold am_c_X10_isRepeated; rw [h]; rfl)
def am_m_X10_isRepeated : am_M := ((10, 7, false, 2, 45, am_c_X10_isRepeated), cX10_isRepeated, (some .boolean), yX10_isRepeated, 1)
abbrev am_i_X10_isRepeated : Nat := 115
theorem am_k_X10_lengthAt : ∀ (pc : Nat) (x : Instr × Nat), am_c_X10_lengthAt pc = some x → decode cX10_lengthAt pc = .ok x ∧ (am_len x.1 = 0 ∨ x.2 = am_len x.1) := am_okOf am_c_X10_lengthAt_ok (fun pc h => by unfold am_c_X10_lengthAt; rw [h]; rfl)
def am_m_X10_lengthAt : am_M := ((10, 2, false, 0, 0, am_c_X10_lengthAt), cX10_lengthAt, (some .int), yX10_lengthAt, 1)
abbrev am_i_X10_lengthAt : Nat := 116
theorem am_k_X10_areSymbolLengths : ∀ (pc : Nat) (x : Instr × Nat), am_c_X10_areSymbolLengths pc = some x → decode cX10_areSymbolLengths pc = .ok x ∧ (am_len x.1 = 0 ∨ x.2 = am_len x.1) := am_okOf am_c_X10_areSymbolLengths_ok (fun pc h => by unfold am_c_X10_areSymbolLengths; rw [h]; rfl)
def am_m_X10_areSymbolLengths : am_M := ((10, 2, false, 2, 66, am_c_X10_areSymbolLengths), cX10_areSymbolLengths, (some .boolean), yX10_areSymbolLengths, 1)
abbrev am_i_X10_areSymbolLengths : Nat := 117
theorem am_k_X10_areSymbols : ∀ (pc : Nat) (x : Instr × Nat), am_c_X10_areSymbols pc = some x → decode cX10_areSymbols pc = .ok x ∧ (am_len x.1 = 0 ∨ x.2 = am_len x.1) := am_okOf am_c_X10_areSymbols_ok (fun pc h => by unfold am_c_X10_areSymbols; rw [h]; rfl)
def am_m_X10_areSymbols : am_M := ((10, 6, false, 3, 78, am_c_X10_areSymbols), cX10_areSymbols, (some .boolean), yX10_areSymbols, 2)
abbrev am_i_X10_areSymbols : Nat := 118
theorem am_k_X10_isCopied : ∀ (pc : Nat) (x : Instr × Nat), am_c_X10_isCopied pc = some x → decode cX10_isCopied pc = .ok x ∧ (am_len x.1 = 0 ∨ x.2 = am_len x.1) := am_okOf am_c_X10_isCopied_ok (fun pc h => by unfold am_c_X10_isCopied; rw [h]; rfl)
def am_m_X10_isCopied : am_M := ((10, 10, false, 2, 49, am_c_X10_isCopied), cX10_isCopied, (some .boolean), yX10_isCopied, 3)
abbrev am_i_X10_isCopied : Nat := 119
theorem am_k_X11_init : ∀ (pc : Nat) (x : Instr × Nat), am_c_X11_init pc = some x → decode cX11_init pc = .ok x ∧ (am_len x.1 = 0 ∨ x.2 = am_len x.1) := am_okOf am_c_X11_init_ok (fun pc h => by unfold am_c_X11_init; rw [h]; rfl)
def am_m_X11_init : am_M := ((11, 1, true, 4, 109, am_c_X11_init), cX11_init, none, yX11_init, 0)
abbrev am_i_X11_init : Nat := 120
theorem am_k_X11_type : ∀ (pc : Nat) (x : Instr × Nat), am_c_X11_type pc = some x → decode cX11_type pc = .ok x ∧ (am_len x.1 = 0 ∨ x.2 = am_len x.1) := am_okOf am_c_X11_type_ok (fun pc h => by unfold am_c_X11_type; rw [h]; rfl)
def am_m_X11_type : am_M := ((11, 4, false, 6, 82, am_c_X11_type), cX11_type, (some .int), yX11_type, 2)
abbrev am_i_X11_type : Nat := 121
theorem am_k_X11_keep : ∀ (pc : Nat) (x : Instr × Nat), am_c_X11_keep pc = some x → decode cX11_keep pc = .ok x ∧ (am_len x.1 = 0 ∨ x.2 = am_len x.1) := am_okOf am_c_X11_keep_ok (fun pc h => by unfold am_c_X11_keep; rw [h]; rfl)
def am_m_X11_keep : am_M := ((11, 2, false, 6, 82, am_c_X11_keep), cX11_keep, none, yX11_keep, 1)
abbrev am_i_X11_keep : Nat := 122
theorem am_k_X11_typed : ∀ (pc : Nat) (x : Instr × Nat), am_c_X11_typed pc = some x → decode cX11_typed pc = .ok x ∧ (am_len x.1 = 0 ∨ x.2 = am_len x.1) := am_okOf am_c_X11_typed_ok (fun pc h => by unfold am_c_X11_typed; rw [h]; rfl)
def am_m_X11_typed : am_M := ((11, 2, false, 6, 82, am_c_X11_typed), cX11_typed, (some .int), yX11_typed, 1)
abbrev am_i_X11_typed : Nat := 123
theorem am_k_X11_come : ∀ (pc : Nat) (x : Instr × Nat), am_c_X11_come pc = some x → decode cX11_come pc = .ok x ∧ (am_len x.1 = 0 ∨ x.2 = am_len x.1) := am_okOf am_c_X11_come_ok (fun pc h => by unfold am_c_X11_come; rw [h]; rfl)
def am_m_X11_come : am_M := ((11, 3, false, 6, 92, am_c_X11_come), cX11_come, (some .int), yX11_come, 2)
abbrev am_i_X11_come : Nat := 124
theorem am_k_X11_go : ∀ (pc : Nat) (x : Instr × Nat), am_c_X11_go pc = some x → decode cX11_go pc = .ok x ∧ (am_len x.1 = 0 ∨ x.2 = am_len x.1) := am_okOf am_c_X11_go_ok (fun pc h => by unfold am_c_X11_go; rw [h]; rfl)
def am_m_X11_go : am_M := ((11, 2, false, 6, 82, am_c_X11_go), cX11_go, (some .int), yX11_go, 1)
abbrev am_i_X11_go : Nat := 125
theorem am_k_X11_name : ∀ (pc : Nat) (x : Instr × Nat), am_c_X11_name pc = some x → decode cX11_name pc = .ok x ∧ (am_len x.1 = 0 ∨ x.2 = am_len x.1) := am_okOf am_c_X11_name_ok (fun pc h => by unfold am_c_X11_name; rw [h]; rfl)
def am_m_X11_name : am_M := ((11, 4, false, 6, 82, am_c_X11_name), cX11_name, (some .int), yX11_name, 2)
abbrev am_i_X11_name : Nat := 126
theorem am_k_X11_byteAt : ∀ (pc : Nat) (x : Instr × Nat), am_c_X11_byteAt pc = some x → decode cX11_byteAt pc = .ok x ∧ (am_len x.1 = 0 ∨ x.2 = am_len x.1) := am_okOf am_c_X11_byteAt_ok (fun pc h => by unfold am_c_X11_byteAt; rw [h]; rfl)
def am_m_X11_byteAt : am_M := ((11, 4, false, 6, 82, am_c_X11_byteAt), cX11_byteAt, (some .int), yX11_byteAt, 2)
abbrev am_i_X11_byteAt : Nat := 127
theorem am_k_X11_kind : ∀ (pc : Nat) (x : Instr × Nat), am_c_X11_kind pc = some x → decode cX11_kind pc = .ok x ∧ (am_len x.1 = 0 ∨ x.2 = am_len x.1) := am_okOf am_c_X11_kind_ok (fun pc h => by unfold am_c_X11_kind; rw [h]; rfl)
def am_m_X11_kind : am_M := ((11, 2, false, 4, 87, am_c_X11_kind), cX11_kind, (some .int), yX11_kind, 0)
abbrev am_i_X11_kind : Nat := 128
theorem am_k_X11_child : ∀ (pc : Nat) (x : Instr × Nat), am_c_X11_child pc = some x → decode cX11_child pc = .ok x ∧ (am_len x.1 = 0 ∨ x.2 = am_len x.1) := am_okOf am_c_X11_child_ok (fun pc h => by unfold am_c_X11_child; rw [h]; rfl)
def am_m_X11_child : am_M := ((11, 6, false, 6, 116, am_c_X11_child), cX11_child, (some .int), yX11_child, 2)
abbrev am_i_X11_child : Nat := 129
theorem am_k_X11_write : ∀ (pc : Nat) (x : Instr × Nat), am_c_X11_write pc = some x → decode cX11_write pc = .ok x ∧ (am_len x.1 = 0 ∨ x.2 = am_len x.1) := am_okOf am_c_X11_write_ok (fun pc h => by unfold am_c_X11_write; rw [h]; rfl)
def am_m_X11_write : am_M := ((11, 4, false, 8, 214, am_c_X11_write), cX11_write, (some .int), yX11_write, 2)
abbrev am_i_X11_write : Nat := 130
theorem am_k_X11_read : ∀ (pc : Nat) (x : Instr × Nat), am_c_X11_read pc = some x → decode cX11_read pc = .ok x ∧ (am_len x.1 = 0 ∨ x.2 = am_len x.1) := am_okOf am_c_X11_read_ok (fun pc h => by unfold am_c_X11_read; rw [h]; rfl)
def am_m_X11_read : am_M := ((11, 4, false, 7, 194, am_c_X11_read), cX11_read, (some .int), yX11_read, 1)
abbrev am_i_X11_read : Nat := 131
theorem am_k_X11_fault : ∀ (pc : Nat) (x : Instr × Nat), am_c_X11_fault pc = some x → decode cX11_fault pc = .ok x ∧ (am_len x.1 = 0 ∨ x.2 = am_len x.1) := am_okOf am_c_X11_fault_ok (fun pc h => by unfold am_c_X11_fault; rw [h]; rfl)
def am_m_X11_fault : am_M := ((11, 2, false, 6, 82, am_c_X11_fault), cX11_fault, (some .int), yX11_fault, 1)
abbrev am_i_X11_fault : Nat := 132
theorem am_k_X11_pack : ∀ (pc : Nat) (x : Instr × Nat), am_c_X11_pack pc = some x → decode cX11_pack pc = .ok x ∧ (am_len x.1 = 0 ∨ x.2 = am_len x.1) := am_okOf am_c_X11_pack_ok (fun pc h => by unfold am_c_X11_pack; rw [h]; rfl)
def am_m_X11_pack : am_M := ((11, 1, false, 5, 113, am_c_X11_pack), cX11_pack, (some .int), yX11_pack, 0)
abbrev am_i_X11_pack : Nat := 133
theorem am_k_X11_unpack : ∀ (pc : Nat) (x : Instr × Nat), am_c_X11_unpack pc = some x → decode cX11_unpack pc = .ok x ∧ (am_len x.1 = 0 ∨ x.2 = am_len x.1) := am_okOf am_c_X11_unpack_ok (fun pc h => by unfold am_c_X11_unpack; rw [h]; rfl)
def am_m_X11_unpack : am_M := ((11, 1, false, 5, 137, am_c_X11_unpack), cX11_unpack, (some .int), yX11_unpack, 0)
abbrev am_i_X11_unpack : Nat := 134
theorem am_k_X11_check : ∀ (pc : Nat) (x : Instr × Nat), am_c_X11_check pc = some x → decode cX11_check pc = .ok x ∧ (am_len x.1 = 0 ∨ x.2 = am_len x.1) := am_okOf am_c_X11_check_ok (fun pc h => by unfold am_c_X11_check; rw [h]; rfl)
def am_m_X11_check : am_M := ((11, 1, false, 2, 44, am_c_X11_check), cX11_check, (some .int), yX11_check, 0)
abbrev am_i_X11_check : Nat := 135
theorem am_k_X11_feed : ∀ (pc : Nat) (x : Instr × Nat), am_c_X11_feed pc = some x → decode cX11_feed pc = .ok x ∧ (am_len x.1 = 0 ∨ x.2 = am_len x.1) := am_okOf am_c_X11_feed_ok (fun pc h => by unfold am_c_X11_feed; rw [h]; rfl)
def am_m_X11_feed : am_M := ((11, 6, false, 6, 82, am_c_X11_feed), cX11_feed, (some .int), yX11_feed, 5)
abbrev am_i_X11_feed : Nat := 136
theorem am_k_X11_end : ∀ (pc : Nat) (x : Instr × Nat), am_c_X11_end pc = some x → decode cX11_end pc = .ok x ∧ (am_len x.1 = 0 ∨ x.2 = am_len x.1) := am_okOf am_c_X11_end_ok (fun pc h => by unfold am_c_X11_end; rw [h]; rfl)
def am_m_X11_end : am_M := ((11, 2, false, 6, 82, am_c_X11_end), cX11_end, none, yX11_end, 1)
abbrev am_i_X11_end : Nat := 137
theorem am_k_X11_poke : ∀ (pc : Nat) (x : Instr × Nat), am_c_X11_poke pc = some x → decode cX11_poke pc = .ok x ∧ (am_len x.1 = 0 ∨ x.2 = am_len x.1) := am_okOf am_c_X11_poke_ok (fun pc h => by unfold am_c_X11_poke; rw [h]; rfl)
def am_m_X11_poke : am_M := ((11, 4, false, 6, 82, am_c_X11_poke), cX11_poke, (some .int), yX11_poke, 2)
abbrev am_i_X11_poke : Nat := 138
theorem am_k_X11_at : ∀ (pc : Nat) (x : Instr × Nat), am_c_X11_at pc = some x → decode cX11_at pc = .ok x ∧ (am_len x.1 = 0 ∨ x.2 = am_len x.1) := am_okOf am_c_X11_at_ok (fun pc h => by unfold am_c_X11_at; rw [h]; rfl)
def am_m_X11_at : am_M := ((11, 6, false, 6, 82, am_c_X11_at), cX11_at, (some .long), yX11_at, 2)
abbrev am_i_X11_at : Nat := 139
theorem am_k_X11_count : ∀ (pc : Nat) (x : Instr × Nat), am_c_X11_count pc = some x → decode cX11_count pc = .ok x ∧ (am_len x.1 = 0 ∨ x.2 = am_len x.1) := am_okOf am_c_X11_count_ok (fun pc h => by unfold am_c_X11_count; rw [h]; rfl)
def am_m_X11_count : am_M := ((11, 2, false, 6, 82, am_c_X11_count), cX11_count, (some .int), yX11_count, 1)
abbrev am_i_X11_count : Nat := 140
theorem am_k_X11_archiveOf : ∀ (pc : Nat) (x : Instr × Nat), am_c_X11_archiveOf pc = some x → decode cX11_archiveOf pc = .ok x ∧ (am_len x.1 = 0 ∨ x.2 = am_len x.1) := am_okOf am_c_X11_archiveOf_ok (fun pc h => by unfold am_c_X11_archiveOf; rw [h]; rfl)
def am_m_X11_archiveOf : am_M := ((11, 2, false, 0, 0, am_c_X11_archiveOf), cX11_archiveOf, (some (.object "ArchiveShelf$Archive")), yX11_archiveOf, 1)
abbrev am_i_X11_archiveOf : Nat := 141
theorem am_k_X11_isName : ∀ (pc : Nat) (x : Instr × Nat), am_c_X11_isName pc = some x → decode cX11_isName pc = .ok x ∧ (am_len x.1 = 0 ∨ x.2 = am_len x.1) := am_okOf am_c_X11_isName_ok (fun pc h => by unfold am_c_X11_isName; rw [h]; rfl)
def am_m_X11_isName : am_M := ((11, 4, false, 2, 44, am_c_X11_isName), cX11_isName, (some .boolean), yX11_isName, 1)
abbrev am_i_X11_isName : Nat := 142
theorem am_k_X11_isPart : ∀ (pc : Nat) (x : Instr × Nat), am_c_X11_isPart pc = some x → decode cX11_isPart pc = .ok x ∧ (am_len x.1 = 0 ∨ x.2 = am_len x.1) := am_okOf am_c_X11_isPart_ok (fun pc h => by unfold am_c_X11_isPart; rw [h]; rfl)
def am_m_X11_isPart : am_M := ((11, 4, false, 1, 21, am_c_X11_isPart), cX11_isPart, (some .boolean), yX11_isPart, 3)
abbrev am_i_X11_isPart : Nat := 143
theorem am_k_X11_partBehind : ∀ (pc : Nat) (x : Instr × Nat), am_c_X11_partBehind pc = some x → decode cX11_partBehind pc = .ok x ∧ (am_len x.1 = 0 ∨ x.2 = am_len x.1) := am_okOf am_c_X11_partBehind_ok (fun pc h => by unfold am_c_X11_partBehind; rw [h]; rfl)
def am_m_X11_partBehind : am_M := ((11, 1, false, 1, 20, am_c_X11_partBehind), cX11_partBehind, (some .int), yX11_partBehind, 1)
abbrev am_i_X11_partBehind : Nat := 144
theorem am_k_X11_partLength : ∀ (pc : Nat) (x : Instr × Nat), am_c_X11_partLength pc = some x → decode cX11_partLength pc = .ok x ∧ (am_len x.1 = 0 ∨ x.2 = am_len x.1) := am_okOf am_c_X11_partLength_ok (fun pc h => by unfold am_c_X11_partLength; rw [h]; rfl)
def am_m_X11_partLength : am_M := ((11, 3, false, 1, 21, am_c_X11_partLength), cX11_partLength, (some .int), yX11_partLength, 2)
abbrev am_i_X11_partLength : Nat := 145
theorem am_k_X11_checkOf : ∀ (pc : Nat) (x : Instr × Nat), am_c_X11_checkOf pc = some x → decode cX11_checkOf pc = .ok x ∧ (am_len x.1 = 0 ∨ x.2 = am_len x.1) := am_okOf am_c_X11_checkOf_ok (fun pc h => by unfold am_c_X11_checkOf; rw [h]; rfl)
def am_m_X11_checkOf : am_M := ((11, 4, false, 1, 21, am_c_X11_checkOf), cX11_checkOf, (some .int), yX11_checkOf, 1)
abbrev am_i_X11_checkOf : Nat := 146
theorem am_k_X11_roundedUp : ∀ (pc : Nat) (x : Instr × Nat), am_c_X11_roundedUp pc = some x → decode cX11_roundedUp pc = .ok x ∧ (am_len x.1 = 0 ∨ x.2 = am_len x.1) := am_okOf am_c_X11_roundedUp_ok (fun pc h => by unfold am_c_X11_roundedUp; rw [h]; rfl)
def am_m_X11_roundedUp : am_M := ((11, 3, false, 0, 0, am_c_X11_roundedUp), cX11_roundedUp, (some .int), yX11_roundedUp, 2)
abbrev am_i_X11_roundedUp : Nat := 147
theorem am_k_X11_lengthBits : ∀ (pc : Nat) (x : Instr × Nat), am_c_X11_lengthBits pc = some x → decode cX11_lengthBits pc = .ok x ∧ (am_len x.1 = 0 ∨ x.2 = am_len x.1) := am_okOf am_c_X11_lengthBits_ok (fun pc h => by unfold am_c_X11_lengthBits; rw [h]; rfl)
def am_m_X11_lengthBits : am_M := ((11, 1, false, 0, 0, am_c_X11_lengthBits), cX11_lengthBits, (some .int), yX11_lengthBits, 1)
abbrev am_i_X11_lengthBits : Nat := 148
theorem am_k_X11_lengthBase : ∀ (pc : Nat) (x : Instr × Nat), am_c_X11_lengthBase pc = some x → decode cX11_lengthBase pc = .ok x ∧ (am_len x.1 = 0 ∨ x.2 = am_len x.1) := am_okOf am_c_X11_lengthBase_ok (fun pc h => by unfold am_c_X11_lengthBase; rw [h]; rfl)
def am_m_X11_lengthBase : am_M := ((11, 1, false, 1, 20, am_c_X11_lengthBase), cX11_lengthBase, (some .int), yX11_lengthBase, 1)
abbrev am_i_X11_lengthBase : Nat := 149
theorem am_k_X11_distanceBits : ∀ (pc : Nat) (x : Instr × Nat), am_c_X11_distanceBits pc = some x → decode cX11_distanceBits pc = .ok x ∧ (am_len x.1 = 0 ∨ x.2 = am_len x.1) := am_okOf am_c_X11_distanceBits_ok (fun pc h => by unfold am_c_X11_distanceBits; rw [h]; rfl)
def am_m_X11_distanceBits : am_M := ((11, 1, false, 0, 0, am_c_X11_distanceBits), cX11_distanceBits, (some .int), yX11_distanceBits, 1)
abbrev am_i_X11_distanceBits : Nat := 150
theorem am_k_X11_distanceBase : ∀ (pc : Nat) (x : Instr × Nat), am_c_X11_distanceBase pc = some x → decode cX11_distanceBase pc = .ok x ∧ (am_len x.1 = 0 ∨ x.2 = am_len x.1) := am_okOf am_c_X11_distanceBase_ok (fun pc h => by unfold am_c_X11_distanceBase; rw [h]; rfl)
def am_m_X11_distanceBase : am_M := ((11, 1, false, 1, 20, am_c_X11_distanceBase), cX11_distanceBase, (some .int), yX11_distanceBase, 1)
abbrev am_i_X11_distanceBase : Nat := 151
theorem am_k_X12_init : ∀ (pc : Nat) (x : Instr × Nat), am_c_X12_init pc = some x → decode cX12_init pc = .ok x ∧ (am_len x.1 = 0 ∨ x.2 = am_len x.1) := am_okOf am_c_X12_init_ok (fun pc h => by unfold am_c_X12_init; rw [h]; rfl)
def am_m_X12_init : am_M := ((12, 1, true, 1, 20, am_c_X12_init), cX12_init, none, yX12_init, 0)
abbrev am_i_X12_init : Nat := 152
theorem am_k_X12_thrown : ∀ (pc : Nat) (x : Instr × Nat), am_c_X12_thrown pc = some x → decode cX12_thrown pc = .ok x ∧ (am_len x.1 = 0 ∨ x.2 = am_len x.1) := am_okOf am_c_X12_thrown_ok (fun pc h => by unfold am_c_X12_thrown; rw [h]; rfl)
def am_m_X12_thrown : am_M := ((12, 1, false, 0, 0, am_c_X12_thrown), cX12_thrown, (some .int), yX12_thrown, 0)
abbrev am_i_X12_thrown : Nat := 153
theorem am_k_X12_in : ∀ (pc : Nat) (x : Instr × Nat), am_c_X12_in pc = some x → decode cX12_in pc = .ok x ∧ (am_len x.1 = 0 ∨ x.2 = am_len x.1) := am_okOf am_c_X12_in_ok (fun pc h => by unfold am_c_X12_in; rw [h]; rfl)
def am_m_X12_in : am_M := ((12, 6, false, 0, 0, am_c_X12_in), cX12_in, (some .boolean), yX12_in, 3)
abbrev am_i_X12_in : Nat := 154
theorem am_k_X12_refuses : ∀ (pc : Nat) (x : Instr × Nat), am_c_X12_refuses pc = some x → decode cX12_refuses pc = .ok x ∧ (am_len x.1 = 0 ∨ x.2 = am_len x.1) := am_okOf am_c_X12_refuses_ok (fun pc h => by unfold am_c_X12_refuses; rw [h]; rfl)
def am_m_X12_refuses : am_M := ((12, 3, false, 0, 0, am_c_X12_refuses), cX12_refuses, (some .boolean), yX12_refuses, 2)
abbrev am_i_X12_refuses : Nat := 155
theorem am_k_X12_fails : ∀ (pc : Nat) (x : Instr × Nat), am_c_X12_fails pc = some x → decode cX12_fails pc = .ok x ∧ (am_len x.1 = 0 ∨ x.2 = am_len x.1) := am_okOf am_c_X12_fails_ok (fun pc h => by unfold am_c_X12_fails; rw [h]; rfl)
def am_m_X12_fails : am_M := ((12, 3, false, 0, 0, am_c_X12_fails), cX12_fails, (some .boolean), yX12_fails, 2)
abbrev am_i_X12_fails : Nat := 156
theorem am_k_X12_type : ∀ (pc : Nat) (x : Instr × Nat), am_c_X12_type pc = some x → decode cX12_type pc = .ok x ∧ (am_len x.1 = 0 ∨ x.2 = am_len x.1) := am_okOf am_c_X12_type_ok (fun pc h => by unfold am_c_X12_type; rw [h]; rfl)
def am_m_X12_type : am_M := ((12, 5, false, 1, 25, am_c_X12_type), cX12_type, (some .int), yX12_type, 2)
abbrev am_i_X12_type : Nat := 157
theorem am_k_X12_keep : ∀ (pc : Nat) (x : Instr × Nat), am_c_X12_keep pc = some x → decode cX12_keep pc = .ok x ∧ (am_len x.1 = 0 ∨ x.2 = am_len x.1) := am_okOf am_c_X12_keep_ok (fun pc h => by unfold am_c_X12_keep; rw [h]; rfl)
def am_m_X12_keep : am_M := ((12, 2, false, 1, 25, am_c_X12_keep), cX12_keep, none, yX12_keep, 1)
abbrev am_i_X12_keep : Nat := 158
theorem am_k_X12_typed : ∀ (pc : Nat) (x : Instr × Nat), am_c_X12_typed pc = some x → decode cX12_typed pc = .ok x ∧ (am_len x.1 = 0 ∨ x.2 = am_len x.1) := am_okOf am_c_X12_typed_ok (fun pc h => by unfold am_c_X12_typed; rw [h]; rfl)
def am_m_X12_typed : am_M := ((12, 2, false, 1, 25, am_c_X12_typed), cX12_typed, (some .int), yX12_typed, 1)
abbrev am_i_X12_typed : Nat := 159
theorem am_k_X12_put : ∀ (pc : Nat) (x : Instr × Nat), am_c_X12_put pc = some x → decode cX12_put pc = .ok x ∧ (am_len x.1 = 0 ∨ x.2 = am_len x.1) := am_okOf am_c_X12_put_ok (fun pc h => by unfold am_c_X12_put; rw [h]; rfl)
def am_m_X12_put : am_M := ((12, 2, false, 0, 0, am_c_X12_put), cX12_put, none, yX12_put, 1)
abbrev am_i_X12_put : Nat := 160
theorem am_k_X12_feed : ∀ (pc : Nat) (x : Instr × Nat), am_c_X12_feed pc = some x → decode cX12_feed pc = .ok x ∧ (am_len x.1 = 0 ∨ x.2 = am_len x.1) := am_okOf am_c_X12_feed_ok (fun pc h => by unfold am_c_X12_feed; rw [h]; rfl)
def am_m_X12_feed : am_M := ((12, 8, false, 1, 22, am_c_X12_feed), cX12_feed, (some .int), yX12_feed, 5)
abbrev am_i_X12_feed : Nat := 161
theorem am_k_X12_end : ∀ (pc : Nat) (x : Instr × Nat), am_c_X12_end pc = some x → decode cX12_end pc = .ok x ∧ (am_len x.1 = 0 ∨ x.2 = am_len x.1) := am_okOf am_c_X12_end_ok (fun pc h => by unfold am_c_X12_end; rw [h]; rfl)
def am_m_X12_end : am_M := ((12, 2, false, 1, 25, am_c_X12_end), cX12_end, none, yX12_end, 1)
abbrev am_i_X12_end : Nat := 162
theorem am_k_X12_poke : ∀ (pc : Nat) (x : Instr × Nat), am_c_X12_poke pc = some x → decode cX12_poke pc = .ok x ∧ (am_len x.1 = 0 ∨ x.2 = am_len x.1) := am_okOf am_c_X12_poke_ok (fun pc h => by unfold am_c_X12_poke; rw [h]; rfl)
def am_m_X12_poke : am_M := ((12, 4, false, 1, 25, am_c_X12_poke), cX12_poke, (some .int), yX12_poke, 2)
abbrev am_i_X12_poke : Nat := 163
theorem am_k_X12_at : ∀ (pc : Nat) (x : Instr × Nat), am_c_X12_at pc = some x → decode cX12_at pc = .ok x ∧ (am_len x.1 = 0 ∨ x.2 = am_len x.1) := am_okOf am_c_X12_at_ok (fun pc h => by unfold am_c_X12_at; rw [h]; rfl)
def am_m_X12_at : am_M := ((12, 6, false, 1, 25, am_c_X12_at), cX12_at, (some .long), yX12_at, 2)
abbrev am_i_X12_at : Nat := 164
theorem am_k_X12_count : ∀ (pc : Nat) (x : Instr × Nat), am_c_X12_count pc = some x → decode cX12_count pc = .ok x ∧ (am_len x.1 = 0 ∨ x.2 = am_len x.1) := am_okOf am_c_X12_count_ok (fun pc h => by unfold am_c_X12_count; rw [h]; rfl)
def am_m_X12_count : am_M := ((12, 2, false, 1, 25, am_c_X12_count), cX12_count, (some .int), yX12_count, 1)
abbrev am_i_X12_count : Nat := 165
theorem am_k_X12_fault : ∀ (pc : Nat) (x : Instr × Nat), am_c_X12_fault pc = some x → decode cX12_fault pc = .ok x ∧ (am_len x.1 = 0 ∨ x.2 = am_len x.1) := am_okOf am_c_X12_fault_ok (fun pc h => by unfold am_c_X12_fault; rw [h]; rfl)
def am_m_X12_fault : am_M := ((12, 2, false, 1, 25, am_c_X12_fault), cX12_fault, (some .int), yX12_fault, 1)
abbrev am_i_X12_fault : Nat := 166
theorem am_k_X12_nameAt : ∀ (pc : Nat) (x : Instr × Nat), am_c_X12_nameAt pc = some x → decode cX12_nameAt pc = .ok x ∧ (am_len x.1 = 0 ∨ x.2 = am_len x.1) := am_okOf am_c_X12_nameAt_ok (fun pc h => by unfold am_c_X12_nameAt; rw [h]; rfl)
def am_m_X12_nameAt : am_M := ((12, 3, false, 0, 0, am_c_X12_nameAt), cX12_nameAt, (some .int), yX12_nameAt, 2)
abbrev am_i_X12_nameAt : Nat := 167
theorem am_k_X12_isName : ∀ (pc : Nat) (x : Instr × Nat), am_c_X12_isName pc = some x → decode cX12_isName pc = .ok x ∧ (am_len x.1 = 0 ∨ x.2 = am_len x.1) := am_okOf am_c_X12_isName_ok (fun pc h => by unfold am_c_X12_isName; rw [h]; rfl)
def am_m_X12_isName : am_M := ((12, 5, false, 1, 25, am_c_X12_isName), cX12_isName, (some .boolean), yX12_isName, 0)
abbrev am_i_X12_isName : Nat := 168
theorem am_k_X12_isNamed : ∀ (pc : Nat) (x : Instr × Nat), am_c_X12_isNamed pc = some x → decode cX12_isNamed pc = .ok x ∧ (am_len x.1 = 0 ∨ x.2 = am_len x.1) := am_okOf am_c_X12_isNamed_ok (fun pc h => by unfold am_c_X12_isNamed; rw [h]; rfl)
def am_m_X12_isNamed : am_M := ((12, 4, false, 1, 22, am_c_X12_isNamed), cX12_isNamed, (some .boolean), yX12_isNamed, 1)
abbrev am_i_X12_isNamed : Nat := 169
theorem am_k_X12_isUnderNew : ∀ (pc : Nat) (x : Instr × Nat), am_c_X12_isUnderNew pc = some x → decode cX12_isUnderNew pc = .ok x ∧ (am_len x.1 = 0 ∨ x.2 = am_len x.1) := am_okOf am_c_X12_isUnderNew_ok (fun pc h => by unfold am_c_X12_isUnderNew; rw [h]; rfl)
def am_m_X12_isUnderNew : am_M := ((12, 4, false, 1, 22, am_c_X12_isUnderNew), cX12_isUnderNew, (some .boolean), yX12_isUnderNew, 1)
abbrev am_i_X12_isUnderNew : Nat := 170
theorem am_k_X12_isNewUnder : ∀ (pc : Nat) (x : Instr × Nat), am_c_X12_isNewUnder pc = some x → decode cX12_isNewUnder pc = .ok x ∧ (am_len x.1 = 0 ∨ x.2 = am_len x.1) := am_okOf am_c_X12_isNewUnder_ok (fun pc h => by unfold am_c_X12_isNewUnder; rw [h]; rfl)
def am_m_X12_isNewUnder : am_M := ((12, 5, false, 1, 22, am_c_X12_isNewUnder), cX12_isNewUnder, (some .boolean), yX12_isNewUnder, 1)
abbrev am_i_X12_isNewUnder : Nat := 171
theorem am_k_X12_seek : ∀ (pc : Nat) (x : Instr × Nat), am_c_X12_seek pc = some x → decode cX12_seek pc = .ok x ∧ (am_len x.1 = 0 ∨ x.2 = am_len x.1) := am_okOf am_c_X12_seek_ok (fun pc h => by unfold am_c_X12_seek; rw [h]; rfl)
def am_m_X12_seek : am_M := ((12, 4, false, 2, 45, am_c_X12_seek), cX12_seek, (some .int), yX12_seek, 2)
abbrev am_i_X12_seek : Nat := 172
theorem am_k_X12_isInTheWay : ∀ (pc : Nat) (x : Instr × Nat), am_c_X12_isInTheWay pc = some x → decode cX12_isInTheWay pc = .ok x ∧ (am_len x.1 = 0 ∨ x.2 = am_len x.1) := am_okOf am_c_X12_isInTheWay_ok (fun pc h => by unfold am_c_X12_isInTheWay; rw [h]; rfl)
def am_m_X12_isInTheWay : am_M := ((12, 6, false, 2, 46, am_c_X12_isInTheWay), cX12_isInTheWay, (some .boolean), yX12_isInTheWay, 2)
abbrev am_i_X12_isInTheWay : Nat := 173
theorem am_k_X12_move : ∀ (pc : Nat) (x : Instr × Nat), am_c_X12_move pc = some x → decode cX12_move pc = .ok x ∧ (am_len x.1 = 0 ∨ x.2 = am_len x.1) := am_okOf am_c_X12_move_ok (fun pc h => by unfold am_c_X12_move; rw [h]; rfl)
def am_m_X12_move : am_M := ((12, 4, false, 0, 0, am_c_X12_move), cX12_move, none, yX12_move, 2)
abbrev am_i_X12_move : Nat := 174
theorem am_k_X12_stand : ∀ (pc : Nat) (x : Instr × Nat), am_c_X12_stand pc = some x → decode cX12_stand pc = .ok x ∧ (am_len x.1 = 0 ∨ x.2 = am_len x.1) := am_okOf am_c_X12_stand_ok (fun pc h => by unfold am_c_X12_stand; rw [h]; rfl)
def am_m_X12_stand : am_M := ((12, 7, false, 3, 68, am_c_X12_stand), cX12_stand, (some .int), yX12_stand, 2)
abbrev am_i_X12_stand : Nat := 175
theorem am_k_X12_come : ∀ (pc : Nat) (x : Instr × Nat), am_c_X12_come pc = some x → decode cX12_come pc = .ok x ∧ (am_len x.1 = 0 ∨ x.2 = am_len x.1) := am_okOf am_c_X12_come_ok (fun pc h => by unfold am_c_X12_come; rw [h]; rfl)
def am_m_X12_come : am_M := ((12, 4, false, 4, 94, am_c_X12_come), cX12_come, (some .int), yX12_come, 2)
abbrev am_i_X12_come : Nat := 176
theorem am_k_X12_go : ∀ (pc : Nat) (x : Instr × Nat), am_c_X12_go pc = some x → decode cX12_go pc = .ok x ∧ (am_len x.1 = 0 ∨ x.2 = am_len x.1) := am_okOf am_c_X12_go_ok (fun pc h => by unfold am_c_X12_go; rw [h]; rfl)
def am_m_X12_go : am_M := ((12, 3, false, 1, 25, am_c_X12_go), cX12_go, (some .int), yX12_go, 1)
abbrev am_i_X12_go : Nat := 177
theorem am_k_X12_name : ∀ (pc : Nat) (x : Instr × Nat), am_c_X12_name pc = some x → decode cX12_name pc = .ok x ∧ (am_len x.1 = 0 ∨ x.2 = am_len x.1) := am_okOf am_c_X12_name_ok (fun pc h => by unfold am_c_X12_name; rw [h]; rfl)
def am_m_X12_name : am_M := ((12, 3, false, 1, 25, am_c_X12_name), cX12_name, (some .int), yX12_name, 2)
abbrev am_i_X12_name : Nat := 178
theorem am_k_X12_byteAt : ∀ (pc : Nat) (x : Instr × Nat), am_c_X12_byteAt pc = some x → decode cX12_byteAt pc = .ok x ∧ (am_len x.1 = 0 ∨ x.2 = am_len x.1) := am_okOf am_c_X12_byteAt_ok (fun pc h => by unfold am_c_X12_byteAt; rw [h]; rfl)
def am_m_X12_byteAt : am_M := ((12, 3, false, 1, 25, am_c_X12_byteAt), cX12_byteAt, (some .int), yX12_byteAt, 2)
abbrev am_i_X12_byteAt : Nat := 179
theorem am_k_X12_takePath : ∀ (pc : Nat) (x : Instr × Nat), am_c_X12_takePath pc = some x → decode cX12_takePath pc = .ok x ∧ (am_len x.1 = 0 ∨ x.2 = am_len x.1) := am_okOf am_c_X12_takePath_ok (fun pc h => by unfold am_c_X12_takePath; rw [h]; rfl)
def am_m_X12_takePath : am_M := ((12, 2, false, 0, 0, am_c_X12_takePath), cX12_takePath, none, yX12_takePath, 0)
abbrev am_i_X12_takePath : Nat := 180
theorem am_k_X12_kind : ∀ (pc : Nat) (x : Instr × Nat), am_c_X12_kind pc = some x → decode cX12_kind pc = .ok x ∧ (am_len x.1 = 0 ∨ x.2 = am_len x.1) := am_okOf am_c_X12_kind_ok (fun pc h => by unfold am_c_X12_kind; rw [h]; rfl)
def am_m_X12_kind : am_M := ((12, 3, false, 3, 68, am_c_X12_kind), cX12_kind, (some .int), yX12_kind, 0)
abbrev am_i_X12_kind : Nat := 181
theorem am_k_X12_findPart : ∀ (pc : Nat) (x : Instr × Nat), am_c_X12_findPart pc = some x → decode cX12_findPart pc = .ok x ∧ (am_len x.1 = 0 ∨ x.2 = am_len x.1) := am_okOf am_c_X12_findPart_ok (fun pc h => by unfold am_c_X12_findPart; rw [h]; rfl)
def am_m_X12_findPart : am_M := ((12, 2, false, 2, 45, am_c_X12_findPart), cX12_findPart, none, yX12_findPart, 1)
abbrev am_i_X12_findPart : Nat := 182
theorem am_k_X12_isSamePart : ∀ (pc : Nat) (x : Instr × Nat), am_c_X12_isSamePart pc = some x → decode cX12_isSamePart pc = .ok x ∧ (am_len x.1 = 0 ∨ x.2 = am_len x.1) := am_okOf am_c_X12_isSamePart_ok (fun pc h => by unfold am_c_X12_isSamePart; rw [h]; rfl)
def am_m_X12_isSamePart : am_M := ((12, 7, false, 3, 66, am_c_X12_isSamePart), cX12_isSamePart, (some .boolean), yX12_isSamePart, 4)
abbrev am_i_X12_isSamePart : Nat := 183
theorem am_k_X12_isFresh : ∀ (pc : Nat) (x : Instr × Nat), am_c_X12_isFresh pc = some x → decode cX12_isFresh pc = .ok x ∧ (am_len x.1 = 0 ∨ x.2 = am_len x.1) := am_okOf am_c_X12_isFresh_ok (fun pc h => by unfold am_c_X12_isFresh; rw [h]; rfl)
def am_m_X12_isFresh : am_M := ((12, 6, false, 4, 92, am_c_X12_isFresh), cX12_isFresh, (some .boolean), yX12_isFresh, 1)
abbrev am_i_X12_isFresh : Nat := 184
theorem am_k_X12_child : ∀ (pc : Nat) (x : Instr × Nat), am_c_X12_child pc = some x → decode cX12_child pc = .ok x ∧ (am_len x.1 = 0 ∨ x.2 = am_len x.1) := am_okOf am_c_X12_child_ok (fun pc h => by unfold am_c_X12_child; rw [h]; rfl)
def am_m_X12_child : am_M := ((12, 5, false, 5, 117, am_c_X12_child), cX12_child, (some .int), yX12_child, 2)
abbrev am_i_X12_child : Nat := 185
theorem am_k_X12_isRow : ∀ (pc : Nat) (x : Instr × Nat), am_c_X12_isRow pc = some x → decode cX12_isRow pc = .ok x ∧ (am_len x.1 = 0 ∨ x.2 = am_len x.1) := am_okOf am_c_X12_isRow_ok (fun pc h => by unfold am_c_X12_isRow; rw [h]; rfl)
def am_m_X12_isRow : am_M := ((12, 9, false, 1, 22, am_c_X12_isRow), cX12_isRow, (some .boolean), yX12_isRow, 6)
abbrev am_i_X12_isRow : Nat := 186
theorem am_k_X12_reaches : ∀ (pc : Nat) (x : Instr × Nat), am_c_X12_reaches pc = some x → decode cX12_reaches pc = .ok x ∧ (am_len x.1 = 0 ∨ x.2 = am_len x.1) := am_okOf am_c_X12_reaches_ok (fun pc h => by unfold am_c_X12_reaches; rw [h]; rfl)
def am_m_X12_reaches : am_M := ((12, 3, false, 1, 22, am_c_X12_reaches), cX12_reaches, (some .boolean), yX12_reaches, 1)
abbrev am_i_X12_reaches : Nat := 187
theorem am_k_X12_areZeros : ∀ (pc : Nat) (x : Instr × Nat), am_c_X12_areZeros pc = some x → decode cX12_areZeros pc = .ok x ∧ (am_len x.1 = 0 ∨ x.2 = am_len x.1) := am_okOf am_c_X12_areZeros_ok (fun pc h => by unfold am_c_X12_areZeros; rw [h]; rfl)
def am_m_X12_areZeros : am_M := ((12, 3, false, 1, 22, am_c_X12_areZeros), cX12_areZeros, (some .boolean), yX12_areZeros, 1)
abbrev am_i_X12_areZeros : Nat := 188
theorem am_k_X12_comes : ∀ (pc : Nat) (x : Instr × Nat), am_c_X12_comes pc = some x → decode cX12_comes pc = .ok x ∧ (am_len x.1 = 0 ∨ x.2 = am_len x.1) := am_okOf am_c_X12_comes_ok (fun pc h => by unfold am_c_X12_comes; rw [h]; rfl)
def am_m_X12_comes : am_M := ((12, 2, false, 4, 94, am_c_X12_comes), cX12_comes, (some .boolean), yX12_comes, 1)
abbrev am_i_X12_comes : Nat := 189
theorem am_k_X12_takeBytes : ∀ (pc : Nat) (x : Instr × Nat), am_c_X12_takeBytes pc = some x → decode cX12_takeBytes pc = .ok x ∧ (am_len x.1 = 0 ∨ x.2 = am_len x.1) := am_okOf am_c_X12_takeBytes_ok (fun pc h => by unfold am_c_X12_takeBytes; rw [h]; rfl)
def am_m_X12_takeBytes : am_M := ((12, 4, false, 0, 0, am_c_X12_takeBytes), cX12_takeBytes, none, yX12_takeBytes, 2)
abbrev am_i_X12_takeBytes : Nat := 190
theorem am_k_X12_readOctal : ∀ (pc : Nat) (x : Instr × Nat), am_c_X12_readOctal pc = some x → decode cX12_readOctal pc = .ok x ∧ (am_len x.1 = 0 ∨ x.2 = am_len x.1) := am_okOf am_c_X12_readOctal_ok (fun pc h => by unfold am_c_X12_readOctal; rw [h]; rfl)
def am_m_X12_readOctal : am_M := ((12, 4, false, 1, 25, am_c_X12_readOctal), cX12_readOctal, (some .boolean), yX12_readOctal, 2)
abbrev am_i_X12_readOctal : Nat := 191
theorem am_k_X12_readSum : ∀ (pc : Nat) (x : Instr × Nat), am_c_X12_readSum pc = some x → decode cX12_readSum pc = .ok x ∧ (am_len x.1 = 0 ∨ x.2 = am_len x.1) := am_okOf am_c_X12_readSum_ok (fun pc h => by unfold am_c_X12_readSum; rw [h]; rfl)
def am_m_X12_readSum : am_M := ((12, 5, false, 1, 25, am_c_X12_readSum), cX12_readSum, (some .boolean), yX12_readSum, 1)
abbrev am_i_X12_readSum : Nat := 192
theorem am_k_X12_readMark : ∀ (pc : Nat) (x : Instr × Nat), am_c_X12_readMark pc = some x → decode cX12_readMark pc = .ok x ∧ (am_len x.1 = 0 ∨ x.2 = am_len x.1) := am_okOf am_c_X12_readMark_ok (fun pc h => by unfold am_c_X12_readMark; rw [h]; rfl)
def am_m_X12_readMark : am_M := ((12, 4, false, 1, 22, am_c_X12_readMark), cX12_readMark, (some .boolean), yX12_readMark, 1)
abbrev am_i_X12_readMark : Nat := 193
theorem am_k_X12_addName : ∀ (pc : Nat) (x : Instr × Nat), am_c_X12_addName pc = some x → decode cX12_addName pc = .ok x ∧ (am_len x.1 = 0 ∨ x.2 = am_len x.1) := am_okOf am_c_X12_addName_ok (fun pc h => by unfold am_c_X12_addName; rw [h]; rfl)
def am_m_X12_addName : am_M := ((12, 4, false, 0, 0, am_c_X12_addName), cX12_addName, none, yX12_addName, 2)
abbrev am_i_X12_addName : Nat := 194
theorem am_k_X12_readBlockHead : ∀ (pc : Nat) (x : Instr × Nat), am_c_X12_readBlockHead pc = some x → decode cX12_readBlockHead pc = .ok x ∧ (am_len x.1 = 0 ∨ x.2 = am_len x.1) := am_okOf am_c_X12_readBlockHead_ok (fun pc h => by unfold am_c_X12_readBlockHead; rw [h]; rfl)
def am_m_X12_readBlockHead : am_M := ((12, 5, false, 2, 49, am_c_X12_readBlockHead), cX12_readBlockHead, (some .boolean), yX12_readBlockHead, 1)
abbrev am_i_X12_readBlockHead : Nat := 195
theorem am_k_X12_isBlank : ∀ (pc : Nat) (x : Instr × Nat), am_c_X12_isBlank pc = some x → decode cX12_isBlank pc = .ok x ∧ (am_len x.1 = 0 ∨ x.2 = am_len x.1) := am_okOf am_c_X12_isBlank_ok (fun pc h => by unfold am_c_X12_isBlank; rw [h]; rfl)
def am_m_X12_isBlank : am_M := ((12, 4, false, 0, 0, am_c_X12_isBlank), cX12_isBlank, (some .boolean), yX12_isBlank, 1)
abbrev am_i_X12_isBlank : Nat := 196
theorem am_k_X12_readBlocks : ∀ (pc : Nat) (x : Instr × Nat), am_c_X12_readBlocks pc = some x → decode cX12_readBlocks pc = .ok x ∧ (am_len x.1 = 0 ∨ x.2 = am_len x.1) := am_okOf am_c_X12_readBlocks_ok (fun pc h => by unfold am_c_X12_readBlocks; rw [h]; rfl)
def am_m_X12_readBlocks : am_M := ((12, 3, false, 5, 115, am_c_X12_readBlocks), cX12_readBlocks, (some .boolean), yX12_readBlocks, 0)
abbrev am_i_X12_readBlocks : Nat := 197
theorem am_k_X12_digitOf : ∀ (pc : Nat) (x : Instr × Nat), am_c_X12_digitOf pc = some x → decode cX12_digitOf pc = .ok x ∧ (am_len x.1 = 0 ∨ x.2 = am_len x.1) := am_okOf am_c_X12_digitOf_ok (fun pc h => by unfold am_c_X12_digitOf; rw [h]; rfl)
def am_m_X12_digitOf : am_M := ((12, 1, false, 1, 25, am_c_X12_digitOf), cX12_digitOf, (some .int), yX12_digitOf, 1)
abbrev am_i_X12_digitOf : Nat := 198
theorem am_k_X12_hexAt : ∀ (pc : Nat) (x : Instr × Nat), am_c_X12_hexAt pc = some x → decode cX12_hexAt pc = .ok x ∧ (am_len x.1 = 0 ∨ x.2 = am_len x.1) := am_okOf am_c_X12_hexAt_ok (fun pc h => by unfold am_c_X12_hexAt; rw [h]; rfl)
def am_m_X12_hexAt : am_M := ((12, 5, false, 2, 45, am_c_X12_hexAt), cX12_hexAt, (some .long), yX12_hexAt, 1)
abbrev am_i_X12_hexAt : Nat := 199
theorem am_k_X12_readDigitsHead : ∀ (pc : Nat) (x : Instr × Nat), am_c_X12_readDigitsHead pc = some x → decode cX12_readDigitsHead pc = .ok x ∧ (am_len x.1 = 0 ∨ x.2 = am_len x.1) := am_okOf am_c_X12_readDigitsHead_ok (fun pc h => by unfold am_c_X12_readDigitsHead; rw [h]; rfl)
def am_m_X12_readDigitsHead : am_M := ((12, 5, false, 3, 69, am_c_X12_readDigitsHead), cX12_readDigitsHead, (some .boolean), yX12_readDigitsHead, 1)
abbrev am_i_X12_readDigitsHead : Nat := 200
theorem am_k_X12_trailerAt : ∀ (pc : Nat) (x : Instr × Nat), am_c_X12_trailerAt pc = some x → decode cX12_trailerAt pc = .ok x ∧ (am_len x.1 = 0 ∨ x.2 = am_len x.1) := am_okOf am_c_X12_trailerAt_ok (fun pc h => by unfold am_c_X12_trailerAt; rw [h]; rfl)
def am_m_X12_trailerAt : am_M := ((12, 1, false, 0, 0, am_c_X12_trailerAt), cX12_trailerAt, (some .int), yX12_trailerAt, 1)
abbrev am_i_X12_trailerAt : Nat := 201
theorem am_k_X12_isTrailer : ∀ (pc : Nat) (x : Instr × Nat), am_c_X12_isTrailer pc = some x → decode cX12_isTrailer pc = .ok x ∧ (am_len x.1 = 0 ∨ x.2 = am_len x.1) := am_okOf am_c_X12_isTrailer_ok (fun pc h => by unfold am_c_X12_isTrailer; rw [h]; rfl)
def am_m_X12_isTrailer : am_M := ((12, 3, false, 1, 20, am_c_X12_isTrailer), cX12_isTrailer, (some .boolean), yX12_isTrailer, 0)
abbrev am_i_X12_isTrailer : Nat := 202
theorem am_k_X12_upToFour : ∀ (pc : Nat) (x : Instr × Nat), am_c_X12_upToFour pc = some x → decode cX12_upToFour pc = .ok x ∧ (am_len x.1 = 0 ∨ x.2 = am_len x.1) := am_okOf am_c_X12_upToFour_ok (fun pc h => by unfold am_c_X12_upToFour; rw [h]; rfl)
def am_m_X12_upToFour : am_M := ((12, 1, false, 0, 0, am_c_X12_upToFour), cX12_upToFour, (some .int), yX12_upToFour, 1)
abbrev am_i_X12_upToFour : Nat := 203
theorem am_k_X12_readDigits : ∀ (pc : Nat) (x : Instr × Nat), am_c_X12_readDigits pc = some x → decode cX12_readDigits pc = .ok x ∧ (am_len x.1 = 0 ∨ x.2 = am_len x.1) := am_okOf am_c_X12_readDigits_ok (fun pc h => by unfold am_c_X12_readDigits; rw [h]; rfl)
def am_m_X12_readDigits : am_M := ((12, 8, false, 5, 115, am_c_X12_readDigits), cX12_readDigits, (some .boolean), yX12_readDigits, 0)
abbrev am_i_X12_readDigits : Nat := 204
theorem am_k_X12_twoAt : ∀ (pc : Nat) (x : Instr × Nat), am_c_X12_twoAt pc = some x → decode cX12_twoAt pc = .ok x ∧ (am_len x.1 = 0 ∨ x.2 = am_len x.1) := am_okOf am_c_X12_twoAt_ok (fun pc h => by unfold am_c_X12_twoAt; rw [h]; rfl)
def am_m_X12_twoAt : am_M := ((12, 2, false, 0, 0, am_c_X12_twoAt), cX12_twoAt, (some .int), yX12_twoAt, 1)
abbrev am_i_X12_twoAt : Nat := 205
theorem am_k_X12_fourAt : ∀ (pc : Nat) (x : Instr × Nat), am_c_X12_fourAt pc = some x → decode cX12_fourAt pc = .ok x ∧ (am_len x.1 = 0 ∨ x.2 = am_len x.1) := am_okOf am_c_X12_fourAt_ok (fun pc h => by unfold am_c_X12_fourAt; rw [h]; rfl)
def am_m_X12_fourAt : am_M := ((12, 2, false, 1, 21, am_c_X12_fourAt), cX12_fourAt, (some .long), yX12_fourAt, 1)
abbrev am_i_X12_fourAt : Nat := 206
theorem am_k_X12_isZeroAt : ∀ (pc : Nat) (x : Instr × Nat), am_c_X12_isZeroAt pc = some x → decode cX12_isZeroAt pc = .ok x ∧ (am_len x.1 = 0 ∨ x.2 = am_len x.1) := am_okOf am_c_X12_isZeroAt_ok (fun pc h => by unfold am_c_X12_isZeroAt; rw [h]; rfl)
def am_m_X12_isZeroAt : am_M := ((12, 4, false, 2, 42, am_c_X12_isZeroAt), cX12_isZeroAt, (some .boolean), yX12_isZeroAt, 3)
abbrev am_i_X12_isZeroAt : Nat := 207
theorem am_k_X12_readEnd : ∀ (pc : Nat) (x : Instr × Nat), am_c_X12_readEnd pc = some x → decode cX12_readEnd pc = .ok x ∧ (am_len x.1 = 0 ∨ x.2 = am_len x.1) := am_okOf am_c_X12_readEnd_ok (fun pc h => by unfold am_c_X12_readEnd; rw [h]; rfl)
def am_m_X12_readEnd : am_M := ((12, 2, false, 3, 65, am_c_X12_readEnd), cX12_readEnd, (some .boolean), yX12_readEnd, 1)
abbrev am_i_X12_readEnd : Nat := 208
theorem am_k_X12_readEntryHead : ∀ (pc : Nat) (x : Instr × Nat), am_c_X12_readEntryHead pc = some x → decode cX12_readEntryHead pc = .ok x ∧ (am_len x.1 = 0 ∨ x.2 = am_len x.1) := am_okOf am_c_X12_readEntryHead_ok (fun pc h => by unfold am_c_X12_readEntryHead; rw [h]; rfl)
def am_m_X12_readEntryHead : am_M := ((12, 6, false, 3, 65, am_c_X12_readEntryHead), cX12_readEntryHead, (some .boolean), yX12_readEntryHead, 2)
abbrev am_i_X12_readEntryHead : Nat := 209
theorem am_k_X12_isAsThere : ∀ (pc : Nat) (x : Instr × Nat), am_c_X12_isAsThere pc = some x → decode cX12_isAsThere pc = .ok x ∧ (am_len x.1 = 0 ∨ x.2 = am_len x.1) := am_okOf am_c_X12_isAsThere_ok (fun pc h => by unfold am_c_X12_isAsThere; rw [h]; rfl)
def am_m_X12_isAsThere : am_M := ((12, 4, false, 2, 42, am_c_X12_isAsThere), cX12_isAsThere, (some .boolean), yX12_isAsThere, 3)
abbrev am_i_X12_isAsThere : Nat := 210
theorem am_k_X12_readLocal : ∀ (pc : Nat) (x : Instr × Nat), am_c_X12_readLocal pc = some x → decode cX12_readLocal pc = .ok x ∧ (am_len x.1 = 0 ∨ x.2 = am_len x.1) := am_okOf am_c_X12_readLocal_ok (fun pc h => by unfold am_c_X12_readLocal; rw [h]; rfl)
def am_m_X12_readLocal : am_M := ((12, 11, false, 7, 176, am_c_X12_readLocal), cX12_readLocal, (some .boolean), yX12_readLocal, 2)
abbrev am_i_X12_readLocal : Nat := 211
theorem am_k_X12_readContent : ∀ (pc : Nat) (x : Instr × Nat), am_c_X12_readContent pc = some x → decode cX12_readContent pc = .ok x ∧ (am_len x.1 = 0 ∨ x.2 = am_len x.1) := am_okOf am_c_X12_readContent_ok (fun pc h => by unfold am_c_X12_readContent; rw [h]; rfl)
def am_m_X12_readContent : am_M := ((12, 7, false, 6, 150, am_c_X12_readContent), cX12_readContent, (some .boolean), yX12_readContent, 3)
abbrev am_i_X12_readContent : Nat := 212
theorem am_k_X12_readDirectory : ∀ (pc : Nat) (x : Instr × Nat), am_c_X12_readDirectory pc = some x → decode cX12_readDirectory pc = .ok x ∧ (am_len x.1 = 0 ∨ x.2 = am_len x.1) := am_okOf am_c_X12_readDirectory_ok (fun pc h => by unfold am_c_X12_readDirectory; rw [h]; rfl)
def am_m_X12_readDirectory : am_M := ((12, 5, false, 8, 206, am_c_X12_readDirectory), cX12_readDirectory, (some .boolean), yX12_readDirectory, 0)
abbrev am_i_X12_readDirectory : Nat := 213
theorem am_k_X12_read : ∀ (pc : Nat) (x : Instr × Nat), am_c_X12_read pc = some x → decode cX12_read pc = .ok x ∧ (am_len x.1 = 0 ∨ x.2 = am_len x.1) := am_okOf am_c_X12_read_ok (fun pc h => by unfold am_c_X12_read; rw [h]; rfl)
def am_m_X12_read : am_M := ((12, 4, false, 9, 230, am_c_X12_read), cX12_read, (some .int), yX12_read, 1)
abbrev am_i_X12_read : Nat := 214
theorem am_k_X12_order : ∀ (pc : Nat) (x : Instr × Nat), am_c_X12_order pc = some x → decode cX12_order pc = .ok x ∧ (am_len x.1 = 0 ∨ x.2 = am_len x.1) := am_okOf am_c_X12_order_ok (fun pc h => by unfold am_c_X12_order; rw [h]; rfl)
def am_m_X12_order : am_M := ((12, 2, false, 0, 0, am_c_X12_order), cX12_order, (some .int), yX12_order, 1)
abbrev am_i_X12_order : Nat := 215
theorem am_k_X12_bit : ∀ (pc : Nat) (x : Instr × Nat), am_c_X12_bit pc = some x → decode cX12_bit pc = .ok x ∧ (am_len x.1 = 0 ∨ x.2 = am_len x.1) := am_okOf am_c_X12_bit_ok (fun pc h => by unfold am_c_X12_bit; rw [h]; rfl)
def am_m_X12_bit : am_M := ((12, 2, false, 1, 22, am_c_X12_bit), cX12_bit, (some .int), yX12_bit, 0)
abbrev am_i_X12_bit : Nat := 216
theorem am_k_X12_bits : ∀ (pc : Nat) (x : Instr × Nat), am_c_X12_bits pc = some x → decode cX12_bits pc = .ok x ∧ (am_len x.1 = 0 ∨ x.2 = am_len x.1) := am_okOf am_c_X12_bits_ok (fun pc h => by unfold am_c_X12_bits; rw [h]; rfl)
def am_m_X12_bits : am_M := ((12, 4, false, 2, 43, am_c_X12_bits), cX12_bits, (some .int), yX12_bits, 1)
abbrev am_i_X12_bits : Nat := 217
theorem am_k_X12_layCodes : ∀ (pc : Nat) (x : Instr × Nat), am_c_X12_layCodes pc = some x → decode cX12_layCodes pc = .ok x ∧ (am_len x.1 = 0 ∨ x.2 = am_len x.1) := am_okOf am_c_X12_layCodes_ok (fun pc h => by unfold am_c_X12_layCodes; rw [h]; rfl)
def am_m_X12_layCodes : am_M := ((12, 6, false, 0, 0, am_c_X12_layCodes), cX12_layCodes, none, yX12_layCodes, 2)
abbrev am_i_X12_layCodes : Nat := 218
theorem am_k_X12_fullness : ∀ (pc : Nat) (x : Instr × Nat), am_c_X12_fullness pc = some x → decode cX12_fullness pc = .ok x ∧ (am_len x.1 = 0 ∨ x.2 = am_len x.1) := am_okOf am_c_X12_fullness_ok (fun pc h => by unfold am_c_X12_fullness; rw [h]; rfl)
def am_m_X12_fullness : am_M := ((12, 5, false, 0, 0, am_c_X12_fullness), cX12_fullness, (some .int), yX12_fullness, 2)
abbrev am_i_X12_fullness : Nat := 219
theorem am_k_X12_symbol : ∀ (pc : Nat) (x : Instr × Nat), am_c_X12_symbol pc = some x → decode cX12_symbol pc = .ok x ∧ (am_len x.1 = 0 ∨ x.2 = am_len x.1) := am_okOf am_c_X12_symbol_ok (fun pc h => by unfold am_c_X12_symbol; rw [h]; rfl)
def am_m_X12_symbol : am_M := ((12, 7, false, 2, 43, am_c_X12_symbol), cX12_symbol, (some .int), yX12_symbol, 2)
abbrev am_i_X12_symbol : Nat := 220
theorem am_k_X12_add : ∀ (pc : Nat) (x : Instr × Nat), am_c_X12_add pc = some x → decode cX12_add pc = .ok x ∧ (am_len x.1 = 0 ∨ x.2 = am_len x.1) := am_okOf am_c_X12_add_ok (fun pc h => by unfold am_c_X12_add; rw [h]; rfl)
def am_m_X12_add : am_M := ((12, 3, false, 1, 22, am_c_X12_add), cX12_add, (some .boolean), yX12_add, 2)
abbrev am_i_X12_add : Nat := 221
theorem am_k_X12_plain : ∀ (pc : Nat) (x : Instr × Nat), am_c_X12_plain pc = some x → decode cX12_plain pc = .ok x ∧ (am_len x.1 = 0 ∨ x.2 = am_len x.1) := am_okOf am_c_X12_plain_ok (fun pc h => by unfold am_c_X12_plain; rw [h]; rfl)
def am_m_X12_plain : am_M := ((12, 7, false, 3, 66, am_c_X12_plain), cX12_plain, (some .boolean), yX12_plain, 1)
abbrev am_i_X12_plain : Nat := 222
theorem am_k_X12_layFixed : ∀ (pc : Nat) (x : Instr × Nat), am_c_X12_layFixed pc = some x → decode cX12_layFixed pc = .ok x ∧ (am_len x.1 = 0 ∨ x.2 = am_len x.1) := am_okOf am_c_X12_layFixed_ok (fun pc h => by unfold am_c_X12_layFixed; rw [h]; rfl)
def am_m_X12_layFixed : am_M := ((12, 2, false, 1, 25, am_c_X12_layFixed), cX12_layFixed, none, yX12_layFixed, 0)
abbrev am_i_X12_layFixed : Nat := 223
theorem am_k_X12_readRow : ∀ (pc : Nat) (x : Instr × Nat), am_c_X12_readRow pc = some x → decode cX12_readRow pc = .ok x ∧ (am_len x.1 = 0 ∨ x.2 = am_len x.1) := am_okOf am_c_X12_readRow_ok (fun pc h => by unfold am_c_X12_readRow; rw [h]; rfl)
def am_m_X12_readRow : am_M := ((12, 8, false, 3, 69, am_c_X12_readRow), cX12_readRow, (some .boolean), yX12_readRow, 2)
abbrev am_i_X12_readRow : Nat := 224
theorem am_k_X12_readCodes : ∀ (pc : Nat) (x : Instr × Nat), am_c_X12_readCodes pc = some x → decode cX12_readCodes pc = .ok x ∧ (am_len x.1 = 0 ∨ x.2 = am_len x.1) := am_okOf am_c_X12_readCodes_ok (fun pc h => by unfold am_c_X12_readCodes; rw [h]; rfl)
def am_m_X12_readCodes : am_M := ((12, 8, false, 4, 96, am_c_X12_readCodes), cX12_readCodes, (some .boolean), yX12_readCodes, 1)
abbrev am_i_X12_readCodes : Nat := 225
theorem am_k_X12_lengthOf : ∀ (pc : Nat) (x : Instr × Nat), am_c_X12_lengthOf pc = some x → decode cX12_lengthOf pc = .ok x ∧ (am_len x.1 = 0 ∨ x.2 = am_len x.1) := am_okOf am_c_X12_lengthOf_ok (fun pc h => by unfold am_c_X12_lengthOf; rw [h]; rfl)
def am_m_X12_lengthOf : am_M := ((12, 2, false, 0, 0, am_c_X12_lengthOf), cX12_lengthOf, (some .int), yX12_lengthOf, 1)
abbrev am_i_X12_lengthOf : Nat := 226
theorem am_k_X12_distanceOf : ∀ (pc : Nat) (x : Instr × Nat), am_c_X12_distanceOf pc = some x → decode cX12_distanceOf pc = .ok x ∧ (am_len x.1 = 0 ∨ x.2 = am_len x.1) := am_okOf am_c_X12_distanceOf_ok (fun pc h => by unfold am_c_X12_distanceOf; rw [h]; rfl)
def am_m_X12_distanceOf : am_M := ((12, 2, false, 0, 0, am_c_X12_distanceOf), cX12_distanceOf, (some .int), yX12_distanceOf, 1)
abbrev am_i_X12_distanceOf : Nat := 227
theorem am_k_X12_readSymbols : ∀ (pc : Nat) (x : Instr × Nat), am_c_X12_readSymbols pc = some x → decode cX12_readSymbols pc = .ok x ∧ (am_len x.1 = 0 ∨ x.2 = am_len x.1) := am_okOf am_c_X12_readSymbols_ok (fun pc h => by unfold am_c_X12_readSymbols; rw [h]; rfl)
def am_m_X12_readSymbols : am_M := ((12, 7, false, 3, 69, am_c_X12_readSymbols), cX12_readSymbols, (some .boolean), yX12_readSymbols, 0)
abbrev am_i_X12_readSymbols : Nat := 228
theorem am_k_X12_unpackFrom : ∀ (pc : Nat) (x : Instr × Nat), am_c_X12_unpackFrom pc = some x → decode cX12_unpackFrom pc = .ok x ∧ (am_len x.1 = 0 ∨ x.2 = am_len x.1) := am_okOf am_c_X12_unpackFrom_ok (fun pc h => by unfold am_c_X12_unpackFrom; rw [h]; rfl)
def am_m_X12_unpackFrom : am_M := ((12, 8, false, 5, 123, am_c_X12_unpackFrom), cX12_unpackFrom, (some .boolean), yX12_unpackFrom, 3)
abbrev am_i_X12_unpackFrom : Nat := 229
theorem am_k_X12_unpack : ∀ (pc : Nat) (x : Instr × Nat), am_c_X12_unpack pc = some x → decode cX12_unpack pc = .ok x ∧ (am_len x.1 = 0 ∨ x.2 = am_len x.1) := am_okOf am_c_X12_unpack_ok (fun pc h => by unfold am_c_X12_unpack; rw [h]; rfl)
def am_m_X12_unpack : am_M := ((12, 2, false, 6, 150, am_c_X12_unpack), cX12_unpack, (some .int), yX12_unpack, 0)
abbrev am_i_X12_unpack : Nat := 230
theorem am_k_X12_checkMore : ∀ (pc : Nat) (x : Instr × Nat), am_c_X12_checkMore pc = some x → decode cX12_checkMore pc = .ok x ∧ (am_len x.1 = 0 ∨ x.2 = am_len x.1) := am_okOf am_c_X12_checkMore_ok (fun pc h => by unfold am_c_X12_checkMore; rw [h]; rfl)
def am_m_X12_checkMore : am_M := ((12, 4, false, 0, 0, am_c_X12_checkMore), cX12_checkMore, (some .int), yX12_checkMore, 2)
abbrev am_i_X12_checkMore : Nat := 231
theorem am_k_X12_check : ∀ (pc : Nat) (x : Instr × Nat), am_c_X12_check pc = some x → decode cX12_check pc = .ok x ∧ (am_len x.1 = 0 ∨ x.2 = am_len x.1) := am_okOf am_c_X12_check_ok (fun pc h => by unfold am_c_X12_check; rw [h]; rfl)
def am_m_X12_check : am_M := ((12, 3, false, 1, 23, am_c_X12_check), cX12_check, (some .int), yX12_check, 0)
abbrev am_i_X12_check : Nat := 232
theorem am_k_X12_putBit : ∀ (pc : Nat) (x : Instr × Nat), am_c_X12_putBit pc = some x → decode cX12_putBit pc = .ok x ∧ (am_len x.1 = 0 ∨ x.2 = am_len x.1) := am_okOf am_c_X12_putBit_ok (fun pc h => by unfold am_c_X12_putBit; rw [h]; rfl)
def am_m_X12_putBit : am_M := ((12, 2, false, 1, 21, am_c_X12_putBit), cX12_putBit, none, yX12_putBit, 1)
abbrev am_i_X12_putBit : Nat := 233
theorem am_k_X12_putBits : ∀ (pc : Nat) (x : Instr × Nat), am_c_X12_putBits pc = some x → decode cX12_putBits pc = .ok x ∧ (am_len x.1 = 0 ∨ x.2 = am_len x.1) := am_okOf am_c_X12_putBits_ok (fun pc h => by unfold am_c_X12_putBits; rw [h]; rfl)
def am_m_X12_putBits : am_M := ((12, 4, false, 2, 42, am_c_X12_putBits), cX12_putBits, none, yX12_putBits, 2)
abbrev am_i_X12_putBits : Nat := 234
theorem am_k_X12_putCode : ∀ (pc : Nat) (x : Instr × Nat), am_c_X12_putCode pc = some x → decode cX12_putCode pc = .ok x ∧ (am_len x.1 = 0 ∨ x.2 = am_len x.1) := am_okOf am_c_X12_putCode_ok (fun pc h => by unfold am_c_X12_putCode; rw [h]; rfl)
def am_m_X12_putCode : am_M := ((12, 3, false, 2, 42, am_c_X12_putCode), cX12_putCode, none, yX12_putCode, 1)
abbrev am_i_X12_putCode : Nat := 235
theorem am_k_X12_match : ∀ (pc : Nat) (x : Instr × Nat), am_c_X12_match pc = some x → decode cX12_match pc = .ok x ∧ (am_len x.1 = 0 ∨ x.2 = am_len x.1) := am_okOf am_c_X12_match_ok (fun pc h => by unfold am_c_X12_match; rw [h]; rfl)
def am_m_X12_match : am_M := ((12, 5, false, 0, 0, am_c_X12_match), cX12_match, (some .int), yX12_match, 1)
abbrev am_i_X12_match : Nat := 236
theorem am_k_X12_putMatch : ∀ (pc : Nat) (x : Instr × Nat), am_c_X12_putMatch pc = some x → decode cX12_putMatch pc = .ok x ∧ (am_len x.1 = 0 ∨ x.2 = am_len x.1) := am_okOf am_c_X12_putMatch_ok (fun pc h => by unfold am_c_X12_putMatch; rw [h]; rfl)
def am_m_X12_putMatch : am_M := ((12, 6, false, 3, 65, am_c_X12_putMatch), cX12_putMatch, none, yX12_putMatch, 2)
abbrev am_i_X12_putMatch : Nat := 237
theorem am_k_X12_putPacked : ∀ (pc : Nat) (x : Instr × Nat), am_c_X12_putPacked pc = some x → decode cX12_putPacked pc = .ok x ∧ (am_len x.1 = 0 ∨ x.2 = am_len x.1) := am_okOf am_c_X12_putPacked_ok (fun pc h => by unfold am_c_X12_putPacked; rw [h]; rfl)
def am_m_X12_putPacked : am_M := ((12, 3, false, 4, 90, am_c_X12_putPacked), cX12_putPacked, none, yX12_putPacked, 0)
abbrev am_i_X12_putPacked : Nat := 238
theorem am_k_X12_pack : ∀ (pc : Nat) (x : Instr × Nat), am_c_X12_pack pc = some x → decode cX12_pack pc = .ok x ∧ (am_len x.1 = 0 ∨ x.2 = am_len x.1) := am_okOf am_c_X12_pack_ok (fun pc h => by unfold am_c_X12_pack; rw [h]; rfl)
def am_m_X12_pack : am_M := ((12, 2, false, 5, 112, am_c_X12_pack), cX12_pack, (some .int), yX12_pack, 0)
abbrev am_i_X12_pack : Nat := 239
theorem am_k_X12_putZeros : ∀ (pc : Nat) (x : Instr × Nat), am_c_X12_putZeros pc = some x → decode cX12_putZeros pc = .ok x ∧ (am_len x.1 = 0 ∨ x.2 = am_len x.1) := am_okOf am_c_X12_putZeros_ok (fun pc h => by unfold am_c_X12_putZeros; rw [h]; rfl)
def am_m_X12_putZeros : am_M := ((12, 2, false, 1, 21, am_c_X12_putZeros), cX12_putZeros, none, yX12_putZeros, 1)
abbrev am_i_X12_putZeros : Nat := 240
theorem am_k_X12_putName : ∀ (pc : Nat) (x : Instr × Nat), am_c_X12_putName pc = some x → decode cX12_putName pc = .ok x ∧ (am_len x.1 = 0 ∨ x.2 = am_len x.1) := am_okOf am_c_X12_putName_ok (fun pc h => by unfold am_c_X12_putName; rw [h]; rfl)
def am_m_X12_putName : am_M := ((12, 4, false, 1, 22, am_c_X12_putName), cX12_putName, none, yX12_putName, 2)
abbrev am_i_X12_putName : Nat := 241
theorem am_k_X12_putBytes : ∀ (pc : Nat) (x : Instr × Nat), am_c_X12_putBytes pc = some x → decode cX12_putBytes pc = .ok x ∧ (am_len x.1 = 0 ∨ x.2 = am_len x.1) := am_okOf am_c_X12_putBytes_ok (fun pc h => by unfold am_c_X12_putBytes; rw [h]; rfl)
def am_m_X12_putBytes : am_M := ((12, 3, false, 1, 21, am_c_X12_putBytes), cX12_putBytes, none, yX12_putBytes, 1)
abbrev am_i_X12_putBytes : Nat := 242
theorem am_k_X12_octalAt : ∀ (pc : Nat) (x : Instr × Nat), am_c_X12_octalAt pc = some x → decode cX12_octalAt pc = .ok x ∧ (am_len x.1 = 0 ∨ x.2 = am_len x.1) := am_okOf am_c_X12_octalAt_ok (fun pc h => by unfold am_c_X12_octalAt; rw [h]; rfl)
def am_m_X12_octalAt : am_M := ((12, 6, false, 0, 0, am_c_X12_octalAt), cX12_octalAt, none, yX12_octalAt, 3)
abbrev am_i_X12_octalAt : Nat := 243
theorem am_k_X12_writeBlock : ∀ (pc : Nat) (x : Instr × Nat), am_c_X12_writeBlock pc = some x → decode cX12_writeBlock pc = .ok x ∧ (am_len x.1 = 0 ∨ x.2 = am_len x.1) := am_okOf am_c_X12_writeBlock_ok (fun pc h => by unfold am_c_X12_writeBlock; rw [h]; rfl)
def am_m_X12_writeBlock : am_M := ((12, 5, false, 2, 45, am_c_X12_writeBlock), cX12_writeBlock, none, yX12_writeBlock, 1)
abbrev am_i_X12_writeBlock : Nat := 244
theorem am_k_X12_putHex : ∀ (pc : Nat) (x : Instr × Nat), am_c_X12_putHex pc = some x → decode cX12_putHex pc = .ok x ∧ (am_len x.1 = 0 ∨ x.2 = am_len x.1) := am_okOf am_c_X12_putHex_ok (fun pc h => by unfold am_c_X12_putHex; rw [h]; rfl)
def am_m_X12_putHex : am_M := ((12, 4, false, 1, 21, am_c_X12_putHex), cX12_putHex, none, yX12_putHex, 1)
abbrev am_i_X12_putHex : Nat := 245
theorem am_k_X12_putDigitsHead : ∀ (pc : Nat) (x : Instr × Nat), am_c_X12_putDigitsHead pc = some x → decode cX12_putDigitsHead pc = .ok x ∧ (am_len x.1 = 0 ∨ x.2 = am_len x.1) := am_okOf am_c_X12_putDigitsHead_ok (fun pc h => by unfold am_c_X12_putDigitsHead; rw [h]; rfl)
def am_m_X12_putDigitsHead : am_M := ((12, 6, false, 2, 44, am_c_X12_putDigitsHead), cX12_putDigitsHead, none, yX12_putDigitsHead, 4)
abbrev am_i_X12_putDigitsHead : Nat := 246
theorem am_k_X12_writeDigits : ∀ (pc : Nat) (x : Instr × Nat), am_c_X12_writeDigits pc = some x → decode cX12_writeDigits pc = .ok x ∧ (am_len x.1 = 0 ∨ x.2 = am_len x.1) := am_okOf am_c_X12_writeDigits_ok (fun pc h => by unfold am_c_X12_writeDigits; rw [h]; rfl)
def am_m_X12_writeDigits : am_M := ((12, 2, false, 3, 69, am_c_X12_writeDigits), cX12_writeDigits, none, yX12_writeDigits, 0)
abbrev am_i_X12_writeDigits : Nat := 247
theorem am_k_X12_putTwo : ∀ (pc : Nat) (x : Instr × Nat), am_c_X12_putTwo pc = some x → decode cX12_putTwo pc = .ok x ∧ (am_len x.1 = 0 ∨ x.2 = am_len x.1) := am_okOf am_c_X12_putTwo_ok (fun pc h => by unfold am_c_X12_putTwo; rw [h]; rfl)
def am_m_X12_putTwo : am_M := ((12, 2, false, 1, 21, am_c_X12_putTwo), cX12_putTwo, none, yX12_putTwo, 1)
abbrev am_i_X12_putTwo : Nat := 248
theorem am_k_X12_putFour : ∀ (pc : Nat) (x : Instr × Nat), am_c_X12_putFour pc = some x → decode cX12_putFour pc = .ok x ∧ (am_len x.1 = 0 ∨ x.2 = am_len x.1) := am_okOf am_c_X12_putFour_ok (fun pc h => by unfold am_c_X12_putFour; rw [h]; rfl)
def am_m_X12_putFour : am_M := ((12, 2, false, 2, 42, am_c_X12_putFour), cX12_putFour, none, yX12_putFour, 1)
abbrev am_i_X12_putFour : Nat := 249
theorem am_k_X12_checkOf : ∀ (pc : Nat) (x : Instr × Nat), am_c_X12_checkOf pc = some x → decode cX12_checkOf pc = .ok x ∧ (am_len x.1 = 0 ∨ x.2 = am_len x.1) := am_okOf am_c_X12_checkOf_ok (fun pc h => by unfold am_c_X12_checkOf; rw [h]; rfl)
def am_m_X12_checkOf : am_M := ((12, 4, false, 1, 23, am_c_X12_checkOf), cX12_checkOf, (some .int), yX12_checkOf, 1)
abbrev am_i_X12_checkOf : Nat := 250
theorem am_k_X12_namedSize : ∀ (pc : Nat) (x : Instr × Nat), am_c_X12_namedSize pc = some x → decode cX12_namedSize pc = .ok x ∧ (am_len x.1 = 0 ∨ x.2 = am_len x.1) := am_okOf am_c_X12_namedSize_ok (fun pc h => by unfold am_c_X12_namedSize; rw [h]; rfl)
def am_m_X12_namedSize : am_M := ((12, 2, false, 0, 0, am_c_X12_namedSize), cX12_namedSize, (some .int), yX12_namedSize, 1)
abbrev am_i_X12_namedSize : Nat := 251
theorem am_k_X12_fourInto : ∀ (pc : Nat) (x : Instr × Nat), am_c_X12_fourInto pc = some x → decode cX12_fourInto pc = .ok x ∧ (am_len x.1 = 0 ∨ x.2 = am_len x.1) := am_okOf am_c_X12_fourInto_ok (fun pc h => by unfold am_c_X12_fourInto; rw [h]; rfl)
def am_m_X12_fourInto : am_M := ((12, 4, false, 0, 0, am_c_X12_fourInto), cX12_fourInto, none, yX12_fourInto, 2)
abbrev am_i_X12_fourInto : Nat := 252
theorem am_k_X12_writeLocal : ∀ (pc : Nat) (x : Instr × Nat), am_c_X12_writeLocal pc = some x → decode cX12_writeLocal pc = .ok x ∧ (am_len x.1 = 0 ∨ x.2 = am_len x.1) := am_okOf am_c_X12_writeLocal_ok (fun pc h => by unfold am_c_X12_writeLocal; rw [h]; rfl)
def am_m_X12_writeLocal : am_M := ((12, 6, false, 5, 112, am_c_X12_writeLocal), cX12_writeLocal, none, yX12_writeLocal, 2)
abbrev am_i_X12_writeLocal : Nat := 253
theorem am_k_X12_writeEntry : ∀ (pc : Nat) (x : Instr × Nat), am_c_X12_writeEntry pc = some x → decode cX12_writeEntry pc = .ok x ∧ (am_len x.1 = 0 ∨ x.2 = am_len x.1) := am_okOf am_c_X12_writeEntry_ok (fun pc h => by unfold am_c_X12_writeEntry; rw [h]; rfl)
def am_m_X12_writeEntry : am_M := ((12, 3, false, 3, 63, am_c_X12_writeEntry), cX12_writeEntry, none, yX12_writeEntry, 1)
abbrev am_i_X12_writeEntry : Nat := 254
theorem am_k_X12_writeDirectory : ∀ (pc : Nat) (x : Instr × Nat), am_c_X12_writeDirectory pc = some x → decode cX12_writeDirectory pc = .ok x ∧ (am_len x.1 = 0 ∨ x.2 = am_len x.1) := am_okOf am_c_X12_writeDirectory_ok (fun pc h => by unfold am_c_X12_writeDirectory; rw [h]; rfl)
def am_m_X12_writeDirectory : am_M := ((12, 4, false, 6, 137, am_c_X12_writeDirectory), cX12_writeDirectory, none, yX12_writeDirectory, 1)
abbrev am_i_X12_writeDirectory : Nat := 255
theorem am_k_X12_write : ∀ (pc : Nat) (x : Instr × Nat), am_c_X12_write pc = some x → decode cX12_write pc = .ok x ∧ (am_len x.1 = 0 ∨ x.2 = am_len x.1) := am_okOf am_c_X12_write_ok (fun pc h => by unfold am_c_X12_write; rw [h]; rfl)
def am_m_X12_write : am_M := ((12, 4, false, 7, 160, am_c_X12_write), cX12_write, (some .int), yX12_write, 2)
abbrev am_i_X12_write : Nat := 256
theorem am_k_J9_max_7cf53 : ∀ (pc : Nat) (x : Instr × Nat), am_c_J9_max_7cf53 pc = some x → decode cJ9_max_7cf53 pc = .ok x ∧ (am_len x.1 = 0 ∨ x.2 = am_len x.1) := am_okOf am_c_J9_max_7cf53_ok (fun pc h => by unfold am_c_J9_max_7cf53; rw [h]; rfl)
def am_m_J9_max_7cf53 : am_M := ((14, 2, false, 0, 0, am_c_J9_max_7cf53), cJ9_max_7cf53, (some .int), yJ9_max_7cf53, 2)
abbrev am_i_J9_max_7cf53 : Nat := 257
theorem am_k_J9_min_7cf53 : ∀ (pc : Nat) (x : Instr × Nat), am_c_J9_min_7cf53 pc = some x → decode cJ9_min_7cf53 pc = .ok x ∧ (am_len x.1 = 0 ∨ x.2 = am_len x.1) := am_okOf am_c_J9_min_7cf53_ok (fun pc h => by unfold am_c_J9_min_7cf53; rw [h]; rfl)
def am_m_J9_min_7cf53 : am_M := ((14, 2, false, 0, 0, am_c_J9_min_7cf53), cJ9_min_7cf53, (some .int), yJ9_min_7cf53, 2)
abbrev am_i_J9_min_7cf53 : Nat := 258
theorem am_k_L_type : ∀ (pc : Nat) (x : Instr × Nat), am_c_L_type pc = some x → decode cL_type pc = .ok x ∧ (am_len x.1 = 0 ∨ x.2 = am_len x.1) := am_okOf am_c_L_type_ok (fun pc h => by unfold am_c_L_type; rw [h]; rfl)
def am_m_L_type : am_M := ((13, 6, false, 7, 105, am_c_L_type), cL_type, (some .int), yL_type, 4)
abbrev am_i_L_type : Nat := 259
theorem am_k_L_keep : ∀ (pc : Nat) (x : Instr × Nat), am_c_L_keep pc = some x → decode cL_keep pc = .ok x ∧ (am_len x.1 = 0 ∨ x.2 = am_len x.1) := am_okOf am_c_L_keep_ok (fun pc h => by unfold am_c_L_keep; rw [h]; rfl)
def am_m_L_keep : am_M := ((13, 3, false, 7, 103, am_c_L_keep), cL_keep, (some .int), yL_keep, 2)
abbrev am_i_L_keep : Nat := 260
theorem am_k_L_typed : ∀ (pc : Nat) (x : Instr × Nat), am_c_L_typed pc = some x → decode cL_typed pc = .ok x ∧ (am_len x.1 = 0 ∨ x.2 = am_len x.1) := am_okOf am_c_L_typed_ok (fun pc h => by unfold am_c_L_typed; rw [h]; rfl)
def am_m_L_typed : am_M := ((13, 4, false, 7, 103, am_c_L_typed), cL_typed, (some .int), yL_typed, 3)
abbrev am_i_L_typed : Nat := 261
theorem am_k_L_come : ∀ (pc : Nat) (x : Instr × Nat), am_c_L_come pc = some x → decode cL_come pc = .ok x ∧ (am_len x.1 = 0 ∨ x.2 = am_len x.1) := am_okOf am_c_L_come_ok (fun pc h => by unfold am_c_L_come; rw [h]; rfl)
def am_m_L_come : am_M := ((13, 5, false, 7, 114, am_c_L_come), cL_come, (some .int), yL_come, 4)
abbrev am_i_L_come : Nat := 262
theorem am_k_L_go : ∀ (pc : Nat) (x : Instr × Nat), am_c_L_go pc = some x → decode cL_go pc = .ok x ∧ (am_len x.1 = 0 ∨ x.2 = am_len x.1) := am_okOf am_c_L_go_ok (fun pc h => by unfold am_c_L_go; rw [h]; rfl)
def am_m_L_go : am_M := ((13, 4, false, 7, 103, am_c_L_go), cL_go, (some .int), yL_go, 3)
abbrev am_i_L_go : Nat := 263
theorem am_k_L_name : ∀ (pc : Nat) (x : Instr × Nat), am_c_L_name pc = some x → decode cL_name pc = .ok x ∧ (am_len x.1 = 0 ∨ x.2 = am_len x.1) := am_okOf am_c_L_name_ok (fun pc h => by unfold am_c_L_name; rw [h]; rfl)
def am_m_L_name : am_M := ((13, 5, false, 7, 105, am_c_L_name), cL_name, (some .int), yL_name, 4)
abbrev am_i_L_name : Nat := 264
theorem am_k_L_byteAt : ∀ (pc : Nat) (x : Instr × Nat), am_c_L_byteAt pc = some x → decode cL_byteAt pc = .ok x ∧ (am_len x.1 = 0 ∨ x.2 = am_len x.1) := am_okOf am_c_L_byteAt_ok (fun pc h => by unfold am_c_L_byteAt; rw [h]; rfl)
def am_m_L_byteAt : am_M := ((13, 5, false, 7, 105, am_c_L_byteAt), cL_byteAt, (some .int), yL_byteAt, 4)
abbrev am_i_L_byteAt : Nat := 265
theorem am_k_L_child : ∀ (pc : Nat) (x : Instr × Nat), am_c_L_child pc = some x → decode cL_child pc = .ok x ∧ (am_len x.1 = 0 ∨ x.2 = am_len x.1) := am_okOf am_c_L_child_ok (fun pc h => by unfold am_c_L_child; rw [h]; rfl)
def am_m_L_child : am_M := ((13, 5, false, 7, 141, am_c_L_child), cL_child, (some .int), yL_child, 4)
abbrev am_i_L_child : Nat := 266
theorem am_k_L_write : ∀ (pc : Nat) (x : Instr × Nat), am_c_L_write pc = some x → decode cL_write pc = .ok x ∧ (am_len x.1 = 0 ∨ x.2 = am_len x.1) := am_okOf am_c_L_write_ok (fun pc h => by unfold am_c_L_write; rw [h]; rfl)
def am_m_L_write : am_M := ((13, 5, false, 9, 237, am_c_L_write), cL_write, (some .int), yL_write, 4)
abbrev am_i_L_write : Nat := 267
theorem am_k_L_read : ∀ (pc : Nat) (x : Instr × Nat), am_c_L_read pc = some x → decode cL_read pc = .ok x ∧ (am_len x.1 = 0 ∨ x.2 = am_len x.1) := am_okOf am_c_L_read_ok (fun pc h => by unfold am_c_L_read; rw [h]; rfl)
def am_m_L_read : am_M := ((13, 4, false, 8, 217, am_c_L_read), cL_read, (some .int), yL_read, 3)
abbrev am_i_L_read : Nat := 268
theorem am_k_L_fault : ∀ (pc : Nat) (x : Instr × Nat), am_c_L_fault pc = some x → decode cL_fault pc = .ok x ∧ (am_len x.1 = 0 ∨ x.2 = am_len x.1) := am_okOf am_c_L_fault_ok (fun pc h => by unfold am_c_L_fault; rw [h]; rfl)
def am_m_L_fault : am_M := ((13, 4, false, 7, 103, am_c_L_fault), cL_fault, (some .int), yL_fault, 3)
abbrev am_i_L_fault : Nat := 269
theorem am_k_L_feed : ∀ (pc : Nat) (x : Instr × Nat), am_c_L_feed pc = some x → decode cL_feed pc = .ok x ∧ (am_len x.1 = 0 ∨ x.2 = am_len x.1) := am_okOf am_c_L_feed_ok (fun pc h => by unfold am_c_L_feed; rw [h]; rfl)
def am_m_L_feed : am_M := ((13, 8, false, 7, 107, am_c_L_feed), cL_feed, (some .int), yL_feed, 7)
abbrev am_i_L_feed : Nat := 270
theorem am_k_L_end : ∀ (pc : Nat) (x : Instr × Nat), am_c_L_end pc = some x → decode cL_end pc = .ok x ∧ (am_len x.1 = 0 ∨ x.2 = am_len x.1) := am_okOf am_c_L_end_ok (fun pc h => by unfold am_c_L_end; rw [h]; rfl)
def am_m_L_end : am_M := ((13, 3, false, 7, 103, am_c_L_end), cL_end, (some .int), yL_end, 2)
abbrev am_i_L_end : Nat := 271
theorem am_k_L_poke : ∀ (pc : Nat) (x : Instr × Nat), am_c_L_poke pc = some x → decode cL_poke pc = .ok x ∧ (am_len x.1 = 0 ∨ x.2 = am_len x.1) := am_okOf am_c_L_poke_ok (fun pc h => by unfold am_c_L_poke; rw [h]; rfl)
def am_m_L_poke : am_M := ((13, 5, false, 7, 105, am_c_L_poke), cL_poke, (some .int), yL_poke, 4)
abbrev am_i_L_poke : Nat := 272
theorem am_k_L_at : ∀ (pc : Nat) (x : Instr × Nat), am_c_L_at pc = some x → decode cL_at pc = .ok x ∧ (am_len x.1 = 0 ∨ x.2 = am_len x.1) := am_okOf am_c_L_at_ok (fun pc h => by unfold am_c_L_at; rw [h]; rfl)
def am_m_L_at : am_M := ((13, 5, false, 7, 107, am_c_L_at), cL_at, (some .int), yL_at, 4)
abbrev am_i_L_at : Nat := 273
theorem am_k_L_count : ∀ (pc : Nat) (x : Instr × Nat), am_c_L_count pc = some x → decode cL_count pc = .ok x ∧ (am_len x.1 = 0 ∨ x.2 = am_len x.1) := am_okOf am_c_L_count_ok (fun pc h => by unfold am_c_L_count; rw [h]; rfl)
def am_m_L_count : am_M := ((13, 4, false, 7, 103, am_c_L_count), cL_count, (some .int), yL_count, 3)
abbrev am_i_L_count : Nat := 274
theorem am_k_L_law : ∀ (pc : Nat) (x : Instr × Nat), am_c_L_law pc = some x → decode cL_law pc = .ok x ∧ (am_len x.1 = 0 ∨ x.2 = am_len x.1) := am_okOf am_c_L_law_ok (fun pc h => by unfold am_c_L_law; rw [h]; rfl)
def am_m_L_law : am_M := ((13, 8, false, 10, 261, am_c_L_law), cL_law, (some .boolean), yL_law, 1)
abbrev am_i_L_law : Nat := 275
def am_tab0 : List am_M := [am_m_X0_init, am_m_X0_reaches, am_m_X0_isMarked, am_m_X0_isZeroFrom, am_m_X0_isNamed, am_m_X0_arrives, am_m_X0_addTitle, am_m_X1_init, am_m_X1_takeIn, am_m_X1_isEmptyBlock, am_m_X1_isHead, am_m_X1_isSummed, am_m_X1_isSorted, am_m_X1_areDigits, am_m_X1_isOctal, am_m_X1_octal, am_m_X1_sumOf, am_m_X1_spell, am_m_X1_addToPath, am_m_X1_layOut, am_m_X1_addHead, am_m_X1_addOctal, am_m_X1_setSum]
theorem am_tab0_ok : ∀ M ∈ am_tab0, am_ok M := List.forall_mem_cons.mpr ⟨am_k_X0_init, List.forall_mem_cons.mpr ⟨am_k_X0_reaches, List.forall_mem_cons.mpr ⟨am_k_X0_isMarked, List.forall_mem_cons.mpr ⟨am_k_X0_isZeroFrom, List.forall_mem_cons.mpr ⟨am_k_X0_isNamed, List.forall_mem_cons.mpr ⟨am_k_X0_arrives, List.forall_mem_cons.mpr ⟨am_k_X0_addTitle, List.forall_mem_cons.mpr ⟨am_k_X1_init, List.forall_mem_cons.mpr ⟨am_k_X1_takeIn, List.forall_mem_cons.mpr ⟨am_k_X1_isEmptyBlock, List.forall_mem_cons.mpr ⟨am_k_X1_isHead, List.forall_mem_cons.mpr ⟨am_k_X1_isSummed, List.forall_mem_cons.mpr ⟨am_k_X1_isSorted, List.forall_mem_cons.mpr ⟨am_k_X1_areDigits, List.forall_mem_cons.mpr ⟨am_k_X1_isOctal, List.forall_mem_cons.mpr ⟨am_k_X1_octal, List.forall_mem_cons.mpr ⟨am_k_X1_sumOf, List.forall_mem_cons.mpr ⟨am_k_X1_spell, List.forall_mem_cons.mpr ⟨am_k_X1_addToPath, List.forall_mem_cons.mpr ⟨am_k_X1_layOut, List.forall_mem_cons.mpr ⟨am_k_X1_addHead, List.forall_mem_cons.mpr ⟨am_k_X1_addOctal, List.forall_mem_cons.mpr ⟨am_k_X1_setSum, fun _ h => absurd h List.not_mem_nil⟩⟩⟩⟩⟩⟩⟩⟩⟩⟩⟩⟩⟩⟩⟩⟩⟩⟩⟩⟩⟩⟩⟩
def am_tab1 : List am_M := [am_m_X2_init, am_m_X2_size, am_m_X2_has, am_m_X2_get, am_m_X2_set, am_m_X2_cutTo, am_m_X2_add, am_m_X2_addRow, am_m_X2_addText, am_m_X2_addMark, am_m_X2_addZeros, am_m_X2_addBig, am_m_X2_addLittle, am_m_X2_little, am_m_X2_beginsWith, am_m_X2_isText, am_m_X2_liesUnder, am_m_X3_init, am_m_X3_longest, am_m_X3_amount, am_m_X3_symbol, am_m_X3_order, am_m_X3_placeLengths]
theorem am_tab1_ok : ∀ M ∈ am_tab1, am_ok M := List.forall_mem_cons.mpr ⟨am_k_X2_init, List.forall_mem_cons.mpr ⟨am_k_X2_size, List.forall_mem_cons.mpr ⟨am_k_X2_has, List.forall_mem_cons.mpr ⟨am_k_X2_get, List.forall_mem_cons.mpr ⟨am_k_X2_set, List.forall_mem_cons.mpr ⟨am_k_X2_cutTo, List.forall_mem_cons.mpr ⟨am_k_X2_add, List.forall_mem_cons.mpr ⟨am_k_X2_addRow, List.forall_mem_cons.mpr ⟨am_k_X2_addText, List.forall_mem_cons.mpr ⟨am_k_X2_addMark, List.forall_mem_cons.mpr ⟨am_k_X2_addZeros, List.forall_mem_cons.mpr ⟨am_k_X2_addBig, List.forall_mem_cons.mpr ⟨am_k_X2_addLittle, List.forall_mem_cons.mpr ⟨am_k_X2_little, List.forall_mem_cons.mpr ⟨am_k_X2_beginsWith, List.forall_mem_cons.mpr ⟨am_k_X2_isText, List.forall_mem_cons.mpr ⟨am_k_X2_liesUnder, List.forall_mem_cons.mpr ⟨am_k_X3_init, List.forall_mem_cons.mpr ⟨am_k_X3_longest, List.forall_mem_cons.mpr ⟨am_k_X3_amount, List.forall_mem_cons.mpr ⟨am_k_X3_symbol, List.forall_mem_cons.mpr ⟨am_k_X3_order, List.forall_mem_cons.mpr ⟨am_k_X3_placeLengths, fun _ h => absurd h List.not_mem_nil⟩⟩⟩⟩⟩⟩⟩⟩⟩⟩⟩⟩⟩⟩⟩⟩⟩⟩⟩⟩⟩⟩⟩
def am_tab2 : List am_M := [am_m_X3_placeSymbol, am_m_X3_areComplete, am_m_X3_areNoneOrOneBit, am_m_X4_init, am_m_X4_takeIn, am_m_X4_isHead, am_m_X4_isSpelt, am_m_X4_isMember, am_m_X4_isSized, am_m_X4_isDirectory, am_m_X4_sortOf, am_m_X4_sortBits, am_m_X4_number, am_m_X4_digit, am_m_X4_layOut, am_m_X4_addHead, am_m_X4_addNumber, am_m_X4_addRest, am_m_X5_init, am_m_X5_takeIn, am_m_X5_isClosing, am_m_X5_isZero, am_m_X5_isEntry]
theorem am_tab2_ok : ∀ M ∈ am_tab2, am_ok M := List.forall_mem_cons.mpr ⟨am_k_X3_placeSymbol, List.forall_mem_cons.mpr ⟨am_k_X3_areComplete, List.forall_mem_cons.mpr ⟨am_k_X3_areNoneOrOneBit, List.forall_mem_cons.mpr ⟨am_k_X4_init, List.forall_mem_cons.mpr ⟨am_k_X4_takeIn, List.forall_mem_cons.mpr ⟨am_k_X4_isHead, List.forall_mem_cons.mpr ⟨am_k_X4_isSpelt, List.forall_mem_cons.mpr ⟨am_k_X4_isMember, List.forall_mem_cons.mpr ⟨am_k_X4_isSized, List.forall_mem_cons.mpr ⟨am_k_X4_isDirectory, List.forall_mem_cons.mpr ⟨am_k_X4_sortOf, List.forall_mem_cons.mpr ⟨am_k_X4_sortBits, List.forall_mem_cons.mpr ⟨am_k_X4_number, List.forall_mem_cons.mpr ⟨am_k_X4_digit, List.forall_mem_cons.mpr ⟨am_k_X4_layOut, List.forall_mem_cons.mpr ⟨am_k_X4_addHead, List.forall_mem_cons.mpr ⟨am_k_X4_addNumber, List.forall_mem_cons.mpr ⟨am_k_X4_addRest, List.forall_mem_cons.mpr ⟨am_k_X5_init, List.forall_mem_cons.mpr ⟨am_k_X5_takeIn, List.forall_mem_cons.mpr ⟨am_k_X5_isClosing, List.forall_mem_cons.mpr ⟨am_k_X5_isZero, List.forall_mem_cons.mpr ⟨am_k_X5_isEntry, fun _ h => absurd h List.not_mem_nil⟩⟩⟩⟩⟩⟩⟩⟩⟩⟩⟩⟩⟩⟩⟩⟩⟩⟩⟩⟩⟩⟩⟩
def am_tab3 : List am_M := [am_m_X5_isMember, am_m_X5_isLocal, am_m_X5_isSame, am_m_X5_isBody, am_m_X5_layOut, am_m_X5_addLocal, am_m_X5_titleBytes, am_m_X5_setSize, am_m_X5_addEntries, am_m_X6_init, am_m_X6_number, am_m_X6_place, am_m_X6_clear, am_m_X6_tell, am_m_X7_init, am_m_X8_init, am_m_X8_addPacked, am_m_X8_longestBefore, am_m_X8_lengthStep, am_m_X8_distanceSymbol, am_m_X8_addSymbol, am_m_X8_addCode, am_m_X8_addBits]
theorem am_tab3_ok : ∀ M ∈ am_tab3, am_ok M := List.forall_mem_cons.mpr ⟨am_k_X5_isMember, List.forall_mem_cons.mpr ⟨am_k_X5_isLocal, List.forall_mem_cons.mpr ⟨am_k_X5_isSame, List.forall_mem_cons.mpr ⟨am_k_X5_isBody, List.forall_mem_cons.mpr ⟨am_k_X5_layOut, List.forall_mem_cons.mpr ⟨am_k_X5_addLocal, List.forall_mem_cons.mpr ⟨am_k_X5_titleBytes, List.forall_mem_cons.mpr ⟨am_k_X5_setSize, List.forall_mem_cons.mpr ⟨am_k_X5_addEntries, List.forall_mem_cons.mpr ⟨am_k_X6_init, List.forall_mem_cons.mpr ⟨am_k_X6_number, List.forall_mem_cons.mpr ⟨am_k_X6_place, List.forall_mem_cons.mpr ⟨am_k_X6_clear, List.forall_mem_cons.mpr ⟨am_k_X6_tell, List.forall_mem_cons.mpr ⟨am_k_X7_init, List.forall_mem_cons.mpr ⟨am_k_X8_init, List.forall_mem_cons.mpr ⟨am_k_X8_addPacked, List.forall_mem_cons.mpr ⟨am_k_X8_longestBefore, List.forall_mem_cons.mpr ⟨am_k_X8_lengthStep, List.forall_mem_cons.mpr ⟨am_k_X8_distanceSymbol, List.forall_mem_cons.mpr ⟨am_k_X8_addSymbol, List.forall_mem_cons.mpr ⟨am_k_X8_addCode, List.forall_mem_cons.mpr ⟨am_k_X8_addBits, fun _ h => absurd h List.not_mem_nil⟩⟩⟩⟩⟩⟩⟩⟩⟩⟩⟩⟩⟩⟩⟩⟩⟩⟩⟩⟩⟩⟩⟩
def am_tab4 : List am_M := [am_m_X9_init, am_m_X9_size, am_m_X9_clear, am_m_X9_member, am_m_X9_find, am_m_X9_hasUnder, am_m_X9_isInTheWay, am_m_X9_hasRoomFor, am_m_X9_drop, am_m_X9_take, am_m_X9_children, am_m_X9_firstOfChild, am_m_X9_isFirstOfChild, am_m_X9_isSamePart, am_m_X10_init, am_m_X10_open, am_m_X10_takeBits, am_m_X10_takeSymbol, am_m_X10_isStored, am_m_X10_orderFixed, am_m_X10_fillLengths, am_m_X10_areLengthCodes, am_m_X10_areLengths]
theorem am_tab4_ok : ∀ M ∈ am_tab4, am_ok M := List.forall_mem_cons.mpr ⟨am_k_X9_init, List.forall_mem_cons.mpr ⟨am_k_X9_size, List.forall_mem_cons.mpr ⟨am_k_X9_clear, List.forall_mem_cons.mpr ⟨am_k_X9_member, List.forall_mem_cons.mpr ⟨am_k_X9_find, List.forall_mem_cons.mpr ⟨am_k_X9_hasUnder, List.forall_mem_cons.mpr ⟨am_k_X9_isInTheWay, List.forall_mem_cons.mpr ⟨am_k_X9_hasRoomFor, List.forall_mem_cons.mpr ⟨am_k_X9_drop, List.forall_mem_cons.mpr ⟨am_k_X9_take, List.forall_mem_cons.mpr ⟨am_k_X9_children, List.forall_mem_cons.mpr ⟨am_k_X9_firstOfChild, List.forall_mem_cons.mpr ⟨am_k_X9_isFirstOfChild, List.forall_mem_cons.mpr ⟨am_k_X9_isSamePart, List.forall_mem_cons.mpr ⟨am_k_X10_init, List.forall_mem_cons.mpr ⟨am_k_X10_open, List.forall_mem_cons.mpr ⟨am_k_X10_takeBits, List.forall_mem_cons.mpr ⟨am_k_X10_takeSymbol, List.forall_mem_cons.mpr ⟨am_k_X10_isStored, List.forall_mem_cons.mpr ⟨am_k_X10_orderFixed, List.forall_mem_cons.mpr ⟨am_k_X10_fillLengths, List.forall_mem_cons.mpr ⟨am_k_X10_areLengthCodes, List.forall_mem_cons.mpr ⟨am_k_X10_areLengths, fun _ h => absurd h List.not_mem_nil⟩⟩⟩⟩⟩⟩⟩⟩⟩⟩⟩⟩⟩⟩⟩⟩⟩⟩⟩⟩⟩⟩⟩
def am_tab5 : List am_M := [am_m_X10_isRepeated, am_m_X10_lengthAt, am_m_X10_areSymbolLengths, am_m_X10_areSymbols, am_m_X10_isCopied, am_m_X11_init, am_m_X11_type, am_m_X11_keep, am_m_X11_typed, am_m_X11_come, am_m_X11_go, am_m_X11_name, am_m_X11_byteAt, am_m_X11_kind, am_m_X11_child, am_m_X11_write, am_m_X11_read, am_m_X11_fault, am_m_X11_pack, am_m_X11_unpack, am_m_X11_check, am_m_X11_feed, am_m_X11_end]
theorem am_tab5_ok : ∀ M ∈ am_tab5, am_ok M := List.forall_mem_cons.mpr ⟨am_k_X10_isRepeated, List.forall_mem_cons.mpr ⟨am_k_X10_lengthAt, List.forall_mem_cons.mpr ⟨am_k_X10_areSymbolLengths, List.forall_mem_cons.mpr ⟨am_k_X10_areSymbols, List.forall_mem_cons.mpr ⟨am_k_X10_isCopied, List.forall_mem_cons.mpr ⟨am_k_X11_init, List.forall_mem_cons.mpr ⟨am_k_X11_type, List.forall_mem_cons.mpr ⟨am_k_X11_keep, List.forall_mem_cons.mpr ⟨am_k_X11_typed, List.forall_mem_cons.mpr ⟨am_k_X11_come, List.forall_mem_cons.mpr ⟨am_k_X11_go, List.forall_mem_cons.mpr ⟨am_k_X11_name, List.forall_mem_cons.mpr ⟨am_k_X11_byteAt, List.forall_mem_cons.mpr ⟨am_k_X11_kind, List.forall_mem_cons.mpr ⟨am_k_X11_child, List.forall_mem_cons.mpr ⟨am_k_X11_write, List.forall_mem_cons.mpr ⟨am_k_X11_read, List.forall_mem_cons.mpr ⟨am_k_X11_fault, List.forall_mem_cons.mpr ⟨am_k_X11_pack, List.forall_mem_cons.mpr ⟨am_k_X11_unpack, List.forall_mem_cons.mpr ⟨am_k_X11_check, List.forall_mem_cons.mpr ⟨am_k_X11_feed, List.forall_mem_cons.mpr ⟨am_k_X11_end, fun _ h => absurd h List.not_mem_nil⟩⟩⟩⟩⟩⟩⟩⟩⟩⟩⟩⟩⟩⟩⟩⟩⟩⟩⟩⟩⟩⟩⟩
def am_tab6 : List am_M := [am_m_X11_poke, am_m_X11_at, am_m_X11_count, am_m_X11_archiveOf, am_m_X11_isName, am_m_X11_isPart, am_m_X11_partBehind, am_m_X11_partLength, am_m_X11_checkOf, am_m_X11_roundedUp, am_m_X11_lengthBits, am_m_X11_lengthBase, am_m_X11_distanceBits, am_m_X11_distanceBase, am_m_X12_init, am_m_X12_thrown, am_m_X12_in, am_m_X12_refuses, am_m_X12_fails, am_m_X12_type, am_m_X12_keep, am_m_X12_typed, am_m_X12_put]
theorem am_tab6_ok : ∀ M ∈ am_tab6, am_ok M := List.forall_mem_cons.mpr ⟨am_k_X11_poke, List.forall_mem_cons.mpr ⟨am_k_X11_at, List.forall_mem_cons.mpr ⟨am_k_X11_count, List.forall_mem_cons.mpr ⟨am_k_X11_archiveOf, List.forall_mem_cons.mpr ⟨am_k_X11_isName, List.forall_mem_cons.mpr ⟨am_k_X11_isPart, List.forall_mem_cons.mpr ⟨am_k_X11_partBehind, List.forall_mem_cons.mpr ⟨am_k_X11_partLength, List.forall_mem_cons.mpr ⟨am_k_X11_checkOf, List.forall_mem_cons.mpr ⟨am_k_X11_roundedUp, List.forall_mem_cons.mpr ⟨am_k_X11_lengthBits, List.forall_mem_cons.mpr ⟨am_k_X11_lengthBase, List.forall_mem_cons.mpr ⟨am_k_X11_distanceBits, List.forall_mem_cons.mpr ⟨am_k_X11_distanceBase, List.forall_mem_cons.mpr ⟨am_k_X12_init, List.forall_mem_cons.mpr ⟨am_k_X12_thrown, List.forall_mem_cons.mpr ⟨am_k_X12_in, List.forall_mem_cons.mpr ⟨am_k_X12_refuses, List.forall_mem_cons.mpr ⟨am_k_X12_fails, List.forall_mem_cons.mpr ⟨am_k_X12_type, List.forall_mem_cons.mpr ⟨am_k_X12_keep, List.forall_mem_cons.mpr ⟨am_k_X12_typed, List.forall_mem_cons.mpr ⟨am_k_X12_put, fun _ h => absurd h List.not_mem_nil⟩⟩⟩⟩⟩⟩⟩⟩⟩⟩⟩⟩⟩⟩⟩⟩⟩⟩⟩⟩⟩⟩⟩
def am_tab7 : List am_M := [am_m_X12_feed, am_m_X12_end, am_m_X12_poke, am_m_X12_at, am_m_X12_count, am_m_X12_fault, am_m_X12_nameAt, am_m_X12_isName, am_m_X12_isNamed, am_m_X12_isUnderNew, am_m_X12_isNewUnder, am_m_X12_seek, am_m_X12_isInTheWay, am_m_X12_move, am_m_X12_stand, am_m_X12_come, am_m_X12_go, am_m_X12_name, am_m_X12_byteAt, am_m_X12_takePath, am_m_X12_kind, am_m_X12_findPart, am_m_X12_isSamePart]
theorem am_tab7_ok : ∀ M ∈ am_tab7, am_ok M := List.forall_mem_cons.mpr ⟨am_k_X12_feed, List.forall_mem_cons.mpr ⟨am_k_X12_end, List.forall_mem_cons.mpr ⟨am_k_X12_poke, List.forall_mem_cons.mpr ⟨am_k_X12_at, List.forall_mem_cons.mpr ⟨am_k_X12_count, List.forall_mem_cons.mpr ⟨am_k_X12_fault, List.forall_mem_cons.mpr ⟨am_k_X12_nameAt, List.forall_mem_cons.mpr ⟨am_k_X12_isName, List.forall_mem_cons.mpr ⟨am_k_X12_isNamed, List.forall_mem_cons.mpr ⟨am_k_X12_isUnderNew, List.forall_mem_cons.mpr ⟨am_k_X12_isNewUnder, List.forall_mem_cons.mpr ⟨am_k_X12_seek, List.forall_mem_cons.mpr ⟨am_k_X12_isInTheWay, List.forall_mem_cons.mpr ⟨am_k_X12_move, List.forall_mem_cons.mpr ⟨am_k_X12_stand, List.forall_mem_cons.mpr ⟨am_k_X12_come, List.forall_mem_cons.mpr ⟨am_k_X12_go, List.forall_mem_cons.mpr ⟨am_k_X12_name, List.forall_mem_cons.mpr ⟨am_k_X12_byteAt, List.forall_mem_cons.mpr ⟨am_k_X12_takePath, List.forall_mem_cons.mpr ⟨am_k_X12_kind, List.forall_mem_cons.mpr ⟨am_k_X12_findPart, List.forall_mem_cons.mpr ⟨am_k_X12_isSamePart, fun _ h => absurd h List.not_mem_nil⟩⟩⟩⟩⟩⟩⟩⟩⟩⟩⟩⟩⟩⟩⟩⟩⟩⟩⟩⟩⟩⟩⟩
def am_tab8 : List am_M := [am_m_X12_isFresh, am_m_X12_child, am_m_X12_isRow, am_m_X12_reaches, am_m_X12_areZeros, am_m_X12_comes, am_m_X12_takeBytes, am_m_X12_readOctal, am_m_X12_readSum, am_m_X12_readMark, am_m_X12_addName, am_m_X12_readBlockHead, am_m_X12_isBlank, am_m_X12_readBlocks, am_m_X12_digitOf, am_m_X12_hexAt, am_m_X12_readDigitsHead, am_m_X12_trailerAt, am_m_X12_isTrailer, am_m_X12_upToFour, am_m_X12_readDigits, am_m_X12_twoAt, am_m_X12_fourAt]
theorem am_tab8_ok : ∀ M ∈ am_tab8, am_ok M := List.forall_mem_cons.mpr ⟨am_k_X12_isFresh, List.forall_mem_cons.mpr ⟨am_k_X12_child, List.forall_mem_cons.mpr ⟨am_k_X12_isRow, List.forall_mem_cons.mpr ⟨am_k_X12_reaches, List.forall_mem_cons.mpr ⟨am_k_X12_areZeros, List.forall_mem_cons.mpr ⟨am_k_X12_comes, List.forall_mem_cons.mpr ⟨am_k_X12_takeBytes, List.forall_mem_cons.mpr ⟨am_k_X12_readOctal, List.forall_mem_cons.mpr ⟨am_k_X12_readSum, List.forall_mem_cons.mpr ⟨am_k_X12_readMark, List.forall_mem_cons.mpr ⟨am_k_X12_addName, List.forall_mem_cons.mpr ⟨am_k_X12_readBlockHead, List.forall_mem_cons.mpr ⟨am_k_X12_isBlank, List.forall_mem_cons.mpr ⟨am_k_X12_readBlocks, List.forall_mem_cons.mpr ⟨am_k_X12_digitOf, List.forall_mem_cons.mpr ⟨am_k_X12_hexAt, List.forall_mem_cons.mpr ⟨am_k_X12_readDigitsHead, List.forall_mem_cons.mpr ⟨am_k_X12_trailerAt, List.forall_mem_cons.mpr ⟨am_k_X12_isTrailer, List.forall_mem_cons.mpr ⟨am_k_X12_upToFour, List.forall_mem_cons.mpr ⟨am_k_X12_readDigits, List.forall_mem_cons.mpr ⟨am_k_X12_twoAt, List.forall_mem_cons.mpr ⟨am_k_X12_fourAt, fun _ h => absurd h List.not_mem_nil⟩⟩⟩⟩⟩⟩⟩⟩⟩⟩⟩⟩⟩⟩⟩⟩⟩⟩⟩⟩⟩⟩⟩
def am_tab9 : List am_M := [am_m_X12_isZeroAt, am_m_X12_readEnd, am_m_X12_readEntryHead, am_m_X12_isAsThere, am_m_X12_readLocal, am_m_X12_readContent, am_m_X12_readDirectory, am_m_X12_read, am_m_X12_order, am_m_X12_bit, am_m_X12_bits, am_m_X12_layCodes, am_m_X12_fullness, am_m_X12_symbol, am_m_X12_add, am_m_X12_plain, am_m_X12_layFixed, am_m_X12_readRow, am_m_X12_readCodes, am_m_X12_lengthOf, am_m_X12_distanceOf, am_m_X12_readSymbols, am_m_X12_unpackFrom]
theorem am_tab9_ok : ∀ M ∈ am_tab9, am_ok M := List.forall_mem_cons.mpr ⟨am_k_X12_isZeroAt, List.forall_mem_cons.mpr ⟨am_k_X12_readEnd, List.forall_mem_cons.mpr ⟨am_k_X12_readEntryHead, List.forall_mem_cons.mpr ⟨am_k_X12_isAsThere, List.forall_mem_cons.mpr ⟨am_k_X12_readLocal, List.forall_mem_cons.mpr ⟨am_k_X12_readContent, List.forall_mem_cons.mpr ⟨am_k_X12_readDirectory, List.forall_mem_cons.mpr ⟨am_k_X12_read, List.forall_mem_cons.mpr ⟨am_k_X12_order, List.forall_mem_cons.mpr ⟨am_k_X12_bit, List.forall_mem_cons.mpr ⟨am_k_X12_bits, List.forall_mem_cons.mpr ⟨am_k_X12_layCodes, List.forall_mem_cons.mpr ⟨am_k_X12_fullness, List.forall_mem_cons.mpr ⟨am_k_X12_symbol, List.forall_mem_cons.mpr ⟨am_k_X12_add, List.forall_mem_cons.mpr ⟨am_k_X12_plain, List.forall_mem_cons.mpr ⟨am_k_X12_layFixed, List.forall_mem_cons.mpr ⟨am_k_X12_readRow, List.forall_mem_cons.mpr ⟨am_k_X12_readCodes, List.forall_mem_cons.mpr ⟨am_k_X12_lengthOf, List.forall_mem_cons.mpr ⟨am_k_X12_distanceOf, List.forall_mem_cons.mpr ⟨am_k_X12_readSymbols, List.forall_mem_cons.mpr ⟨am_k_X12_unpackFrom, fun _ h => absurd h List.not_mem_nil⟩⟩⟩⟩⟩⟩⟩⟩⟩⟩⟩⟩⟩⟩⟩⟩⟩⟩⟩⟩⟩⟩⟩
def am_tab10 : List am_M := [am_m_X12_unpack, am_m_X12_checkMore, am_m_X12_check, am_m_X12_putBit, am_m_X12_putBits, am_m_X12_putCode, am_m_X12_match, am_m_X12_putMatch, am_m_X12_putPacked, am_m_X12_pack, am_m_X12_putZeros, am_m_X12_putName, am_m_X12_putBytes, am_m_X12_octalAt, am_m_X12_writeBlock, am_m_X12_putHex, am_m_X12_putDigitsHead, am_m_X12_writeDigits, am_m_X12_putTwo, am_m_X12_putFour, am_m_X12_checkOf, am_m_X12_namedSize, am_m_X12_fourInto]
theorem am_tab10_ok : ∀ M ∈ am_tab10, am_ok M := List.forall_mem_cons.mpr ⟨am_k_X12_unpack, List.forall_mem_cons.mpr ⟨am_k_X12_checkMore, List.forall_mem_cons.mpr ⟨am_k_X12_check, List.forall_mem_cons.mpr ⟨am_k_X12_putBit, List.forall_mem_cons.mpr ⟨am_k_X12_putBits, List.forall_mem_cons.mpr ⟨am_k_X12_putCode, List.forall_mem_cons.mpr ⟨am_k_X12_match, List.forall_mem_cons.mpr ⟨am_k_X12_putMatch, List.forall_mem_cons.mpr ⟨am_k_X12_putPacked, List.forall_mem_cons.mpr ⟨am_k_X12_pack, List.forall_mem_cons.mpr ⟨am_k_X12_putZeros, List.forall_mem_cons.mpr ⟨am_k_X12_putName, List.forall_mem_cons.mpr ⟨am_k_X12_putBytes, List.forall_mem_cons.mpr ⟨am_k_X12_octalAt, List.forall_mem_cons.mpr ⟨am_k_X12_writeBlock, List.forall_mem_cons.mpr ⟨am_k_X12_putHex, List.forall_mem_cons.mpr ⟨am_k_X12_putDigitsHead, List.forall_mem_cons.mpr ⟨am_k_X12_writeDigits, List.forall_mem_cons.mpr ⟨am_k_X12_putTwo, List.forall_mem_cons.mpr ⟨am_k_X12_putFour, List.forall_mem_cons.mpr ⟨am_k_X12_checkOf, List.forall_mem_cons.mpr ⟨am_k_X12_namedSize, List.forall_mem_cons.mpr ⟨am_k_X12_fourInto, fun _ h => absurd h List.not_mem_nil⟩⟩⟩⟩⟩⟩⟩⟩⟩⟩⟩⟩⟩⟩⟩⟩⟩⟩⟩⟩⟩⟩⟩
def am_tab11 : List am_M := [am_m_X12_writeLocal, am_m_X12_writeEntry, am_m_X12_writeDirectory, am_m_X12_write, am_m_J9_max_7cf53, am_m_J9_min_7cf53, am_m_L_type, am_m_L_keep, am_m_L_typed, am_m_L_come, am_m_L_go, am_m_L_name, am_m_L_byteAt, am_m_L_child, am_m_L_write, am_m_L_read, am_m_L_fault, am_m_L_feed, am_m_L_end, am_m_L_poke, am_m_L_at, am_m_L_count, am_m_L_law]
theorem am_tab11_ok : ∀ M ∈ am_tab11, am_ok M := List.forall_mem_cons.mpr ⟨am_k_X12_writeLocal, List.forall_mem_cons.mpr ⟨am_k_X12_writeEntry, List.forall_mem_cons.mpr ⟨am_k_X12_writeDirectory, List.forall_mem_cons.mpr ⟨am_k_X12_write, List.forall_mem_cons.mpr ⟨am_k_J9_max_7cf53, List.forall_mem_cons.mpr ⟨am_k_J9_min_7cf53, List.forall_mem_cons.mpr ⟨am_k_L_type, List.forall_mem_cons.mpr ⟨am_k_L_keep, List.forall_mem_cons.mpr ⟨am_k_L_typed, List.forall_mem_cons.mpr ⟨am_k_L_come, List.forall_mem_cons.mpr ⟨am_k_L_go, List.forall_mem_cons.mpr ⟨am_k_L_name, List.forall_mem_cons.mpr ⟨am_k_L_byteAt, List.forall_mem_cons.mpr ⟨am_k_L_child, List.forall_mem_cons.mpr ⟨am_k_L_write, List.forall_mem_cons.mpr ⟨am_k_L_read, List.forall_mem_cons.mpr ⟨am_k_L_fault, List.forall_mem_cons.mpr ⟨am_k_L_feed, List.forall_mem_cons.mpr ⟨am_k_L_end, List.forall_mem_cons.mpr ⟨am_k_L_poke, List.forall_mem_cons.mpr ⟨am_k_L_at, List.forall_mem_cons.mpr ⟨am_k_L_count, List.forall_mem_cons.mpr ⟨am_k_L_law, fun _ h => absurd h List.not_mem_nil⟩⟩⟩⟩⟩⟩⟩⟩⟩⟩⟩⟩⟩⟩⟩⟩⟩⟩⟩⟩⟩⟩⟩
def am_tab : List am_M := am_tab0 ++ (am_tab1 ++ (am_tab2 ++ (am_tab3 ++ (am_tab4 ++ (am_tab5 ++ (am_tab6 ++ (am_tab7 ++ (am_tab8 ++ (am_tab9 ++ (am_tab10 ++ (am_tab11)))))))))))
theorem am_tab_ok : ∀ M ∈ am_tab, am_ok M := List.forall_mem_append.mpr ⟨am_tab0_ok, List.forall_mem_append.mpr ⟨am_tab1_ok, List.forall_mem_append.mpr ⟨am_tab2_ok, List.forall_mem_append.mpr ⟨am_tab3_ok, List.forall_mem_append.mpr ⟨am_tab4_ok, List.forall_mem_append.mpr ⟨am_tab5_ok, List.forall_mem_append.mpr ⟨am_tab6_ok, List.forall_mem_append.mpr ⟨am_tab7_ok, List.forall_mem_append.mpr ⟨am_tab8_ok, List.forall_mem_append.mpr ⟨am_tab9_ok, List.forall_mem_append.mpr ⟨am_tab10_ok, am_tab11_ok⟩⟩⟩⟩⟩⟩⟩⟩⟩⟩⟩
theorem am_tab_own : am_tab.all (fun M => Nat.blt M.1.1 17 && (!M.1.2.2.1 || decide (M.2.2.2.1.name = "<init>")) && decide (M.2.2.2.1.cls = am_cn M.1.1)) = true := by decide +kernel
def am_vt (o : Nat) : List (Nat × Nat × Nat × Nat) := match o with
  | 0 => [(22, 1, 24, 0), (28, 5, 82, 0), (34, 1, 26, 0), (42, 8, 98, 0), (48, 8, 99, 0), (51, 8, 101, 0), (60, 1, 30, 0), (68, 1, 29, 0)]
  | 1 => [(15, 1, 24, 0), (21, 0, 9, 0), (25, 0, 1, 1), (28, 0, 3, 1), (31, 0, 10, 0), (34, 1, 26, 0), (38, 0, 15, 0), (46, 0, 17, 0), (50, 0, 4, 1), (53, 0, 5, 1), (61, 5, 82, 0), (67, 0, 11, 0), (74, 0, 2, 1), (78, 0, 14, 0), (81, 0, 12, 0), (84, 0, 13, 0), (88, 0, 16, 0), (94, 1, 28, 0), (98, 0, 18, 0), (102, 1, 29, 0), (105, 8, 93, 0), (108, 8, 95, 0), (112, 0, 20, 0), (121, 1, 30, 0), (125, 1, 33, 0), (128, 0, 6, 1), (140, 1, 31, 0), (146, 0, 21, 0), (151, 1, 32, 0), (155, 0, 22, 0), (158, 1, 27, 0)]
  | 2 => [(19, 1, 26, 0), (23, 1, 29, 0), (37, 1, 37, 0)]
  | 3 => [(37, 2, 45, 0), (40, 2, 46, 0)]
  | 4 => [(15, 1, 24, 0), (21, 3, 51, 0), (25, 3, 52, 0), (33, 1, 38, 0), (37, 3, 54, 0), (41, 3, 3, 1), (44, 3, 53, 0), (51, 3, 58, 0), (55, 3, 1, 1), (58, 3, 55, 0), (61, 3, 5, 1), (69, 5, 82, 0), (78, 3, 2, 1), (82, 1, 26, 0), (91, 1, 28, 0), (95, 1, 30, 0), (99, 3, 56, 0), (110, 3, 4, 1), (115, 8, 93, 0), (118, 8, 95, 0), (135, 3, 61, 0), (139, 3, 6, 1), (143, 1, 29, 0), (146, 3, 63, 0), (155, 1, 31, 0), (159, 1, 32, 0), (163, 3, 62, 0), (166, 1, 33, 0)]
  | 5 => [(23, 4, 66, 0), (34, 1, 36, 0), (43, 4, 68, 0), (47, 4, 69, 0), (50, 4, 4, 1), (53, 4, 70, 0), (59, 1, 28, 0), (69, 1, 30, 0), (76, 9, 107, 0), (82, 4, 72, 0), (89, 1, 24, 0), (93, 4, 5, 1), (104, 5, 82, 0), (114, 4, 2, 1), (118, 4, 67, 0), (131, 1, 26, 0), (148, 4, 71, 0), (161, 8, 93, 0), (164, 8, 95, 0), (171, 4, 74, 0), (175, 7, 85, 0), (181, 4, 76, 0), (185, 4, 77, 0), (189, 1, 32, 0), (193, 1, 35, 0), (203, 4, 6, 1), (211, 1, 27, 0), (214, 1, 33, 0)]
  | 8 => [(20, 7, 91, 0), (24, 1, 24, 0), (30, 7, 86, 0), (34, 7, 87, 0), (38, 7, 89, 0), (50, 7, 88, 0), (53, 7, 90, 0), (65, 1, 26, 0), (68, 1, 29, 0)]
  | 9 => [(22, 8, 95, 0), (30, 1, 24, 0), (35, 1, 37, 0), (39, 1, 39, 0), (46, 8, 96, 0), (50, 8, 100, 0), (54, 1, 28, 0), (57, 1, 30, 0), (64, 8, 104, 0), (79, 1, 26, 0)]
  | 10 => [(50, 9, 111, 0), (63, 1, 28, 0), (72, 9, 108, 0), (76, 5, 82, 0), (82, 9, 110, 0), (86, 9, 118, 0), (90, 9, 113, 0), (93, 9, 114, 0), (96, 1, 26, 0), (99, 2, 42, 0), (102, 2, 43, 0), (105, 2, 41, 0), (110, 1, 24, 0), (113, 1, 29, 0), (116, 9, 112, 0), (120, 2, 44, 0), (130, 2, 47, 0), (136, 9, 109, 0), (140, 9, 115, 0), (144, 9, 117, 0), (147, 2, 48, 0), (150, 9, 116, 0), (153, 9, 119, 0)]
  | 11 => [(86, 1, 24, 0), (95, 1, 34, 0), (101, 1, 28, 0), (104, 1, 25, 0), (113, 1, 26, 0), (117, 1, 30, 0), (129, 8, 98, 0), (138, 8, 99, 0), (143, 8, 101, 0), (147, 8, 93, 0), (148, 8, 95, 0), (154, 8, 100, 0), (171, 8, 96, 0), (175, 8, 97, 0), (180, 8, 102, 0), (183, 8, 103, 0), (197, 10, 141, 0), (203, 0, 19, 3), (203, 3, 60, 3), (203, 4, 73, 3), (207, 5, 81, 0), (210, 8, 94, 0), (211, 0, 8, 3), (211, 3, 50, 3), (211, 4, 65, 3), (215, 5, 79, 0), (218, 5, 80, 0), (223, 7, 85, 0), (226, 9, 107, 0), (241, 1, 27, 0)]
  | 12 => [(78, 11, 155, 0), (90, 11, 160, 0), (108, 11, 167, 0), (112, 11, 169, 0), (120, 11, 170, 0), (123, 11, 171, 0), (126, 11, 172, 0), (129, 11, 174, 0), (136, 11, 168, 0), (140, 11, 173, 0), (144, 11, 175, 0), (149, 11, 180, 0), (158, 11, 182, 0), (161, 11, 183, 0), (165, 11, 184, 0), (170, 11, 156, 0), (188, 11, 192, 0), (191, 11, 193, 0), (194, 11, 191, 0), (197, 11, 194, 0), (200, 11, 187, 0), (204, 11, 196, 0), (207, 11, 188, 0), (210, 11, 195, 0), (213, 11, 190, 0), (216, 11, 189, 0), (235, 11, 199, 0), (244, 11, 200, 0), (247, 11, 202, 0), (257, 11, 205, 0), (260, 11, 206, 0), (263, 11, 186, 0), (267, 11, 207, 0), (273, 11, 210, 0), (276, 11, 212, 0), (279, 11, 229, 0), (288, 11, 208, 0), (291, 11, 209, 0), (294, 11, 211, 0), (297, 11, 197, 0), (300, 11, 204, 0), (303, 11, 213, 0), (312, 11, 216, 0), (320, 11, 217, 0), (324, 11, 221, 0), (327, 11, 218, 0), (330, 11, 220, 0), (333, 11, 215, 0), (336, 11, 219, 0), (339, 11, 224, 0), (345, 11, 226, 0), (348, 11, 227, 0), (351, 11, 222, 0), (354, 11, 223, 0), (357, 11, 225, 0), (360, 11, 228, 0), (370, 11, 233, 0), (379, 11, 235, 0), (382, 11, 234, 0), (385, 11, 236, 0), (388, 11, 237, 0), (391, 11, 238, 0), (394, 11, 241, 0), (398, 11, 240, 0), (401, 11, 243, 0), (405, 11, 242, 0), (408, 11, 245, 0), (412, 11, 246, 0), (416, 11, 248, 0), (419, 11, 250, 0), (422, 11, 249, 0), (425, 11, 251, 0), (428, 11, 252, 0), (431, 11, 253, 0), (434, 11, 254, 0), (437, 11, 244, 0), (440, 11, 247, 0), (443, 11, 255, 0)]
  | 13 => [(7, 10, 121, 0), (17, 10, 122, 0), (21, 10, 123, 0), (27, 10, 124, 0), (33, 10, 125, 0), (36, 10, 126, 0), (40, 10, 127, 0), (43, 10, 129, 0), (46, 10, 130, 0), (49, 10, 131, 0), (52, 10, 132, 0), (55, 10, 136, 0), (59, 10, 137, 0), (62, 10, 138, 0), (65, 10, 139, 0), (69, 10, 140, 0), (83, 11, 157, 0), (87, 11, 158, 0), (91, 11, 159, 0), (95, 11, 176, 0), (98, 11, 177, 0), (102, 11, 178, 0), (105, 11, 179, 0), (106, 10, 128, 0), (110, 11, 181, 0), (113, 11, 185, 0), (116, 11, 256, 0), (119, 11, 214, 0), (122, 11, 166, 0), (123, 10, 133, 0), (126, 11, 239, 0), (127, 10, 134, 0), (130, 11, 230, 0), (131, 10, 135, 0), (134, 11, 232, 0), (138, 11, 161, 0), (141, 11, 162, 0), (144, 11, 163, 0), (147, 11, 164, 0), (150, 11, 165, 0), (151, 11, 153, 0)]
  | _ => []
def am_vn (o : Nat) : List (Nat × Nat) := match o with
  | 0 => [(22, 0), (28, 2), (34, 1), (42, 2), (48, 1), (51, 5), (60, 3), (68, 1)]
  | 1 => [(15, 0), (21, 1), (25, 1), (28, 1), (31, 1), (34, 1), (38, 2), (46, 2), (50, 1), (53, 6), (61, 2), (67, 1), (74, 3), (78, 2), (81, 1), (84, 3), (88, 1), (94, 1), (98, 2), (102, 1), (105, 0), (108, 1), (112, 1), (121, 3), (125, 1), (128, 2), (140, 1), (146, 2), (151, 1), (155, 1), (158, 2)]
  | 2 => [(19, 1), (23, 1), (37, 1)]
  | 3 => [(37, 0), (40, 2)]
  | 4 => [(15, 0), (21, 1), (25, 1), (33, 1), (37, 2), (41, 1), (44, 1), (51, 1), (55, 1), (58, 1), (61, 6), (69, 2), (78, 3), (82, 1), (91, 1), (95, 3), (99, 1), (110, 1), (115, 0), (118, 1), (135, 4), (139, 2), (143, 1), (146, 0), (155, 1), (159, 1), (163, 1), (166, 1)]
  | 5 => [(23, 0), (34, 2), (43, 1), (47, 1), (50, 1), (53, 1), (59, 1), (69, 3), (76, 3), (82, 1), (89, 0), (93, 6), (104, 2), (114, 3), (118, 3), (131, 1), (148, 1), (161, 0), (164, 1), (171, 2), (175, 1), (181, 2), (185, 1), (189, 1), (193, 2), (203, 2), (211, 2), (214, 1)]
  | 8 => [(20, 2), (24, 0), (30, 2), (34, 1), (38, 1), (50, 0), (53, 2), (65, 1), (68, 1)]
  | 9 => [(22, 1), (30, 0), (35, 1), (39, 1), (46, 1), (50, 1), (54, 1), (57, 3), (64, 2), (79, 1)]
  | 10 => [(50, 0), (63, 1), (72, 1), (76, 2), (82, 0), (86, 2), (90, 0), (93, 0), (96, 1), (99, 1), (102, 1), (105, 0), (110, 0), (113, 1), (116, 3), (120, 3), (130, 0), (136, 2), (140, 1), (144, 1), (147, 0), (150, 1), (153, 3)]
  | 11 => [(86, 0), (95, 2), (101, 1), (104, 1), (113, 1), (117, 3), (129, 2), (138, 1), (143, 5), (147, 0), (148, 1), (154, 1), (171, 1), (175, 1), (180, 1), (183, 2), (197, 1), (203, 2), (207, 0), (210, 0), (211, 1), (215, 0), (218, 0), (223, 1), (226, 3), (241, 2)]
  | 12 => [(78, 2), (90, 1), (108, 2), (112, 1), (120, 1), (123, 1), (126, 2), (129, 2), (136, 0), (140, 2), (144, 2), (149, 0), (158, 1), (161, 4), (165, 1), (170, 2), (188, 1), (191, 1), (194, 2), (197, 2), (200, 1), (204, 1), (207, 1), (210, 1), (213, 2), (216, 1), (235, 1), (244, 1), (247, 0), (257, 1), (260, 1), (263, 6), (267, 3), (273, 3), (276, 3), (279, 3), (288, 1), (291, 2), (294, 2), (297, 0), (300, 0), (303, 0), (312, 0), (320, 1), (324, 2), (327, 2), (330, 2), (333, 1), (336, 2), (339, 2), (345, 1), (348, 1), (351, 1), (354, 0), (357, 1), (360, 0), (370, 1), (379, 1), (382, 2), (385, 1), (388, 2), (391, 0), (394, 2), (398, 1), (401, 3), (405, 1), (408, 1), (412, 4), (416, 1), (419, 1), (422, 1), (425, 1), (428, 2), (431, 2), (434, 1), (437, 1), (440, 0), (443, 1)]
  | 13 => [(7, 2), (17, 1), (21, 1), (27, 2), (33, 1), (36, 2), (40, 2), (43, 2), (46, 2), (49, 1), (52, 1), (55, 5), (59, 1), (62, 2), (65, 2), (69, 1), (83, 2), (87, 1), (91, 1), (95, 2), (98, 1), (102, 2), (105, 2), (106, 0), (110, 0), (113, 2), (116, 2), (119, 1), (122, 1), (123, 0), (126, 0), (127, 0), (130, 0), (131, 0), (134, 0), (138, 5), (141, 1), (144, 2), (147, 2), (150, 1), (151, 0)]
  | _ => []
def am_sst (o : Nat) : List (Nat × Nat × Nat) := match o with
  | 0 => [(38, 142, 1)]
  | 1 => [(42, 147, 1)]
  | 4 => [(47, 147, 1), (86, 59, 0), (104, 57, 0)]
  | 5 => [(157, 146, 1), (199, 75, 0)]
  | 8 => [(42, 149, 1), (47, 148, 1), (59, 151, 1), (62, 150, 1)]
  | 9 => [(68, 144, 1), (71, 105, 0), (75, 145, 1)]
  | 10 => [(157, 148, 1), (160, 150, 1), (163, 149, 1), (166, 151, 1)]
  | 11 => [(121, 142, 0), (189, 144, 0), (192, 145, 0), (230, 146, 0), (247, 143, 0), (252, 148, 0), (255, 150, 0)]
  | 12 => [(74, 154, 0), (231, 198, 0), (241, 201, 0), (254, 203, 0), (285, 231, 0)]
  | _ => []
def am_spt (o : Nat) : List (Nat × Nat × Nat) := match o with
  | 1 => [(3, 0, 0)]
  | 4 => [(3, 0, 0)]
  | 5 => [(3, 0, 0)]
  | 7 => [(11, 23, 0)]
  | 9 => [(17, 83, 1)]
  | 10 => [(24, 40, 0)]
  | 11 => [(11, 23, 0), (29, 78, 0), (36, 84, 0), (45, 106, 0), (56, 7, 0), (59, 49, 0), (62, 64, 0), (71, 92, 0)]
  | 13 => [(72, 120, 0), (75, 152, 0)]
  | _ => []
def am_oi (o : Nat) : List Nat := match o with
  | 0 => [3]
  | 2 => [3]
  | 3 => [3]
  | 6 => [3]
  | 7 => [3]
  | 8 => [1]
  | 9 => [3]
  | 10 => [3]
  | 11 => [1]
  | 12 => [1]
  | _ => []
def am_lst : List (Nat × Nat × Nat) := [(78, 259, 2), (84, 260, 2), (88, 261, 2), (92, 262, 2), (96, 263, 2), (99, 264, 2), (103, 265, 2), (111, 266, 2), (114, 267, 2), (117, 268, 2), (120, 269, 2), (135, 270, 2), (139, 271, 2), (142, 272, 2), (145, 273, 2), (148, 274, 2)]
/-- a method's own words, plain: its code stands, its class is ready -/
def am_mok (M : am_M) : Prop := Cond.code M.2.2.2.1 M.2.1 M.1.2.1 M.2.2.1 ∈ lw_tbl ∧ Cond.initialized M.2.2.2.1.cls ∈ lw_tbl ∧ plainName M.2.2.2.1.cls = true ∧ (M.2.2.2.1.cls ≠ "java/lang/invoke/MethodHandle" ∧ M.2.2.2.1.cls ≠ "java/lang/invoke/VarHandle" ∧ (parseMethodDescriptor M.2.2.2.1.desc).map (fun d => d.parameters.length) = some M.2.2.2.2)
/-- the class of an object's kind -/
def am_kn (ci : Nat) : String := match am_cl[ci]? with
  | some q => q.1
  | none => ""
def am_vtok (own : String) (e : Nat × Nat × Nat × Nat) : Prop := ∃ M, am_tab[e.2.2.1]? = some M ∧ e.2.1 < 12 ∧ am_mok M ∧ Cond.instanceMethod M.2.2.2.1 ∈ lw_tbl ∧ (match e.2.2.2 with
    | 0 => Cond.methodLink own e.1 M.2.2.2.1 ∈ lw_tbl ∧ M.2.2.2.1.cls = am_kn e.2.1 ∧ Cond.selects (am_kn e.2.1) M.2.2.2.1 M.2.2.2.1 ∈ lw_tbl
    | 1 => Cond.methodLink own e.1 ⟨am_kn e.2.1, M.2.2.2.1.name, M.2.2.2.1.desc⟩ ∈ lw_tbl ∧ Cond.sameMethod (am_kn e.2.1) M.2.2.2.1.cls M.2.2.2.1.name M.2.2.2.1.desc ∈ lw_tbl ∧ Cond.selects (am_kn e.2.1) ⟨am_kn e.2.1, M.2.2.2.1.name, M.2.2.2.1.desc⟩ M.2.2.2.1 ∈ lw_tbl
    | 3 => Cond.methodLink own e.1 ⟨"ArchiveShelf$Archive", M.2.2.2.1.name, M.2.2.2.1.desc⟩ ∈ lw_tbl ∧ Cond.sameMethod "ArchiveShelf$Archive" "ArchiveShelf$Archive" M.2.2.2.1.name M.2.2.2.1.desc ∈ lw_tbl ∧ Cond.selects (am_kn e.2.1) ⟨"ArchiveShelf$Archive", M.2.2.2.1.name, M.2.2.2.1.desc⟩ M.2.2.2.1 ∈ lw_tbl ∧ Cond.declares ⟨"ArchiveShelf$Archive", M.2.2.2.1.name, M.2.2.2.1.desc⟩ ∈ lw_tbl
    | _ => False)
def am_sstok (own : String) (e : Nat × Nat × Nat) : Prop := ∃ M, am_tab[e.2.1]? = some M ∧ am_mok M ∧ Cond.static M.2.2.2.1 ∈ lw_tbl ∧ (match e.2.2 with
    | 0 => Cond.methodLink own e.1 M.2.2.2.1 ∈ lw_tbl
    | _ => Cond.methodLinkNest own e.1 M.2.2.2.1 "ArchiveShelf" ∈ lw_tbl)
def am_sptok (own : String) (e : Nat × Nat × Nat) : Prop := ∃ M, am_tab[e.2.1]? = some M ∧ am_mok M ∧ Cond.instanceMethod M.2.2.2.1 ∈ lw_tbl ∧ (M.2.2.2.1.name = "<init>" ∧ M.2.2.1 = none) ∧ (match e.2.2 with
    | 0 => Cond.methodLink own e.1 M.2.2.2.1 ∈ lw_tbl
    | _ => Cond.methodLinkNest own e.1 M.2.2.2.1 "ArchiveShelf" ∈ lw_tbl)
def am_oiok (own : String) (e : Nat) : Bool := decide (Cond.methodLink own e objectInit ∈ lw_tbl)
theorem ctb_pn0 : plainName RX0 = true ∧ RX0 ≠ "java/lang/invoke/MethodHandle" ∧ RX0 ≠ "java/lang/invoke/VarHandle" := by decide +kernel
theorem ctb_pn1 : plainName RX1 = true ∧ RX1 ≠ "java/lang/invoke/MethodHandle" ∧ RX1 ≠ "java/lang/invoke/VarHandle" := by decide +kernel
theorem ctb_pn2 : plainName RX2 = true ∧ RX2 ≠ "java/lang/invoke/MethodHandle" ∧ RX2 ≠ "java/lang/invoke/VarHandle" := by decide +kernel
theorem ctb_pn3 : plainName RX3 = true ∧ RX3 ≠ "java/lang/invoke/MethodHandle" ∧ RX3 ≠ "java/lang/invoke/VarHandle" := by decide +kernel
theorem ctb_pn4 : plainName RX4 = true ∧ RX4 ≠ "java/lang/invoke/MethodHandle" ∧ RX4 ≠ "java/lang/invoke/VarHandle" := by decide +kernel
theorem ctb_pn5 : plainName RX5 = true ∧ RX5 ≠ "java/lang/invoke/MethodHandle" ∧ RX5 ≠ "java/lang/invoke/VarHandle" := by decide +kernel
theorem ctb_pn6 : plainName RX6 = true ∧ RX6 ≠ "java/lang/invoke/MethodHandle" ∧ RX6 ≠ "java/lang/invoke/VarHandle" := by decide +kernel
theorem ctb_pn7 : plainName RX7 = true ∧ RX7 ≠ "java/lang/invoke/MethodHandle" ∧ RX7 ≠ "java/lang/invoke/VarHandle" := by decide +kernel
theorem ctb_pn8 : plainName RX8 = true ∧ RX8 ≠ "java/lang/invoke/MethodHandle" ∧ RX8 ≠ "java/lang/invoke/VarHandle" := by decide +kernel
theorem ctb_pn9 : plainName RX9 = true ∧ RX9 ≠ "java/lang/invoke/MethodHandle" ∧ RX9 ≠ "java/lang/invoke/VarHandle" := by decide +kernel
theorem ctb_pn10 : plainName RX10 = true ∧ RX10 ≠ "java/lang/invoke/MethodHandle" ∧ RX10 ≠ "java/lang/invoke/VarHandle" := by decide +kernel
theorem ctb_pn11 : plainName RX11 = true ∧ RX11 ≠ "java/lang/invoke/MethodHandle" ∧ RX11 ≠ "java/lang/invoke/VarHandle" := by decide +kernel
theorem ctb_pn12 : plainName RX12 = true ∧ RX12 ≠ "java/lang/invoke/MethodHandle" ∧ RX12 ≠ "java/lang/invoke/VarHandle" := by decide +kernel
theorem ctb_pd0 : (parseMethodDescriptor "(LArchiveShelf$Bytes;LArchiveShelf$Bytes;LArchiveShelf$Flaw;)V").map (fun d => d.parameters.length) = some 3 := by decide +kernel
theorem ctb_pd1 : (parseMethodDescriptor "(I)Z").map (fun d => d.parameters.length) = some 1 := by decide +kernel
theorem ctb_pd2 : (parseMethodDescriptor "(I[II)Z").map (fun d => d.parameters.length) = some 3 := by decide +kernel
theorem ctb_pd3 : (parseMethodDescriptor "(LArchiveShelf$Shelf;ZLArchiveShelf$Bytes;III)Z").map (fun d => d.parameters.length) = some 6 := by decide +kernel
theorem ctb_pd4 : (parseMethodDescriptor "(LArchiveShelf$Member;Z)V").map (fun d => d.parameters.length) = some 2 := by decide +kernel
theorem ctb_pd5 : (parseMethodDescriptor "(LArchiveShelf$Shelf;)Z").map (fun d => d.parameters.length) = some 1 := by decide +kernel
theorem ctb_pd6 : (parseMethodDescriptor "(III)Z").map (fun d => d.parameters.length) = some 3 := by decide +kernel
theorem ctb_pd7 : (parseMethodDescriptor "(II)Z").map (fun d => d.parameters.length) = some 2 := by decide +kernel
theorem ctb_pd8 : (parseMethodDescriptor "(II)J").map (fun d => d.parameters.length) = some 2 := by decide +kernel
theorem ctb_pd9 : (parseMethodDescriptor "(I)I").map (fun d => d.parameters.length) = some 1 := by decide +kernel
theorem ctb_pd10 : (parseMethodDescriptor "(IZ)V").map (fun d => d.parameters.length) = some 2 := by decide +kernel
theorem ctb_pd11 : (parseMethodDescriptor "(II)V").map (fun d => d.parameters.length) = some 2 := by decide +kernel
theorem ctb_pd12 : (parseMethodDescriptor "(LArchiveShelf$Shelf;Z)V").map (fun d => d.parameters.length) = some 2 := by decide +kernel
theorem ctb_pd13 : (parseMethodDescriptor "(LArchiveShelf$Member;)V").map (fun d => d.parameters.length) = some 1 := by decide +kernel
theorem ctb_pd14 : (parseMethodDescriptor "(I)V").map (fun d => d.parameters.length) = some 1 := by decide +kernel
theorem ctb_pd15 : (parseMethodDescriptor "()I").map (fun d => d.parameters.length) = some 0 := by decide +kernel
theorem ctb_pd16 : (parseMethodDescriptor "(LArchiveShelf$Bytes;II)V").map (fun d => d.parameters.length) = some 3 := by decide +kernel
theorem ctb_pd17 : (parseMethodDescriptor "(Ljava/lang/String;)V").map (fun d => d.parameters.length) = some 1 := by decide +kernel
theorem ctb_pd18 : (parseMethodDescriptor "([I)V").map (fun d => d.parameters.length) = some 1 := by decide +kernel
theorem ctb_pd19 : (parseMethodDescriptor "(JI)V").map (fun d => d.parameters.length) = some 2 := by decide +kernel
theorem ctb_pd20 : (parseMethodDescriptor "(LArchiveShelf$Bytes;)Z").map (fun d => d.parameters.length) = some 1 := by decide +kernel
theorem ctb_pd21 : (parseMethodDescriptor "(Ljava/lang/String;)Z").map (fun d => d.parameters.length) = some 1 := by decide +kernel
theorem ctb_pd22 : (parseMethodDescriptor "([III)V").map (fun d => d.parameters.length) = some 3 := by decide +kernel
theorem ctb_pd23 : (parseMethodDescriptor "()V").map (fun d => d.parameters.length) = some 0 := by decide +kernel
theorem ctb_pd24 : (parseMethodDescriptor "()Z").map (fun d => d.parameters.length) = some 0 := by decide +kernel
theorem ctb_pd25 : (parseMethodDescriptor "(J)I").map (fun d => d.parameters.length) = some 1 := by decide +kernel
theorem ctb_pd26 : (parseMethodDescriptor "(I)J").map (fun d => d.parameters.length) = some 1 := by decide +kernel
theorem ctb_pd27 : (parseMethodDescriptor "(IIII)V").map (fun d => d.parameters.length) = some 4 := by decide +kernel
theorem ctb_pd28 : (parseMethodDescriptor "(LArchiveShelf$Bytes;LArchiveShelf$Bytes;LArchiveShelf$Flaw;LArchiveShelf$Packer;LArchiveShelf$Unpacker;LArchiveShelf$Bytes;)V").map (fun d => d.parameters.length) = some 6 := by decide +kernel
theorem ctb_pd29 : (parseMethodDescriptor "(LArchiveShelf$Member;I)V").map (fun d => d.parameters.length) = some 2 := by decide +kernel
theorem ctb_pd30 : (parseMethodDescriptor "(LArchiveShelf$Member;)I").map (fun d => d.parameters.length) = some 1 := by decide +kernel
theorem ctb_pd31 : (parseMethodDescriptor "(LArchiveShelf$Shelf;)V").map (fun d => d.parameters.length) = some 1 := by decide +kernel
theorem ctb_pd32 : (parseMethodDescriptor "(LArchiveShelf$Bytes;)V").map (fun d => d.parameters.length) = some 1 := by decide +kernel
theorem ctb_pd33 : (parseMethodDescriptor "(LArchiveShelf$Bytes;I)I").map (fun d => d.parameters.length) = some 2 := by decide +kernel
theorem ctb_pd34 : (parseMethodDescriptor "(I)LArchiveShelf$Member;").map (fun d => d.parameters.length) = some 1 := by decide +kernel
theorem ctb_pd35 : (parseMethodDescriptor "(LArchiveShelf$Bytes;)I").map (fun d => d.parameters.length) = some 1 := by decide +kernel
theorem ctb_pd36 : (parseMethodDescriptor "(LArchiveShelf$Bytes;Z)Z").map (fun d => d.parameters.length) = some 2 := by decide +kernel
theorem ctb_pd37 : (parseMethodDescriptor "(LArchiveShelf$Bytes;ZLArchiveShelf$Bytes;II)V").map (fun d => d.parameters.length) = some 5 := by decide +kernel
theorem ctb_pd38 : (parseMethodDescriptor "(LArchiveShelf$Bytes;I)Z").map (fun d => d.parameters.length) = some 2 := by decide +kernel
theorem ctb_pd39 : (parseMethodDescriptor "(LArchiveShelf$Bytes;LArchiveShelf$Bytes;I)Z").map (fun d => d.parameters.length) = some 3 := by decide +kernel
theorem ctb_pd40 : (parseMethodDescriptor "(LArchiveShelf$Codes;I)I").map (fun d => d.parameters.length) = some 2 := by decide +kernel
theorem ctb_pd41 : (parseMethodDescriptor "(III)V").map (fun d => d.parameters.length) = some 3 := by decide +kernel
theorem ctb_pd42 : (parseMethodDescriptor "(LArchiveShelf$Codes;LArchiveShelf$Codes;)Z").map (fun d => d.parameters.length) = some 2 := by decide +kernel
theorem ctb_pd43 : (parseMethodDescriptor "(ILArchiveShelf$Codes;I)Z").map (fun d => d.parameters.length) = some 3 := by decide +kernel
theorem ctb_pd44 : (parseMethodDescriptor "(JI)I").map (fun d => d.parameters.length) = some 2 := by decide +kernel
theorem ctb_pd45 : (parseMethodDescriptor "(IZ)I").map (fun d => d.parameters.length) = some 2 := by decide +kernel
theorem ctb_pd46 : (parseMethodDescriptor "(II)I").map (fun d => d.parameters.length) = some 2 := by decide +kernel
theorem ctb_pd47 : (parseMethodDescriptor "(IIIII)I").map (fun d => d.parameters.length) = some 5 := by decide +kernel
theorem ctb_pd48 : (parseMethodDescriptor "(I)LArchiveShelf$Archive;").map (fun d => d.parameters.length) = some 1 := by decide +kernel
theorem ctb_pd49 : (parseMethodDescriptor "(LArchiveShelf$Bytes;II)Z").map (fun d => d.parameters.length) = some 3 := by decide +kernel
theorem ctb_pd50 : (parseMethodDescriptor "(JJJ)Z").map (fun d => d.parameters.length) = some 3 := by decide +kernel
theorem ctb_pd51 : (parseMethodDescriptor "(ZI)Z").map (fun d => d.parameters.length) = some 2 := by decide +kernel
theorem ctb_pd52 : (parseMethodDescriptor "(IIII)Z").map (fun d => d.parameters.length) = some 4 := by decide +kernel
theorem ctb_pd53 : (parseMethodDescriptor "(IIIIII)Z").map (fun d => d.parameters.length) = some 6 := by decide +kernel
theorem ctb_pd54 : (parseMethodDescriptor "(J)Z").map (fun d => d.parameters.length) = some 1 := by decide +kernel
theorem ctb_pd55 : (parseMethodDescriptor "(Z)V").map (fun d => d.parameters.length) = some 1 := by decide +kernel
theorem am_q_X0_init : am_mok am_m_X0_init := ⟨am_tb1 (List.mem_of_getElem? (i := 194) rfl), am_tb1 (List.mem_of_getElem? (i := 8) rfl), ctb_pn0.1, ctb_pn0.2.1, ctb_pn0.2.2, ctb_pd0⟩
theorem am_q_X0_reaches : am_mok am_m_X0_reaches := ⟨am_tb5 (List.mem_of_getElem? (i := 69) rfl), am_tb1 (List.mem_of_getElem? (i := 8) rfl), ctb_pn0.1, ctb_pn0.2.1, ctb_pn0.2.2, ctb_pd1⟩
theorem am_q_X0_isMarked : am_mok am_m_X0_isMarked := ⟨am_tb5 (List.mem_of_getElem? (i := 100) rfl), am_tb1 (List.mem_of_getElem? (i := 8) rfl), ctb_pn0.1, ctb_pn0.2.1, ctb_pn0.2.2, ctb_pd2⟩
theorem am_q_X0_isZeroFrom : am_mok am_m_X0_isZeroFrom := ⟨am_tb5 (List.mem_of_getElem? (i := 76) rfl), am_tb1 (List.mem_of_getElem? (i := 8) rfl), ctb_pn0.1, ctb_pn0.2.1, ctb_pn0.2.2, ctb_pd1⟩
theorem am_q_X0_isNamed : am_mok am_m_X0_isNamed := ⟨am_tb5 (List.mem_of_getElem? (i := 123) rfl), am_tb1 (List.mem_of_getElem? (i := 8) rfl), ctb_pn0.1, ctb_pn0.2.1, ctb_pn0.2.2, ctb_pd1⟩
theorem am_q_X0_arrives : am_mok am_m_X0_arrives := ⟨am_tb5 (List.mem_of_getElem? (i := 130) rfl), am_tb1 (List.mem_of_getElem? (i := 8) rfl), ctb_pn0.1, ctb_pn0.2.1, ctb_pn0.2.2, ctb_pd3⟩
theorem am_q_X0_addTitle : am_mok am_m_X0_addTitle := ⟨am_tb4 (List.mem_of_getElem? (i := 113) rfl), am_tb1 (List.mem_of_getElem? (i := 8) rfl), ctb_pn0.1, ctb_pn0.2.1, ctb_pn0.2.2, ctb_pd4⟩
theorem am_q_X1_init : am_mok am_m_X1_init := ⟨am_tb1 (List.mem_of_getElem? (i := 191) rfl), am_tb1 (List.mem_of_getElem? (i := 9) rfl), ctb_pn1.1, ctb_pn1.2.1, ctb_pn1.2.2, ctb_pd0⟩
theorem am_q_X1_takeIn : am_mok am_m_X1_takeIn := ⟨am_tb5 (List.mem_of_getElem? (i := 59) rfl), am_tb1 (List.mem_of_getElem? (i := 9) rfl), ctb_pn1.1, ctb_pn1.2.1, ctb_pn1.2.2, ctb_pd5⟩
theorem am_q_X1_isEmptyBlock : am_mok am_m_X1_isEmptyBlock := ⟨am_tb5 (List.mem_of_getElem? (i := 63) rfl), am_tb1 (List.mem_of_getElem? (i := 9) rfl), ctb_pn1.1, ctb_pn1.2.1, ctb_pn1.2.2, ctb_pd1⟩
theorem am_q_X1_isHead : am_mok am_m_X1_isHead := ⟨am_tb5 (List.mem_of_getElem? (i := 81) rfl), am_tb1 (List.mem_of_getElem? (i := 9) rfl), ctb_pn1.1, ctb_pn1.2.1, ctb_pn1.2.2, ctb_pd1⟩
theorem am_q_X1_isSummed : am_mok am_m_X1_isSummed := ⟨am_tb5 (List.mem_of_getElem? (i := 85) rfl), am_tb1 (List.mem_of_getElem? (i := 9) rfl), ctb_pn1.1, ctb_pn1.2.1, ctb_pn1.2.2, ctb_pd1⟩
theorem am_q_X1_isSorted : am_mok am_m_X1_isSorted := ⟨am_tb5 (List.mem_of_getElem? (i := 108) rfl), am_tb1 (List.mem_of_getElem? (i := 9) rfl), ctb_pn1.1, ctb_pn1.2.1, ctb_pn1.2.2, ctb_pd1⟩
theorem am_q_X1_areDigits : am_mok am_m_X1_areDigits := ⟨am_tb5 (List.mem_of_getElem? (i := 89) rfl), am_tb1 (List.mem_of_getElem? (i := 9) rfl), ctb_pn1.1, ctb_pn1.2.1, ctb_pn1.2.2, ctb_pd6⟩
theorem am_q_X1_isOctal : am_mok am_m_X1_isOctal := ⟨am_tb5 (List.mem_of_getElem? (i := 104) rfl), am_tb1 (List.mem_of_getElem? (i := 9) rfl), ctb_pn1.1, ctb_pn1.2.1, ctb_pn1.2.2, ctb_pd7⟩
theorem am_q_X1_octal : am_mok am_m_X1_octal := ⟨am_tb5 (List.mem_of_getElem? (i := 94) rfl), am_tb1 (List.mem_of_getElem? (i := 9) rfl), ctb_pn1.1, ctb_pn1.2.1, ctb_pn1.2.2, ctb_pd8⟩
theorem am_q_X1_sumOf : am_mok am_m_X1_sumOf := ⟨am_tb4 (List.mem_of_getElem? (i := 195) rfl), am_tb1 (List.mem_of_getElem? (i := 9) rfl), ctb_pn1.1, ctb_pn1.2.1, ctb_pn1.2.2, ctb_pd9⟩
theorem am_q_X1_spell : am_mok am_m_X1_spell := ⟨am_tb5 (List.mem_of_getElem? (i := 112) rfl), am_tb1 (List.mem_of_getElem? (i := 9) rfl), ctb_pn1.1, ctb_pn1.2.1, ctb_pn1.2.2, ctb_pd10⟩
theorem am_q_X1_addToPath : am_mok am_m_X1_addToPath := ⟨am_tb5 (List.mem_of_getElem? (i := 117) rfl), am_tb1 (List.mem_of_getElem? (i := 9) rfl), ctb_pn1.1, ctb_pn1.2.1, ctb_pn1.2.2, ctb_pd11⟩
theorem am_q_X1_layOut : am_mok am_m_X1_layOut := ⟨am_tb4 (List.mem_of_getElem? (i := 100) rfl), am_tb1 (List.mem_of_getElem? (i := 9) rfl), ctb_pn1.1, ctb_pn1.2.1, ctb_pn1.2.2, ctb_pd12⟩
theorem am_q_X1_addHead : am_mok am_m_X1_addHead := ⟨am_tb4 (List.mem_of_getElem? (i := 106) rfl), am_tb1 (List.mem_of_getElem? (i := 9) rfl), ctb_pn1.1, ctb_pn1.2.1, ctb_pn1.2.2, ctb_pd13⟩
theorem am_q_X1_addOctal : am_mok am_m_X1_addOctal := ⟨am_tb4 (List.mem_of_getElem? (i := 180) rfl), am_tb1 (List.mem_of_getElem? (i := 9) rfl), ctb_pn1.1, ctb_pn1.2.1, ctb_pn1.2.2, ctb_pd11⟩
theorem am_q_X1_setSum : am_mok am_m_X1_setSum := ⟨am_tb4 (List.mem_of_getElem? (i := 191) rfl), am_tb1 (List.mem_of_getElem? (i := 9) rfl), ctb_pn1.1, ctb_pn1.2.1, ctb_pn1.2.2, ctb_pd14⟩
theorem am_q_X2_init : am_mok am_m_X2_init := ⟨am_tb1 (List.mem_of_getElem? (i := 38) rfl), am_tb1 (List.mem_of_getElem? (i := 2) rfl), ctb_pn2.1, ctb_pn2.2.1, ctb_pn2.2.2, ctb_pd14⟩
theorem am_q_X2_size : am_mok am_m_X2_size := ⟨am_tb2 (List.mem_of_getElem? (i := 128) rfl), am_tb1 (List.mem_of_getElem? (i := 2) rfl), ctb_pn2.1, ctb_pn2.2.1, ctb_pn2.2.2, ctb_pd15⟩
theorem am_q_X2_has : am_mok am_m_X2_has := ⟨am_tb3 (List.mem_of_getElem? (i := 191) rfl), am_tb1 (List.mem_of_getElem? (i := 2) rfl), ctb_pn2.1, ctb_pn2.2.1, ctb_pn2.2.2, ctb_pd1⟩
theorem am_q_X2_get : am_mok am_m_X2_get := ⟨am_tb2 (List.mem_of_getElem? (i := 145) rfl), am_tb1 (List.mem_of_getElem? (i := 2) rfl), ctb_pn2.1, ctb_pn2.2.1, ctb_pn2.2.2, ctb_pd9⟩
theorem am_q_X2_set : am_mok am_m_X2_set := ⟨am_tb4 (List.mem_of_getElem? (i := 200) rfl), am_tb1 (List.mem_of_getElem? (i := 2) rfl), ctb_pn2.1, ctb_pn2.2.1, ctb_pn2.2.2, ctb_pd11⟩
theorem am_q_X2_cutTo : am_mok am_m_X2_cutTo := ⟨am_tb2 (List.mem_of_getElem? (i := 163) rfl), am_tb1 (List.mem_of_getElem? (i := 2) rfl), ctb_pn2.1, ctb_pn2.2.1, ctb_pn2.2.2, ctb_pd14⟩
theorem am_q_X2_add : am_mok am_m_X2_add := ⟨am_tb2 (List.mem_of_getElem? (i := 175) rfl), am_tb1 (List.mem_of_getElem? (i := 2) rfl), ctb_pn2.1, ctb_pn2.2.1, ctb_pn2.2.2, ctb_pd14⟩
theorem am_q_X2_addRow : am_mok am_m_X2_addRow := ⟨am_tb3 (List.mem_of_getElem? (i := 63) rfl), am_tb1 (List.mem_of_getElem? (i := 2) rfl), ctb_pn2.1, ctb_pn2.2.1, ctb_pn2.2.2, ctb_pd16⟩
theorem am_q_X2_addText : am_mok am_m_X2_addText := ⟨am_tb4 (List.mem_of_getElem? (i := 126) rfl), am_tb1 (List.mem_of_getElem? (i := 2) rfl), ctb_pn2.1, ctb_pn2.2.1, ctb_pn2.2.2, ctb_pd17⟩
theorem am_q_X2_addMark : am_mok am_m_X2_addMark := ⟨am_tb4 (List.mem_of_getElem? (i := 187) rfl), am_tb1 (List.mem_of_getElem? (i := 2) rfl), ctb_pn2.1, ctb_pn2.2.1, ctb_pn2.2.2, ctb_pd18⟩
theorem am_q_X2_addZeros : am_mok am_m_X2_addZeros := ⟨am_tb4 (List.mem_of_getElem? (i := 120) rfl), am_tb1 (List.mem_of_getElem? (i := 2) rfl), ctb_pn2.1, ctb_pn2.2.1, ctb_pn2.2.2, ctb_pd14⟩
theorem am_q_X2_addBig : am_mok am_m_X2_addBig := ⟨am_tb3 (List.mem_of_getElem? (i := 171) rfl), am_tb1 (List.mem_of_getElem? (i := 2) rfl), ctb_pn2.1, ctb_pn2.2.1, ctb_pn2.2.2, ctb_pd19⟩
theorem am_q_X2_addLittle : am_mok am_m_X2_addLittle := ⟨am_tb5 (List.mem_of_getElem? (i := 14) rfl), am_tb1 (List.mem_of_getElem? (i := 2) rfl), ctb_pn2.1, ctb_pn2.2.1, ctb_pn2.2.2, ctb_pd19⟩
theorem am_q_X2_little : am_mok am_m_X2_little := ⟨am_tb5 (List.mem_of_getElem? (i := 40) rfl), am_tb1 (List.mem_of_getElem? (i := 2) rfl), ctb_pn2.1, ctb_pn2.2.1, ctb_pn2.2.2, ctb_pd8⟩
theorem am_q_X2_beginsWith : am_mok am_m_X2_beginsWith := ⟨am_tb2 (List.mem_of_getElem? (i := 141) rfl), am_tb1 (List.mem_of_getElem? (i := 2) rfl), ctb_pn2.1, ctb_pn2.2.1, ctb_pn2.2.2, ctb_pd20⟩
theorem am_q_X2_isText : am_mok am_m_X2_isText := ⟨am_tb5 (List.mem_of_getElem? (i := 165) rfl), am_tb1 (List.mem_of_getElem? (i := 2) rfl), ctb_pn2.1, ctb_pn2.2.1, ctb_pn2.2.2, ctb_pd21⟩
theorem am_q_X2_liesUnder : am_mok am_m_X2_liesUnder := ⟨am_tb2 (List.mem_of_getElem? (i := 154) rfl), am_tb1 (List.mem_of_getElem? (i := 2) rfl), ctb_pn2.1, ctb_pn2.2.1, ctb_pn2.2.2, ctb_pd20⟩
theorem am_q_X3_init : am_mok am_m_X3_init := ⟨am_tb1 (List.mem_of_getElem? (i := 90) rfl), am_tb1 (List.mem_of_getElem? (i := 6) rfl), ctb_pn3.1, ctb_pn3.2.1, ctb_pn3.2.2, ctb_pd14⟩
theorem am_q_X3_longest : am_mok am_m_X3_longest := ⟨am_tb3 (List.mem_of_getElem? (i := 22) rfl), am_tb1 (List.mem_of_getElem? (i := 6) rfl), ctb_pn3.1, ctb_pn3.2.1, ctb_pn3.2.2, ctb_pd15⟩
theorem am_q_X3_amount : am_mok am_m_X3_amount := ⟨am_tb3 (List.mem_of_getElem? (i := 14) rfl), am_tb1 (List.mem_of_getElem? (i := 6) rfl), ctb_pn3.1, ctb_pn3.2.1, ctb_pn3.2.2, ctb_pd9⟩
theorem am_q_X3_symbol : am_mok am_m_X3_symbol := ⟨am_tb3 (List.mem_of_getElem? (i := 18) rfl), am_tb1 (List.mem_of_getElem? (i := 6) rfl), ctb_pn3.1, ctb_pn3.2.1, ctb_pn3.2.2, ctb_pd9⟩
theorem am_q_X3_order : am_mok am_m_X3_order := ⟨am_tb1 (List.mem_of_getElem? (i := 121) rfl), am_tb1 (List.mem_of_getElem? (i := 6) rfl), ctb_pn3.1, ctb_pn3.2.1, ctb_pn3.2.2, ctb_pd22⟩
theorem am_q_X3_placeLengths : am_mok am_m_X3_placeLengths := ⟨am_tb1 (List.mem_of_getElem? (i := 131) rfl), am_tb1 (List.mem_of_getElem? (i := 6) rfl), ctb_pn3.1, ctb_pn3.2.1, ctb_pn3.2.2, ctb_pd23⟩
theorem am_q_X3_placeSymbol : am_mok am_m_X3_placeSymbol := ⟨am_tb1 (List.mem_of_getElem? (i := 135) rfl), am_tb1 (List.mem_of_getElem? (i := 6) rfl), ctb_pn3.1, ctb_pn3.2.1, ctb_pn3.2.2, ctb_pd11⟩
theorem am_q_X3_areComplete : am_mok am_m_X3_areComplete := ⟨am_tb3 (List.mem_of_getElem? (i := 38) rfl), am_tb1 (List.mem_of_getElem? (i := 6) rfl), ctb_pn3.1, ctb_pn3.2.1, ctb_pn3.2.2, ctb_pd24⟩
theorem am_q_X3_areNoneOrOneBit : am_mok am_m_X3_areNoneOrOneBit := ⟨am_tb3 (List.mem_of_getElem? (i := 59) rfl), am_tb1 (List.mem_of_getElem? (i := 6) rfl), ctb_pn3.1, ctb_pn3.2.1, ctb_pn3.2.2, ctb_pd24⟩
theorem am_q_X4_init : am_mok am_m_X4_init := ⟨am_tb1 (List.mem_of_getElem? (i := 228) rfl), am_tb1 (List.mem_of_getElem? (i := 10) rfl), ctb_pn4.1, ctb_pn4.2.1, ctb_pn4.2.2, ctb_pd0⟩
theorem am_q_X4_takeIn : am_mok am_m_X4_takeIn := ⟨am_tb5 (List.mem_of_getElem? (i := 136) rfl), am_tb1 (List.mem_of_getElem? (i := 10) rfl), ctb_pn4.1, ctb_pn4.2.1, ctb_pn4.2.2, ctb_pd5⟩
theorem am_q_X4_isHead : am_mok am_m_X4_isHead := ⟨am_tb5 (List.mem_of_getElem? (i := 140) rfl), am_tb1 (List.mem_of_getElem? (i := 10) rfl), ctb_pn4.1, ctb_pn4.2.1, ctb_pn4.2.2, ctb_pd1⟩
theorem am_q_X4_isSpelt : am_mok am_m_X4_isSpelt := ⟨am_tb5 (List.mem_of_getElem? (i := 152) rfl), am_tb1 (List.mem_of_getElem? (i := 10) rfl), ctb_pn4.1, ctb_pn4.2.1, ctb_pn4.2.2, ctb_pd1⟩
theorem am_q_X4_isMember : am_mok am_m_X4_isMember := ⟨am_tb5 (List.mem_of_getElem? (i := 176) rfl), am_tb1 (List.mem_of_getElem? (i := 10) rfl), ctb_pn4.1, ctb_pn4.2.1, ctb_pn4.2.2, ctb_pd1⟩
theorem am_q_X4_isSized : am_mok am_m_X4_isSized := ⟨am_tb5 (List.mem_of_getElem? (i := 169) rfl), am_tb1 (List.mem_of_getElem? (i := 10) rfl), ctb_pn4.1, ctb_pn4.2.1, ctb_pn4.2.2, ctb_pd7⟩
theorem am_q_X4_isDirectory : am_mok am_m_X4_isDirectory := ⟨am_tb5 (List.mem_of_getElem? (i := 190) rfl), am_tb1 (List.mem_of_getElem? (i := 10) rfl), ctb_pn4.1, ctb_pn4.2.1, ctb_pn4.2.2, ctb_pd1⟩
theorem am_q_X4_sortOf : am_mok am_m_X4_sortOf := ⟨am_tb5 (List.mem_of_getElem? (i := 180) rfl), am_tb1 (List.mem_of_getElem? (i := 10) rfl), ctb_pn4.1, ctb_pn4.2.1, ctb_pn4.2.2, ctb_pd9⟩
theorem am_q_X4_sortBits : am_mok am_m_X4_sortBits := ⟨am_tb5 (List.mem_of_getElem? (i := 183) rfl), am_tb1 (List.mem_of_getElem? (i := 10) rfl), ctb_pn4.1, ctb_pn4.2.1, ctb_pn4.2.2, ctb_pd25⟩
theorem am_q_X4_number : am_mok am_m_X4_number := ⟨am_tb5 (List.mem_of_getElem? (i := 156) rfl), am_tb1 (List.mem_of_getElem? (i := 10) rfl), ctb_pn4.1, ctb_pn4.2.1, ctb_pn4.2.2, ctb_pd26⟩
theorem am_q_X4_digit : am_mok am_m_X4_digit := ⟨am_tb5 (List.mem_of_getElem? (i := 147) rfl), am_tb1 (List.mem_of_getElem? (i := 10) rfl), ctb_pn4.1, ctb_pn4.2.1, ctb_pn4.2.2, ctb_pd9⟩
theorem am_q_X4_layOut : am_mok am_m_X4_layOut := ⟨am_tb4 (List.mem_of_getElem? (i := 207) rfl), am_tb1 (List.mem_of_getElem? (i := 10) rfl), ctb_pn4.1, ctb_pn4.2.1, ctb_pn4.2.2, ctb_pd12⟩
theorem am_q_X4_addHead : am_mok am_m_X4_addHead := ⟨am_tb4 (List.mem_of_getElem? (i := 215) rfl), am_tb1 (List.mem_of_getElem? (i := 10) rfl), ctb_pn4.1, ctb_pn4.2.1, ctb_pn4.2.2, ctb_pd27⟩
theorem am_q_X4_addNumber : am_mok am_m_X4_addNumber := ⟨am_tb4 (List.mem_of_getElem? (i := 222) rfl), am_tb1 (List.mem_of_getElem? (i := 10) rfl), ctb_pn4.1, ctb_pn4.2.1, ctb_pn4.2.2, ctb_pd14⟩
theorem am_q_X4_addRest : am_mok am_m_X4_addRest := ⟨am_tb4 (List.mem_of_getElem? (i := 230) rfl), am_tb1 (List.mem_of_getElem? (i := 10) rfl), ctb_pn4.1, ctb_pn4.2.1, ctb_pn4.2.2, ctb_pd23⟩
theorem am_q_X5_init : am_mok am_m_X5_init := ⟨am_tb1 (List.mem_of_getElem? (i := 238) rfl), am_tb1 (List.mem_of_getElem? (i := 11) rfl), ctb_pn5.1, ctb_pn5.2.1, ctb_pn5.2.2, ctb_pd28⟩
theorem am_q_X5_takeIn : am_mok am_m_X5_takeIn := ⟨am_tb5 (List.mem_of_getElem? (i := 199) rfl), am_tb1 (List.mem_of_getElem? (i := 11) rfl), ctb_pn5.1, ctb_pn5.2.1, ctb_pn5.2.2, ctb_pd5⟩
theorem am_q_X5_isClosing : am_mok am_m_X5_isClosing := ⟨am_tb5 (List.mem_of_getElem? (i := 203) rfl), am_tb1 (List.mem_of_getElem? (i := 11) rfl), ctb_pn5.1, ctb_pn5.2.1, ctb_pn5.2.2, ctb_pd24⟩
theorem am_q_X5_isZero : am_mok am_m_X5_isZero := ⟨am_tb5 (List.mem_of_getElem? (i := 211) rfl), am_tb1 (List.mem_of_getElem? (i := 11) rfl), ctb_pn5.1, ctb_pn5.2.1, ctb_pn5.2.2, ctb_pd6⟩
theorem am_q_X5_isEntry : am_mok am_m_X5_isEntry := ⟨am_tb5 (List.mem_of_getElem? (i := 216) rfl), am_tb1 (List.mem_of_getElem? (i := 11) rfl), ctb_pn5.1, ctb_pn5.2.1, ctb_pn5.2.2, ctb_pd1⟩
theorem am_q_X5_isMember : am_mok am_m_X5_isMember := ⟨am_tb5 (List.mem_of_getElem? (i := 220) rfl), am_tb1 (List.mem_of_getElem? (i := 11) rfl), ctb_pn5.1, ctb_pn5.2.1, ctb_pn5.2.2, ctb_pd1⟩
theorem am_q_X5_isLocal : am_mok am_m_X5_isLocal := ⟨am_tb5 (List.mem_of_getElem? (i := 230) rfl), am_tb1 (List.mem_of_getElem? (i := 11) rfl), ctb_pn5.1, ctb_pn5.2.1, ctb_pn5.2.2, ctb_pd1⟩
theorem am_q_X5_isSame : am_mok am_m_X5_isSame := ⟨am_tb5 (List.mem_of_getElem? (i := 235) rfl), am_tb1 (List.mem_of_getElem? (i := 11) rfl), ctb_pn5.1, ctb_pn5.2.1, ctb_pn5.2.2, ctb_pd1⟩
theorem am_q_X5_isBody : am_mok am_m_X5_isBody := ⟨am_tb6 (List.mem_of_getElem? (i := 4) rfl), am_tb1 (List.mem_of_getElem? (i := 11) rfl), ctb_pn5.1, ctb_pn5.2.1, ctb_pn5.2.2, ctb_pd1⟩
theorem am_q_X5_layOut : am_mok am_m_X5_layOut := ⟨am_tb4 (List.mem_of_getElem? (i := 239) rfl), am_tb1 (List.mem_of_getElem? (i := 11) rfl), ctb_pn5.1, ctb_pn5.2.1, ctb_pn5.2.2, ctb_pd12⟩
theorem am_q_X5_addLocal : am_mok am_m_X5_addLocal := ⟨am_tb5 (List.mem_of_getElem? (i := 6) rfl), am_tb1 (List.mem_of_getElem? (i := 11) rfl), ctb_pn5.1, ctb_pn5.2.1, ctb_pn5.2.2, ctb_pd29⟩
theorem am_q_X5_titleBytes : am_mok am_m_X5_titleBytes := ⟨am_tb5 (List.mem_of_getElem? (i := 19) rfl), am_tb1 (List.mem_of_getElem? (i := 11) rfl), ctb_pn5.1, ctb_pn5.2.1, ctb_pn5.2.2, ctb_pd30⟩
theorem am_q_X5_setSize : am_mok am_m_X5_setSize := ⟨am_tb5 (List.mem_of_getElem? (i := 28) rfl), am_tb1 (List.mem_of_getElem? (i := 11) rfl), ctb_pn5.1, ctb_pn5.2.1, ctb_pn5.2.2, ctb_pd11⟩
theorem am_q_X5_addEntries : am_mok am_m_X5_addEntries := ⟨am_tb5 (List.mem_of_getElem? (i := 33) rfl), am_tb1 (List.mem_of_getElem? (i := 11) rfl), ctb_pn5.1, ctb_pn5.2.1, ctb_pn5.2.2, ctb_pd31⟩
theorem am_q_X6_init : am_mok am_m_X6_init := ⟨am_tb1 (List.mem_of_getElem? (i := 52) rfl), am_tb1 (List.mem_of_getElem? (i := 3) rfl), ctb_pn6.1, ctb_pn6.2.1, ctb_pn6.2.2, ctb_pd23⟩
theorem am_q_X6_number : am_mok am_m_X6_number := ⟨am_tb6 (List.mem_of_getElem? (i := 18) rfl), am_tb1 (List.mem_of_getElem? (i := 3) rfl), ctb_pn6.1, ctb_pn6.2.1, ctb_pn6.2.2, ctb_pd15⟩
theorem am_q_X6_place : am_mok am_m_X6_place := ⟨am_tb6 (List.mem_of_getElem? (i := 22) rfl), am_tb1 (List.mem_of_getElem? (i := 3) rfl), ctb_pn6.1, ctb_pn6.2.1, ctb_pn6.2.2, ctb_pd15⟩
theorem am_q_X6_clear : am_mok am_m_X6_clear := ⟨am_tb2 (List.mem_of_getElem? (i := 220) rfl), am_tb1 (List.mem_of_getElem? (i := 3) rfl), ctb_pn6.1, ctb_pn6.2.1, ctb_pn6.2.2, ctb_pd23⟩
theorem am_q_X6_tell : am_mok am_m_X6_tell := ⟨am_tb2 (List.mem_of_getElem? (i := 234) rfl), am_tb1 (List.mem_of_getElem? (i := 3) rfl), ctb_pn6.1, ctb_pn6.2.1, ctb_pn6.2.2, ctb_pd7⟩
theorem am_q_X7_init : am_mok am_m_X7_init := ⟨am_tb2 (List.mem_of_getElem? (i := 54) rfl), am_tb1 (List.mem_of_getElem? (i := 13) rfl), ctb_pn7.1, ctb_pn7.2.1, ctb_pn7.2.2, ctb_pd23⟩
theorem am_q_X8_init : am_mok am_m_X8_init := ⟨am_tb1 (List.mem_of_getElem? (i := 65) rfl), am_tb1 (List.mem_of_getElem? (i := 4) rfl), ctb_pn8.1, ctb_pn8.2.1, ctb_pn8.2.2, ctb_pd32⟩
theorem am_q_X8_addPacked : am_mok am_m_X8_addPacked := ⟨am_tb2 (List.mem_of_getElem? (i := 167) rfl), am_tb1 (List.mem_of_getElem? (i := 4) rfl), ctb_pn8.1, ctb_pn8.2.1, ctb_pn8.2.2, ctb_pd32⟩
theorem am_q_X8_longestBefore : am_mok am_m_X8_longestBefore := ⟨am_tb2 (List.mem_of_getElem? (i := 180) rfl), am_tb1 (List.mem_of_getElem? (i := 4) rfl), ctb_pn8.1, ctb_pn8.2.1, ctb_pn8.2.2, ctb_pd33⟩
theorem am_q_X8_lengthStep : am_mok am_m_X8_lengthStep := ⟨am_tb2 (List.mem_of_getElem? (i := 186) rfl), am_tb1 (List.mem_of_getElem? (i := 4) rfl), ctb_pn8.1, ctb_pn8.2.1, ctb_pn8.2.2, ctb_pd9⟩
theorem am_q_X8_distanceSymbol : am_mok am_m_X8_distanceSymbol := ⟨am_tb2 (List.mem_of_getElem? (i := 205) rfl), am_tb1 (List.mem_of_getElem? (i := 4) rfl), ctb_pn8.1, ctb_pn8.2.1, ctb_pn8.2.2, ctb_pd15⟩
theorem am_q_X8_addSymbol : am_mok am_m_X8_addSymbol := ⟨am_tb2 (List.mem_of_getElem? (i := 196) rfl), am_tb1 (List.mem_of_getElem? (i := 4) rfl), ctb_pn8.1, ctb_pn8.2.1, ctb_pn8.2.2, ctb_pd14⟩
theorem am_q_X8_addCode : am_mok am_m_X8_addCode := ⟨am_tb2 (List.mem_of_getElem? (i := 200) rfl), am_tb1 (List.mem_of_getElem? (i := 4) rfl), ctb_pn8.1, ctb_pn8.2.1, ctb_pn8.2.2, ctb_pd11⟩
theorem am_q_X8_addBits : am_mok am_m_X8_addBits := ⟨am_tb2 (List.mem_of_getElem? (i := 171) rfl), am_tb1 (List.mem_of_getElem? (i := 4) rfl), ctb_pn8.1, ctb_pn8.2.1, ctb_pn8.2.2, ctb_pd11⟩
theorem am_q_X9_init : am_mok am_m_X9_init := ⟨am_tb2 (List.mem_of_getElem? (i := 47) rfl), am_tb1 (List.mem_of_getElem? (i := 12) rfl), ctb_pn9.1, ctb_pn9.2.1, ctb_pn9.2.2, ctb_pd23⟩
theorem am_q_X9_size : am_mok am_m_X9_size := ⟨am_tb4 (List.mem_of_getElem? (i := 23) rfl), am_tb1 (List.mem_of_getElem? (i := 12) rfl), ctb_pn9.1, ctb_pn9.2.1, ctb_pn9.2.2, ctb_pd15⟩
theorem am_q_X9_clear : am_mok am_m_X9_clear := ⟨am_tb5 (List.mem_of_getElem? (i := 53) rfl), am_tb1 (List.mem_of_getElem? (i := 12) rfl), ctb_pn9.1, ctb_pn9.2.1, ctb_pn9.2.2, ctb_pd23⟩
theorem am_q_X9_member : am_mok am_m_X9_member := ⟨am_tb2 (List.mem_of_getElem? (i := 136) rfl), am_tb1 (List.mem_of_getElem? (i := 12) rfl), ctb_pn9.1, ctb_pn9.2.1, ctb_pn9.2.2, ctb_pd34⟩
theorem am_q_X9_find : am_mok am_m_X9_find := ⟨am_tb2 (List.mem_of_getElem? (i := 132) rfl), am_tb1 (List.mem_of_getElem? (i := 12) rfl), ctb_pn9.1, ctb_pn9.2.1, ctb_pn9.2.2, ctb_pd35⟩
theorem am_q_X9_hasUnder : am_mok am_m_X9_hasUnder := ⟨am_tb2 (List.mem_of_getElem? (i := 150) rfl), am_tb1 (List.mem_of_getElem? (i := 12) rfl), ctb_pn9.1, ctb_pn9.2.1, ctb_pn9.2.2, ctb_pd20⟩
theorem am_q_X9_isInTheWay : am_mok am_m_X9_isInTheWay := ⟨am_tb3 (List.mem_of_getElem? (i := 227) rfl), am_tb1 (List.mem_of_getElem? (i := 12) rfl), ctb_pn9.1, ctb_pn9.2.1, ctb_pn9.2.2, ctb_pd36⟩
theorem am_q_X9_hasRoomFor : am_mok am_m_X9_hasRoomFor := ⟨am_tb4 (List.mem_of_getElem? (i := 7) rfl), am_tb1 (List.mem_of_getElem? (i := 12) rfl), ctb_pn9.1, ctb_pn9.2.1, ctb_pn9.2.2, ctb_pd20⟩
theorem am_q_X9_drop : am_mok am_m_X9_drop := ⟨am_tb4 (List.mem_of_getElem? (i := 17) rfl), am_tb1 (List.mem_of_getElem? (i := 12) rfl), ctb_pn9.1, ctb_pn9.2.1, ctb_pn9.2.2, ctb_pd14⟩
theorem am_q_X9_take : am_mok am_m_X9_take := ⟨am_tb4 (List.mem_of_getElem? (i := 13) rfl), am_tb1 (List.mem_of_getElem? (i := 12) rfl), ctb_pn9.1, ctb_pn9.2.1, ctb_pn9.2.2, ctb_pd37⟩
theorem am_q_X9_children : am_mok am_m_X9_children := ⟨am_tb4 (List.mem_of_getElem? (i := 60) rfl), am_tb1 (List.mem_of_getElem? (i := 12) rfl), ctb_pn9.1, ctb_pn9.2.1, ctb_pn9.2.2, ctb_pd35⟩
theorem am_q_X9_firstOfChild : am_mok am_m_X9_firstOfChild := ⟨am_tb4 (List.mem_of_getElem? (i := 78) rfl), am_tb1 (List.mem_of_getElem? (i := 12) rfl), ctb_pn9.1, ctb_pn9.2.1, ctb_pn9.2.2, ctb_pd33⟩
theorem am_q_X9_isFirstOfChild : am_mok am_m_X9_isFirstOfChild := ⟨am_tb4 (List.mem_of_getElem? (i := 64) rfl), am_tb1 (List.mem_of_getElem? (i := 12) rfl), ctb_pn9.1, ctb_pn9.2.1, ctb_pn9.2.2, ctb_pd38⟩
theorem am_q_X9_isSamePart : am_mok am_m_X9_isSamePart := ⟨am_tb4 (List.mem_of_getElem? (i := 70) rfl), am_tb1 (List.mem_of_getElem? (i := 12) rfl), ctb_pn9.1, ctb_pn9.2.1, ctb_pn9.2.2, ctb_pd39⟩
theorem am_q_X10_init : am_mok am_m_X10_init := ⟨am_tb1 (List.mem_of_getElem? (i := 84) rfl), am_tb1 (List.mem_of_getElem? (i := 5) rfl), ctb_pn10.1, ctb_pn10.2.1, ctb_pn10.2.2, ctb_pd0⟩
theorem am_q_X10_open : am_mok am_m_X10_open := ⟨am_tb2 (List.mem_of_getElem? (i := 224) rfl), am_tb1 (List.mem_of_getElem? (i := 5) rfl), ctb_pn10.1, ctb_pn10.2.1, ctb_pn10.2.2, ctb_pd6⟩
theorem am_q_X10_takeBits : am_mok am_m_X10_takeBits := ⟨am_tb2 (List.mem_of_getElem? (i := 230) rfl), am_tb1 (List.mem_of_getElem? (i := 5) rfl), ctb_pn10.1, ctb_pn10.2.1, ctb_pn10.2.2, ctb_pd9⟩
theorem am_q_X10_takeSymbol : am_mok am_m_X10_takeSymbol := ⟨am_tb3 (List.mem_of_getElem? (i := 10) rfl), am_tb1 (List.mem_of_getElem? (i := 5) rfl), ctb_pn10.1, ctb_pn10.2.1, ctb_pn10.2.2, ctb_pd40⟩
theorem am_q_X10_isStored : am_mok am_m_X10_isStored := ⟨am_tb2 (List.mem_of_getElem? (i := 239) rfl), am_tb1 (List.mem_of_getElem? (i := 5) rfl), ctb_pn10.1, ctb_pn10.2.1, ctb_pn10.2.2, ctb_pd24⟩
theorem am_q_X10_orderFixed : am_mok am_m_X10_orderFixed := ⟨am_tb1 (List.mem_of_getElem? (i := 113) rfl), am_tb1 (List.mem_of_getElem? (i := 5) rfl), ctb_pn10.1, ctb_pn10.2.1, ctb_pn10.2.2, ctb_pd23⟩
theorem am_q_X10_fillLengths : am_mok am_m_X10_fillLengths := ⟨am_tb1 (List.mem_of_getElem? (i := 117) rfl), am_tb1 (List.mem_of_getElem? (i := 5) rfl), ctb_pn10.1, ctb_pn10.2.1, ctb_pn10.2.2, ctb_pd41⟩
theorem am_q_X10_areLengthCodes : am_mok am_m_X10_areLengthCodes := ⟨am_tb3 (List.mem_of_getElem? (i := 34) rfl), am_tb1 (List.mem_of_getElem? (i := 5) rfl), ctb_pn10.1, ctb_pn10.2.1, ctb_pn10.2.2, ctb_pd24⟩
theorem am_q_X10_areLengths : am_mok am_m_X10_areLengths := ⟨am_tb3 (List.mem_of_getElem? (i := 43) rfl), am_tb1 (List.mem_of_getElem? (i := 5) rfl), ctb_pn10.1, ctb_pn10.2.1, ctb_pn10.2.2, ctb_pd24⟩
theorem am_q_X10_isRepeated : am_mok am_m_X10_isRepeated := ⟨am_tb3 (List.mem_of_getElem? (i := 47) rfl), am_tb1 (List.mem_of_getElem? (i := 5) rfl), ctb_pn10.1, ctb_pn10.2.1, ctb_pn10.2.2, ctb_pd1⟩
theorem am_q_X10_lengthAt : am_mok am_m_X10_lengthAt := ⟨am_tb3 (List.mem_of_getElem? (i := 51) rfl), am_tb1 (List.mem_of_getElem? (i := 5) rfl), ctb_pn10.1, ctb_pn10.2.1, ctb_pn10.2.2, ctb_pd9⟩
theorem am_q_X10_areSymbolLengths : am_mok am_m_X10_areSymbolLengths := ⟨am_tb3 (List.mem_of_getElem? (i := 55) rfl), am_tb1 (List.mem_of_getElem? (i := 5) rfl), ctb_pn10.1, ctb_pn10.2.1, ctb_pn10.2.2, ctb_pd1⟩
theorem am_q_X10_areSymbols : am_mok am_m_X10_areSymbols := ⟨am_tb3 (List.mem_of_getElem? (i := 6) rfl), am_tb1 (List.mem_of_getElem? (i := 5) rfl), ctb_pn10.1, ctb_pn10.2.1, ctb_pn10.2.2, ctb_pd42⟩
theorem am_q_X10_isCopied : am_mok am_m_X10_isCopied := ⟨am_tb3 (List.mem_of_getElem? (i := 26) rfl), am_tb1 (List.mem_of_getElem? (i := 5) rfl), ctb_pn10.1, ctb_pn10.2.1, ctb_pn10.2.2, ctb_pd43⟩
theorem am_q_X11_init : am_mok am_m_X11_init := ⟨am_tb1 (List.mem_of_getElem? (i := 30) rfl), am_tb1 (List.mem_of_getElem? (i := 1) rfl), ctb_pn11.1, ctb_pn11.2.1, ctb_pn11.2.2, ctb_pd23⟩
theorem am_q_X11_type : am_mok am_m_X11_type := ⟨am_tb3 (List.mem_of_getElem? (i := 82) rfl), am_tb1 (List.mem_of_getElem? (i := 1) rfl), ctb_pn11.1, ctb_pn11.2.1, ctb_pn11.2.2, ctb_pd44⟩
theorem am_q_X11_keep : am_mok am_m_X11_keep := ⟨am_tb3 (List.mem_of_getElem? (i := 178) rfl), am_tb1 (List.mem_of_getElem? (i := 1) rfl), ctb_pn11.1, ctb_pn11.2.1, ctb_pn11.2.2, ctb_pd14⟩
theorem am_q_X11_typed : am_mok am_m_X11_typed := ⟨am_tb3 (List.mem_of_getElem? (i := 187) rfl), am_tb1 (List.mem_of_getElem? (i := 1) rfl), ctb_pn11.1, ctb_pn11.2.1, ctb_pn11.2.2, ctb_pd9⟩
theorem am_q_X11_come : am_mok am_m_X11_come := ⟨am_tb3 (List.mem_of_getElem? (i := 215) rfl), am_tb1 (List.mem_of_getElem? (i := 1) rfl), ctb_pn11.1, ctb_pn11.2.1, ctb_pn11.2.2, ctb_pd45⟩
theorem am_q_X11_go : am_mok am_m_X11_go := ⟨am_tb4 (List.mem_of_getElem? (i := 30) rfl), am_tb1 (List.mem_of_getElem? (i := 1) rfl), ctb_pn11.1, ctb_pn11.2.1, ctb_pn11.2.2, ctb_pd9⟩
theorem am_q_X11_name : am_mok am_m_X11_name := ⟨am_tb4 (List.mem_of_getElem? (i := 39) rfl), am_tb1 (List.mem_of_getElem? (i := 1) rfl), ctb_pn11.1, ctb_pn11.2.1, ctb_pn11.2.2, ctb_pd46⟩
theorem am_q_X11_byteAt : am_mok am_m_X11_byteAt := ⟨am_tb4 (List.mem_of_getElem? (i := 47) rfl), am_tb1 (List.mem_of_getElem? (i := 1) rfl), ctb_pn11.1, ctb_pn11.2.1, ctb_pn11.2.2, ctb_pd46⟩
theorem am_q_X11_kind : am_mok am_m_X11_kind := ⟨am_tb2 (List.mem_of_getElem? (i := 124) rfl), am_tb1 (List.mem_of_getElem? (i := 1) rfl), ctb_pn11.1, ctb_pn11.2.1, ctb_pn11.2.2, ctb_pd15⟩
theorem am_q_X11_child : am_mok am_m_X11_child := ⟨am_tb4 (List.mem_of_getElem? (i := 55) rfl), am_tb1 (List.mem_of_getElem? (i := 1) rfl), ctb_pn11.1, ctb_pn11.2.1, ctb_pn11.2.2, ctb_pd46⟩
theorem am_q_X11_write : am_mok am_m_X11_write := ⟨am_tb4 (List.mem_of_getElem? (i := 89) rfl), am_tb1 (List.mem_of_getElem? (i := 1) rfl), ctb_pn11.1, ctb_pn11.2.1, ctb_pn11.2.2, ctb_pd45⟩
theorem am_q_X11_read : am_mok am_m_X11_read := ⟨am_tb5 (List.mem_of_getElem? (i := 49) rfl), am_tb1 (List.mem_of_getElem? (i := 1) rfl), ctb_pn11.1, ctb_pn11.2.1, ctb_pn11.2.2, ctb_pd9⟩
theorem am_q_X11_fault : am_mok am_m_X11_fault := ⟨am_tb6 (List.mem_of_getElem? (i := 14) rfl), am_tb1 (List.mem_of_getElem? (i := 1) rfl), ctb_pn11.1, ctb_pn11.2.1, ctb_pn11.2.2, ctb_pd9⟩
theorem am_q_X11_pack : am_mok am_m_X11_pack := ⟨am_tb2 (List.mem_of_getElem? (i := 159) rfl), am_tb1 (List.mem_of_getElem? (i := 1) rfl), ctb_pn11.1, ctb_pn11.2.1, ctb_pn11.2.2, ctb_pd15⟩
theorem am_q_X11_unpack : am_mok am_m_X11_unpack := ⟨am_tb2 (List.mem_of_getElem? (i := 216) rfl), am_tb1 (List.mem_of_getElem? (i := 1) rfl), ctb_pn11.1, ctb_pn11.2.1, ctb_pn11.2.2, ctb_pd15⟩
theorem am_q_X11_check : am_mok am_m_X11_check := ⟨am_tb3 (List.mem_of_getElem? (i := 68) rfl), am_tb1 (List.mem_of_getElem? (i := 1) rfl), ctb_pn11.1, ctb_pn11.2.1, ctb_pn11.2.2, ctb_pd15⟩
theorem am_q_X11_feed : am_mok am_m_X11_feed := ⟨am_tb6 (List.mem_of_getElem? (i := 30) rfl), am_tb1 (List.mem_of_getElem? (i := 1) rfl), ctb_pn11.1, ctb_pn11.2.1, ctb_pn11.2.2, ctb_pd47⟩
theorem am_q_X11_end : am_mok am_m_X11_end := ⟨am_tb6 (List.mem_of_getElem? (i := 38) rfl), am_tb1 (List.mem_of_getElem? (i := 1) rfl), ctb_pn11.1, ctb_pn11.2.1, ctb_pn11.2.2, ctb_pd14⟩
theorem am_q_X11_poke : am_mok am_m_X11_poke := ⟨am_tb6 (List.mem_of_getElem? (i := 46) rfl), am_tb1 (List.mem_of_getElem? (i := 1) rfl), ctb_pn11.1, ctb_pn11.2.1, ctb_pn11.2.2, ctb_pd46⟩
theorem am_q_X11_at : am_mok am_m_X11_at := ⟨am_tb6 (List.mem_of_getElem? (i := 56) rfl), am_tb1 (List.mem_of_getElem? (i := 1) rfl), ctb_pn11.1, ctb_pn11.2.1, ctb_pn11.2.2, ctb_pd8⟩
theorem am_q_X11_count : am_mok am_m_X11_count := ⟨am_tb6 (List.mem_of_getElem? (i := 64) rfl), am_tb1 (List.mem_of_getElem? (i := 1) rfl), ctb_pn11.1, ctb_pn11.2.1, ctb_pn11.2.2, ctb_pd9⟩
theorem am_q_X11_archiveOf : am_mok am_m_X11_archiveOf := ⟨am_tb4 (List.mem_of_getElem? (i := 93) rfl), am_tb1 (List.mem_of_getElem? (i := 1) rfl), ctb_pn11.1, ctb_pn11.2.1, ctb_pn11.2.2, ctb_pd48⟩
theorem am_q_X11_isName : am_mok am_m_X11_isName := ⟨am_tb3 (List.mem_of_getElem? (i := 218) rfl), am_tb1 (List.mem_of_getElem? (i := 1) rfl), ctb_pn11.1, ctb_pn11.2.1, ctb_pn11.2.2, ctb_pd20⟩
theorem am_q_X11_isPart : am_mok am_m_X11_isPart := ⟨am_tb3 (List.mem_of_getElem? (i := 221) rfl), am_tb1 (List.mem_of_getElem? (i := 1) rfl), ctb_pn11.1, ctb_pn11.2.1, ctb_pn11.2.2, ctb_pd49⟩
theorem am_q_X11_partBehind : am_mok am_m_X11_partBehind := ⟨am_tb4 (List.mem_of_getElem? (i := 67) rfl), am_tb1 (List.mem_of_getElem? (i := 1) rfl), ctb_pn11.1, ctb_pn11.2.1, ctb_pn11.2.2, ctb_pd35⟩
theorem am_q_X11_partLength : am_mok am_m_X11_partLength := ⟨am_tb4 (List.mem_of_getElem? (i := 73) rfl), am_tb1 (List.mem_of_getElem? (i := 1) rfl), ctb_pn11.1, ctb_pn11.2.1, ctb_pn11.2.2, ctb_pd33⟩
theorem am_q_X11_checkOf : am_mok am_m_X11_checkOf := ⟨am_tb3 (List.mem_of_getElem? (i := 71) rfl), am_tb1 (List.mem_of_getElem? (i := 1) rfl), ctb_pn11.1, ctb_pn11.2.1, ctb_pn11.2.2, ctb_pd35⟩
theorem am_q_X11_roundedUp : am_mok am_m_X11_roundedUp := ⟨am_tb4 (List.mem_of_getElem? (i := 204) rfl), am_tb1 (List.mem_of_getElem? (i := 1) rfl), ctb_pn11.1, ctb_pn11.2.1, ctb_pn11.2.2, ctb_pd46⟩
theorem am_q_X11_lengthBits : am_mok am_m_X11_lengthBits := ⟨am_tb2 (List.mem_of_getElem? (i := 192) rfl), am_tb1 (List.mem_of_getElem? (i := 1) rfl), ctb_pn11.1, ctb_pn11.2.1, ctb_pn11.2.2, ctb_pd9⟩
theorem am_q_X11_lengthBase : am_mok am_m_X11_lengthBase := ⟨am_tb2 (List.mem_of_getElem? (i := 189) rfl), am_tb1 (List.mem_of_getElem? (i := 1) rfl), ctb_pn11.1, ctb_pn11.2.1, ctb_pn11.2.2, ctb_pd9⟩
theorem am_q_X11_distanceBits : am_mok am_m_X11_distanceBits := ⟨am_tb2 (List.mem_of_getElem? (i := 211) rfl), am_tb1 (List.mem_of_getElem? (i := 1) rfl), ctb_pn11.1, ctb_pn11.2.1, ctb_pn11.2.2, ctb_pd9⟩
theorem am_q_X11_distanceBase : am_mok am_m_X11_distanceBase := ⟨am_tb2 (List.mem_of_getElem? (i := 208) rfl), am_tb1 (List.mem_of_getElem? (i := 1) rfl), ctb_pn11.1, ctb_pn11.2.1, ctb_pn11.2.2, ctb_pd9⟩
theorem am_q_X12_init : am_mok am_m_X12_init := ⟨am_tb6 (List.mem_of_getElem? (i := 69) rfl), am_tb1 (List.mem_of_getElem? (i := 14) rfl), ctb_pn12.1, ctb_pn12.2.1, ctb_pn12.2.2, ctb_pd23⟩
theorem am_q_X12_thrown : am_mok am_m_X12_thrown := ⟨am_tb6 (List.mem_of_getElem? (i := 193) rfl), am_tb1 (List.mem_of_getElem? (i := 14) rfl), ctb_pn12.1, ctb_pn12.2.1, ctb_pn12.2.2, ctb_pd15⟩
theorem am_q_X12_in : am_mok am_m_X12_in := ⟨am_tb6 (List.mem_of_getElem? (i := 201) rfl), am_tb1 (List.mem_of_getElem? (i := 14) rfl), ctb_pn12.1, ctb_pn12.2.1, ctb_pn12.2.2, ctb_pd50⟩
theorem am_q_X12_refuses : am_mok am_m_X12_refuses := ⟨am_tb6 (List.mem_of_getElem? (i := 205) rfl), am_tb1 (List.mem_of_getElem? (i := 14) rfl), ctb_pn12.1, ctb_pn12.2.1, ctb_pn12.2.2, ctb_pd51⟩
theorem am_q_X12_fails : am_mok am_m_X12_fails := ⟨am_tb7 (List.mem_of_getElem? (i := 100) rfl), am_tb1 (List.mem_of_getElem? (i := 14) rfl), ctb_pn12.1, ctb_pn12.2.1, ctb_pn12.2.2, ctb_pd7⟩
theorem am_q_X12_type : am_mok am_m_X12_type := ⟨am_tb6 (List.mem_of_getElem? (i := 197) rfl), am_tb1 (List.mem_of_getElem? (i := 14) rfl), ctb_pn12.1, ctb_pn12.2.1, ctb_pn12.2.2, ctb_pd44⟩
theorem am_q_X12_keep : am_mok am_m_X12_keep := ⟨am_tb6 (List.mem_of_getElem? (i := 210) rfl), am_tb1 (List.mem_of_getElem? (i := 14) rfl), ctb_pn12.1, ctb_pn12.2.1, ctb_pn12.2.2, ctb_pd14⟩
theorem am_q_X12_typed : am_mok am_m_X12_typed := ⟨am_tb6 (List.mem_of_getElem? (i := 214) rfl), am_tb1 (List.mem_of_getElem? (i := 14) rfl), ctb_pn12.1, ctb_pn12.2.1, ctb_pn12.2.2, ctb_pd9⟩
theorem am_q_X12_put : am_mok am_m_X12_put := ⟨am_tb6 (List.mem_of_getElem? (i := 222) rfl), am_tb1 (List.mem_of_getElem? (i := 14) rfl), ctb_pn12.1, ctb_pn12.2.1, ctb_pn12.2.2, ctb_pd14⟩
theorem am_q_X12_feed : am_mok am_m_X12_feed := ⟨am_tb6 (List.mem_of_getElem? (i := 218) rfl), am_tb1 (List.mem_of_getElem? (i := 14) rfl), ctb_pn12.1, ctb_pn12.2.1, ctb_pn12.2.2, ctb_pd47⟩
theorem am_q_X12_end : am_mok am_m_X12_end := ⟨am_tb6 (List.mem_of_getElem? (i := 226) rfl), am_tb1 (List.mem_of_getElem? (i := 14) rfl), ctb_pn12.1, ctb_pn12.2.1, ctb_pn12.2.2, ctb_pd14⟩
theorem am_q_X12_poke : am_mok am_m_X12_poke := ⟨am_tb6 (List.mem_of_getElem? (i := 230) rfl), am_tb1 (List.mem_of_getElem? (i := 14) rfl), ctb_pn12.1, ctb_pn12.2.1, ctb_pn12.2.2, ctb_pd46⟩
theorem am_q_X12_at : am_mok am_m_X12_at := ⟨am_tb6 (List.mem_of_getElem? (i := 234) rfl), am_tb1 (List.mem_of_getElem? (i := 14) rfl), ctb_pn12.1, ctb_pn12.2.1, ctb_pn12.2.2, ctb_pd8⟩
theorem am_q_X12_count : am_mok am_m_X12_count := ⟨am_tb6 (List.mem_of_getElem? (i := 238) rfl), am_tb1 (List.mem_of_getElem? (i := 14) rfl), ctb_pn12.1, ctb_pn12.2.1, ctb_pn12.2.2, ctb_pd9⟩
theorem am_q_X12_fault : am_mok am_m_X12_fault := ⟨am_tb7 (List.mem_of_getElem? (i := 3) rfl), am_tb1 (List.mem_of_getElem? (i := 14) rfl), ctb_pn12.1, ctb_pn12.2.1, ctb_pn12.2.2, ctb_pd9⟩
theorem am_q_X12_nameAt : am_mok am_m_X12_nameAt := ⟨am_tb7 (List.mem_of_getElem? (i := 26) rfl), am_tb1 (List.mem_of_getElem? (i := 14) rfl), ctb_pn12.1, ctb_pn12.2.1, ctb_pn12.2.2, ctb_pd46⟩
theorem am_q_X12_isName : am_mok am_m_X12_isName := ⟨am_tb7 (List.mem_of_getElem? (i := 11) rfl), am_tb1 (List.mem_of_getElem? (i := 14) rfl), ctb_pn12.1, ctb_pn12.2.1, ctb_pn12.2.2, ctb_pd24⟩
theorem am_q_X12_isNamed : am_mok am_m_X12_isNamed := ⟨am_tb7 (List.mem_of_getElem? (i := 34) rfl), am_tb1 (List.mem_of_getElem? (i := 14) rfl), ctb_pn12.1, ctb_pn12.2.1, ctb_pn12.2.2, ctb_pd1⟩
theorem am_q_X12_isUnderNew : am_mok am_m_X12_isUnderNew := ⟨am_tb7 (List.mem_of_getElem? (i := 22) rfl), am_tb1 (List.mem_of_getElem? (i := 14) rfl), ctb_pn12.1, ctb_pn12.2.1, ctb_pn12.2.2, ctb_pd1⟩
theorem am_q_X12_isNewUnder : am_mok am_m_X12_isNewUnder := ⟨am_tb7 (List.mem_of_getElem? (i := 30) rfl), am_tb1 (List.mem_of_getElem? (i := 14) rfl), ctb_pn12.1, ctb_pn12.2.1, ctb_pn12.2.2, ctb_pd1⟩
theorem am_q_X12_seek : am_mok am_m_X12_seek := ⟨am_tb7 (List.mem_of_getElem? (i := 38) rfl), am_tb1 (List.mem_of_getElem? (i := 14) rfl), ctb_pn12.1, ctb_pn12.2.1, ctb_pn12.2.2, ctb_pd46⟩
theorem am_q_X12_isInTheWay : am_mok am_m_X12_isInTheWay := ⟨am_tb7 (List.mem_of_getElem? (i := 18) rfl), am_tb1 (List.mem_of_getElem? (i := 14) rfl), ctb_pn12.1, ctb_pn12.2.1, ctb_pn12.2.2, ctb_pd7⟩
theorem am_q_X12_move : am_mok am_m_X12_move := ⟨am_tb7 (List.mem_of_getElem? (i := 46) rfl), am_tb1 (List.mem_of_getElem? (i := 14) rfl), ctb_pn12.1, ctb_pn12.2.1, ctb_pn12.2.2, ctb_pd11⟩
theorem am_q_X12_stand : am_mok am_m_X12_stand := ⟨am_tb7 (List.mem_of_getElem? (i := 42) rfl), am_tb1 (List.mem_of_getElem? (i := 14) rfl), ctb_pn12.1, ctb_pn12.2.1, ctb_pn12.2.2, ctb_pd46⟩
theorem am_q_X12_come : am_mok am_m_X12_come := ⟨am_tb7 (List.mem_of_getElem? (i := 7) rfl), am_tb1 (List.mem_of_getElem? (i := 14) rfl), ctb_pn12.1, ctb_pn12.2.1, ctb_pn12.2.2, ctb_pd45⟩
theorem am_q_X12_go : am_mok am_m_X12_go := ⟨am_tb7 (List.mem_of_getElem? (i := 50) rfl), am_tb1 (List.mem_of_getElem? (i := 14) rfl), ctb_pn12.1, ctb_pn12.2.1, ctb_pn12.2.2, ctb_pd9⟩
theorem am_q_X12_name : am_mok am_m_X12_name := ⟨am_tb7 (List.mem_of_getElem? (i := 54) rfl), am_tb1 (List.mem_of_getElem? (i := 14) rfl), ctb_pn12.1, ctb_pn12.2.1, ctb_pn12.2.2, ctb_pd46⟩
theorem am_q_X12_byteAt : am_mok am_m_X12_byteAt := ⟨am_tb7 (List.mem_of_getElem? (i := 59) rfl), am_tb1 (List.mem_of_getElem? (i := 14) rfl), ctb_pn12.1, ctb_pn12.2.1, ctb_pn12.2.2, ctb_pd46⟩
theorem am_q_X12_takePath : am_mok am_m_X12_takePath := ⟨am_tb7 (List.mem_of_getElem? (i := 67) rfl), am_tb1 (List.mem_of_getElem? (i := 14) rfl), ctb_pn12.1, ctb_pn12.2.1, ctb_pn12.2.2, ctb_pd23⟩
theorem am_q_X12_kind : am_mok am_m_X12_kind := ⟨am_tb7 (List.mem_of_getElem? (i := 63) rfl), am_tb1 (List.mem_of_getElem? (i := 14) rfl), ctb_pn12.1, ctb_pn12.2.1, ctb_pn12.2.2, ctb_pd15⟩
theorem am_q_X12_findPart : am_mok am_m_X12_findPart := ⟨am_tb7 (List.mem_of_getElem? (i := 79) rfl), am_tb1 (List.mem_of_getElem? (i := 14) rfl), ctb_pn12.1, ctb_pn12.2.1, ctb_pn12.2.2, ctb_pd14⟩
theorem am_q_X12_isSamePart : am_mok am_m_X12_isSamePart := ⟨am_tb7 (List.mem_of_getElem? (i := 83) rfl), am_tb1 (List.mem_of_getElem? (i := 14) rfl), ctb_pn12.1, ctb_pn12.2.1, ctb_pn12.2.2, ctb_pd52⟩
theorem am_q_X12_isFresh : am_mok am_m_X12_isFresh := ⟨am_tb7 (List.mem_of_getElem? (i := 75) rfl), am_tb1 (List.mem_of_getElem? (i := 14) rfl), ctb_pn12.1, ctb_pn12.2.1, ctb_pn12.2.2, ctb_pd1⟩
theorem am_q_X12_child : am_mok am_m_X12_child := ⟨am_tb7 (List.mem_of_getElem? (i := 71) rfl), am_tb1 (List.mem_of_getElem? (i := 14) rfl), ctb_pn12.1, ctb_pn12.2.1, ctb_pn12.2.2, ctb_pd46⟩
theorem am_q_X12_isRow : am_mok am_m_X12_isRow := ⟨am_tb7 (List.mem_of_getElem? (i := 186) rfl), am_tb1 (List.mem_of_getElem? (i := 14) rfl), ctb_pn12.1, ctb_pn12.2.1, ctb_pn12.2.2, ctb_pd53⟩
theorem am_q_X12_reaches : am_mok am_m_X12_reaches := ⟨am_tb7 (List.mem_of_getElem? (i := 96) rfl), am_tb1 (List.mem_of_getElem? (i := 14) rfl), ctb_pn12.1, ctb_pn12.2.1, ctb_pn12.2.2, ctb_pd54⟩
theorem am_q_X12_areZeros : am_mok am_m_X12_areZeros := ⟨am_tb7 (List.mem_of_getElem? (i := 108) rfl), am_tb1 (List.mem_of_getElem? (i := 14) rfl), ctb_pn12.1, ctb_pn12.2.1, ctb_pn12.2.2, ctb_pd1⟩
theorem am_q_X12_comes : am_mok am_m_X12_comes := ⟨am_tb7 (List.mem_of_getElem? (i := 140) rfl), am_tb1 (List.mem_of_getElem? (i := 14) rfl), ctb_pn12.1, ctb_pn12.2.1, ctb_pn12.2.2, ctb_pd1⟩
theorem am_q_X12_takeBytes : am_mok am_m_X12_takeBytes := ⟨am_tb7 (List.mem_of_getElem? (i := 136) rfl), am_tb1 (List.mem_of_getElem? (i := 14) rfl), ctb_pn12.1, ctb_pn12.2.1, ctb_pn12.2.2, ctb_pd11⟩
theorem am_q_X12_readOctal : am_mok am_m_X12_readOctal := ⟨am_tb7 (List.mem_of_getElem? (i := 128) rfl), am_tb1 (List.mem_of_getElem? (i := 14) rfl), ctb_pn12.1, ctb_pn12.2.1, ctb_pn12.2.2, ctb_pd7⟩
theorem am_q_X12_readSum : am_mok am_m_X12_readSum := ⟨am_tb7 (List.mem_of_getElem? (i := 116) rfl), am_tb1 (List.mem_of_getElem? (i := 14) rfl), ctb_pn12.1, ctb_pn12.2.1, ctb_pn12.2.2, ctb_pd1⟩
theorem am_q_X12_readMark : am_mok am_m_X12_readMark := ⟨am_tb7 (List.mem_of_getElem? (i := 124) rfl), am_tb1 (List.mem_of_getElem? (i := 14) rfl), ctb_pn12.1, ctb_pn12.2.1, ctb_pn12.2.2, ctb_pd1⟩
theorem am_q_X12_addName : am_mok am_m_X12_addName := ⟨am_tb7 (List.mem_of_getElem? (i := 132) rfl), am_tb1 (List.mem_of_getElem? (i := 14) rfl), ctb_pn12.1, ctb_pn12.2.1, ctb_pn12.2.2, ctb_pd11⟩
theorem am_q_X12_readBlockHead : am_mok am_m_X12_readBlockHead := ⟨am_tb7 (List.mem_of_getElem? (i := 112) rfl), am_tb1 (List.mem_of_getElem? (i := 14) rfl), ctb_pn12.1, ctb_pn12.2.1, ctb_pn12.2.2, ctb_pd1⟩
theorem am_q_X12_isBlank : am_mok am_m_X12_isBlank := ⟨am_tb7 (List.mem_of_getElem? (i := 104) rfl), am_tb1 (List.mem_of_getElem? (i := 14) rfl), ctb_pn12.1, ctb_pn12.2.1, ctb_pn12.2.2, ctb_pd1⟩
theorem am_q_X12_readBlocks : am_mok am_m_X12_readBlocks := ⟨am_tb7 (List.mem_of_getElem? (i := 92) rfl), am_tb1 (List.mem_of_getElem? (i := 14) rfl), ctb_pn12.1, ctb_pn12.2.1, ctb_pn12.2.2, ctb_pd24⟩
theorem am_q_X12_digitOf : am_mok am_m_X12_digitOf := ⟨am_tb7 (List.mem_of_getElem? (i := 151) rfl), am_tb1 (List.mem_of_getElem? (i := 14) rfl), ctb_pn12.1, ctb_pn12.2.1, ctb_pn12.2.2, ctb_pd9⟩
theorem am_q_X12_hexAt : am_mok am_m_X12_hexAt := ⟨am_tb7 (List.mem_of_getElem? (i := 160) rfl), am_tb1 (List.mem_of_getElem? (i := 14) rfl), ctb_pn12.1, ctb_pn12.2.1, ctb_pn12.2.2, ctb_pd26⟩
theorem am_q_X12_readDigitsHead : am_mok am_m_X12_readDigitsHead := ⟨am_tb7 (List.mem_of_getElem? (i := 148) rfl), am_tb1 (List.mem_of_getElem? (i := 14) rfl), ctb_pn12.1, ctb_pn12.2.1, ctb_pn12.2.2, ctb_pd1⟩
theorem am_q_X12_trailerAt : am_mok am_m_X12_trailerAt := ⟨am_tb7 (List.mem_of_getElem? (i := 169) rfl), am_tb1 (List.mem_of_getElem? (i := 14) rfl), ctb_pn12.1, ctb_pn12.2.1, ctb_pn12.2.2, ctb_pd9⟩
theorem am_q_X12_isTrailer : am_mok am_m_X12_isTrailer := ⟨am_tb7 (List.mem_of_getElem? (i := 166) rfl), am_tb1 (List.mem_of_getElem? (i := 14) rfl), ctb_pn12.1, ctb_pn12.2.1, ctb_pn12.2.2, ctb_pd24⟩
theorem am_q_X12_upToFour : am_mok am_m_X12_upToFour := ⟨am_tb7 (List.mem_of_getElem? (i := 174) rfl), am_tb1 (List.mem_of_getElem? (i := 14) rfl), ctb_pn12.1, ctb_pn12.2.1, ctb_pn12.2.2, ctb_pd9⟩
theorem am_q_X12_readDigits : am_mok am_m_X12_readDigits := ⟨am_tb7 (List.mem_of_getElem? (i := 144) rfl), am_tb1 (List.mem_of_getElem? (i := 14) rfl), ctb_pn12.1, ctb_pn12.2.1, ctb_pn12.2.2, ctb_pd24⟩
theorem am_q_X12_twoAt : am_mok am_m_X12_twoAt := ⟨am_tb7 (List.mem_of_getElem? (i := 194) rfl), am_tb1 (List.mem_of_getElem? (i := 14) rfl), ctb_pn12.1, ctb_pn12.2.1, ctb_pn12.2.2, ctb_pd9⟩
theorem am_q_X12_fourAt : am_mok am_m_X12_fourAt := ⟨am_tb7 (List.mem_of_getElem? (i := 198) rfl), am_tb1 (List.mem_of_getElem? (i := 14) rfl), ctb_pn12.1, ctb_pn12.2.1, ctb_pn12.2.2, ctb_pd26⟩
theorem am_q_X12_isZeroAt : am_mok am_m_X12_isZeroAt := ⟨am_tb7 (List.mem_of_getElem? (i := 190) rfl), am_tb1 (List.mem_of_getElem? (i := 14) rfl), ctb_pn12.1, ctb_pn12.2.1, ctb_pn12.2.2, ctb_pd6⟩
theorem am_q_X12_readEnd : am_mok am_m_X12_readEnd := ⟨am_tb7 (List.mem_of_getElem? (i := 182) rfl), am_tb1 (List.mem_of_getElem? (i := 14) rfl), ctb_pn12.1, ctb_pn12.2.1, ctb_pn12.2.2, ctb_pd1⟩
theorem am_q_X12_readEntryHead : am_mok am_m_X12_readEntryHead := ⟨am_tb7 (List.mem_of_getElem? (i := 202) rfl), am_tb1 (List.mem_of_getElem? (i := 14) rfl), ctb_pn12.1, ctb_pn12.2.1, ctb_pn12.2.2, ctb_pd7⟩
theorem am_q_X12_isAsThere : am_mok am_m_X12_isAsThere := ⟨am_tb7 (List.mem_of_getElem? (i := 211) rfl), am_tb1 (List.mem_of_getElem? (i := 14) rfl), ctb_pn12.1, ctb_pn12.2.1, ctb_pn12.2.2, ctb_pd6⟩
theorem am_q_X12_readLocal : am_mok am_m_X12_readLocal := ⟨am_tb7 (List.mem_of_getElem? (i := 206) rfl), am_tb1 (List.mem_of_getElem? (i := 14) rfl), ctb_pn12.1, ctb_pn12.2.1, ctb_pn12.2.2, ctb_pd7⟩
theorem am_q_X12_readContent : am_mok am_m_X12_readContent := ⟨am_tb7 (List.mem_of_getElem? (i := 215) rfl), am_tb1 (List.mem_of_getElem? (i := 14) rfl), ctb_pn12.1, ctb_pn12.2.1, ctb_pn12.2.2, ctb_pd6⟩
theorem am_q_X12_readDirectory : am_mok am_m_X12_readDirectory := ⟨am_tb7 (List.mem_of_getElem? (i := 178) rfl), am_tb1 (List.mem_of_getElem? (i := 14) rfl), ctb_pn12.1, ctb_pn12.2.1, ctb_pn12.2.2, ctb_pd24⟩
theorem am_q_X12_read : am_mok am_m_X12_read := ⟨am_tb7 (List.mem_of_getElem? (i := 88) rfl), am_tb1 (List.mem_of_getElem? (i := 14) rfl), ctb_pn12.1, ctb_pn12.2.1, ctb_pn12.2.2, ctb_pd9⟩
theorem am_q_X12_order : am_mok am_m_X12_order := ⟨am_tb8 (List.mem_of_getElem? (i := 12) rfl), am_tb1 (List.mem_of_getElem? (i := 14) rfl), ctb_pn12.1, ctb_pn12.2.1, ctb_pn12.2.2, ctb_pd9⟩
theorem am_q_X12_bit : am_mok am_m_X12_bit := ⟨am_tb7 (List.mem_of_getElem? (i := 223) rfl), am_tb1 (List.mem_of_getElem? (i := 14) rfl), ctb_pn12.1, ctb_pn12.2.1, ctb_pn12.2.2, ctb_pd15⟩
theorem am_q_X12_bits : am_mok am_m_X12_bits := ⟨am_tb7 (List.mem_of_getElem? (i := 227) rfl), am_tb1 (List.mem_of_getElem? (i := 14) rfl), ctb_pn12.1, ctb_pn12.2.1, ctb_pn12.2.2, ctb_pd9⟩
theorem am_q_X12_layCodes : am_mok am_m_X12_layCodes := ⟨am_tb8 (List.mem_of_getElem? (i := 4) rfl), am_tb1 (List.mem_of_getElem? (i := 14) rfl), ctb_pn12.1, ctb_pn12.2.1, ctb_pn12.2.2, ctb_pd11⟩
theorem am_q_X12_fullness : am_mok am_m_X12_fullness := ⟨am_tb8 (List.mem_of_getElem? (i := 16) rfl), am_tb1 (List.mem_of_getElem? (i := 14) rfl), ctb_pn12.1, ctb_pn12.2.1, ctb_pn12.2.2, ctb_pd46⟩
theorem am_q_X12_symbol : am_mok am_m_X12_symbol := ⟨am_tb8 (List.mem_of_getElem? (i := 25) rfl), am_tb1 (List.mem_of_getElem? (i := 14) rfl), ctb_pn12.1, ctb_pn12.2.1, ctb_pn12.2.2, ctb_pd46⟩
theorem am_q_X12_add : am_mok am_m_X12_add := ⟨am_tb7 (List.mem_of_getElem? (i := 236) rfl), am_tb1 (List.mem_of_getElem? (i := 14) rfl), ctb_pn12.1, ctb_pn12.2.1, ctb_pn12.2.2, ctb_pd7⟩
theorem am_q_X12_plain : am_mok am_m_X12_plain := ⟨am_tb7 (List.mem_of_getElem? (i := 231) rfl), am_tb1 (List.mem_of_getElem? (i := 14) rfl), ctb_pn12.1, ctb_pn12.2.1, ctb_pn12.2.2, ctb_pd1⟩
theorem am_q_X12_layFixed : am_mok am_m_X12_layFixed := ⟨am_tb8 (List.mem_of_getElem? (i := 0) rfl), am_tb1 (List.mem_of_getElem? (i := 14) rfl), ctb_pn12.1, ctb_pn12.2.1, ctb_pn12.2.2, ctb_pd23⟩
theorem am_q_X12_readRow : am_mok am_m_X12_readRow := ⟨am_tb8 (List.mem_of_getElem? (i := 21) rfl), am_tb1 (List.mem_of_getElem? (i := 14) rfl), ctb_pn12.1, ctb_pn12.2.1, ctb_pn12.2.2, ctb_pd7⟩
theorem am_q_X12_readCodes : am_mok am_m_X12_readCodes := ⟨am_tb8 (List.mem_of_getElem? (i := 8) rfl), am_tb1 (List.mem_of_getElem? (i := 14) rfl), ctb_pn12.1, ctb_pn12.2.1, ctb_pn12.2.2, ctb_pd1⟩
theorem am_q_X12_lengthOf : am_mok am_m_X12_lengthOf := ⟨am_tb8 (List.mem_of_getElem? (i := 33) rfl), am_tb1 (List.mem_of_getElem? (i := 14) rfl), ctb_pn12.1, ctb_pn12.2.1, ctb_pn12.2.2, ctb_pd9⟩
theorem am_q_X12_distanceOf : am_mok am_m_X12_distanceOf := ⟨am_tb8 (List.mem_of_getElem? (i := 37) rfl), am_tb1 (List.mem_of_getElem? (i := 14) rfl), ctb_pn12.1, ctb_pn12.2.1, ctb_pn12.2.2, ctb_pd9⟩
theorem am_q_X12_readSymbols : am_mok am_m_X12_readSymbols := ⟨am_tb8 (List.mem_of_getElem? (i := 29) rfl), am_tb1 (List.mem_of_getElem? (i := 14) rfl), ctb_pn12.1, ctb_pn12.2.1, ctb_pn12.2.2, ctb_pd24⟩
theorem am_q_X12_unpackFrom : am_mok am_m_X12_unpackFrom := ⟨am_tb7 (List.mem_of_getElem? (i := 219) rfl), am_tb1 (List.mem_of_getElem? (i := 14) rfl), ctb_pn12.1, ctb_pn12.2.1, ctb_pn12.2.2, ctb_pd6⟩
theorem am_q_X12_unpack : am_mok am_m_X12_unpack := ⟨am_tb8 (List.mem_of_getElem? (i := 45) rfl), am_tb1 (List.mem_of_getElem? (i := 14) rfl), ctb_pn12.1, ctb_pn12.2.1, ctb_pn12.2.2, ctb_pd15⟩
theorem am_q_X12_checkMore : am_mok am_m_X12_checkMore := ⟨am_tb8 (List.mem_of_getElem? (i := 40) rfl), am_tb1 (List.mem_of_getElem? (i := 14) rfl), ctb_pn12.1, ctb_pn12.2.1, ctb_pn12.2.2, ctb_pd46⟩
theorem am_q_X12_check : am_mok am_m_X12_check := ⟨am_tb8 (List.mem_of_getElem? (i := 49) rfl), am_tb1 (List.mem_of_getElem? (i := 14) rfl), ctb_pn12.1, ctb_pn12.2.1, ctb_pn12.2.2, ctb_pd15⟩
theorem am_q_X12_putBit : am_mok am_m_X12_putBit := ⟨am_tb8 (List.mem_of_getElem? (i := 65) rfl), am_tb1 (List.mem_of_getElem? (i := 14) rfl), ctb_pn12.1, ctb_pn12.2.1, ctb_pn12.2.2, ctb_pd14⟩
theorem am_q_X12_putBits : am_mok am_m_X12_putBits := ⟨am_tb8 (List.mem_of_getElem? (i := 61) rfl), am_tb1 (List.mem_of_getElem? (i := 14) rfl), ctb_pn12.1, ctb_pn12.2.1, ctb_pn12.2.2, ctb_pd11⟩
theorem am_q_X12_putCode : am_mok am_m_X12_putCode := ⟨am_tb8 (List.mem_of_getElem? (i := 77) rfl), am_tb1 (List.mem_of_getElem? (i := 14) rfl), ctb_pn12.1, ctb_pn12.2.1, ctb_pn12.2.2, ctb_pd14⟩
theorem am_q_X12_match : am_mok am_m_X12_match := ⟨am_tb8 (List.mem_of_getElem? (i := 69) rfl), am_tb1 (List.mem_of_getElem? (i := 14) rfl), ctb_pn12.1, ctb_pn12.2.1, ctb_pn12.2.2, ctb_pd9⟩
theorem am_q_X12_putMatch : am_mok am_m_X12_putMatch := ⟨am_tb8 (List.mem_of_getElem? (i := 73) rfl), am_tb1 (List.mem_of_getElem? (i := 14) rfl), ctb_pn12.1, ctb_pn12.2.1, ctb_pn12.2.2, ctb_pd11⟩
theorem am_q_X12_putPacked : am_mok am_m_X12_putPacked := ⟨am_tb8 (List.mem_of_getElem? (i := 57) rfl), am_tb1 (List.mem_of_getElem? (i := 14) rfl), ctb_pn12.1, ctb_pn12.2.1, ctb_pn12.2.2, ctb_pd23⟩
theorem am_q_X12_pack : am_mok am_m_X12_pack := ⟨am_tb8 (List.mem_of_getElem? (i := 53) rfl), am_tb1 (List.mem_of_getElem? (i := 14) rfl), ctb_pn12.1, ctb_pn12.2.1, ctb_pn12.2.2, ctb_pd15⟩
theorem am_q_X12_putZeros : am_mok am_m_X12_putZeros := ⟨am_tb8 (List.mem_of_getElem? (i := 93) rfl), am_tb1 (List.mem_of_getElem? (i := 14) rfl), ctb_pn12.1, ctb_pn12.2.1, ctb_pn12.2.2, ctb_pd14⟩
theorem am_q_X12_putName : am_mok am_m_X12_putName := ⟨am_tb8 (List.mem_of_getElem? (i := 89) rfl), am_tb1 (List.mem_of_getElem? (i := 14) rfl), ctb_pn12.1, ctb_pn12.2.1, ctb_pn12.2.2, ctb_pd10⟩
theorem am_q_X12_putBytes : am_mok am_m_X12_putBytes := ⟨am_tb8 (List.mem_of_getElem? (i := 101) rfl), am_tb1 (List.mem_of_getElem? (i := 14) rfl), ctb_pn12.1, ctb_pn12.2.1, ctb_pn12.2.2, ctb_pd14⟩
theorem am_q_X12_octalAt : am_mok am_m_X12_octalAt := ⟨am_tb8 (List.mem_of_getElem? (i := 97) rfl), am_tb1 (List.mem_of_getElem? (i := 14) rfl), ctb_pn12.1, ctb_pn12.2.1, ctb_pn12.2.2, ctb_pd41⟩
theorem am_q_X12_writeBlock : am_mok am_m_X12_writeBlock := ⟨am_tb8 (List.mem_of_getElem? (i := 85) rfl), am_tb1 (List.mem_of_getElem? (i := 14) rfl), ctb_pn12.1, ctb_pn12.2.1, ctb_pn12.2.2, ctb_pd14⟩
theorem am_q_X12_putHex : am_mok am_m_X12_putHex := ⟨am_tb8 (List.mem_of_getElem? (i := 114) rfl), am_tb1 (List.mem_of_getElem? (i := 14) rfl), ctb_pn12.1, ctb_pn12.2.1, ctb_pn12.2.2, ctb_pd14⟩
theorem am_q_X12_putDigitsHead : am_mok am_m_X12_putDigitsHead := ⟨am_tb8 (List.mem_of_getElem? (i := 110) rfl), am_tb1 (List.mem_of_getElem? (i := 14) rfl), ctb_pn12.1, ctb_pn12.2.1, ctb_pn12.2.2, ctb_pd27⟩
theorem am_q_X12_writeDigits : am_mok am_m_X12_writeDigits := ⟨am_tb8 (List.mem_of_getElem? (i := 105) rfl), am_tb1 (List.mem_of_getElem? (i := 14) rfl), ctb_pn12.1, ctb_pn12.2.1, ctb_pn12.2.2, ctb_pd23⟩
theorem am_q_X12_putTwo : am_mok am_m_X12_putTwo := ⟨am_tb8 (List.mem_of_getElem? (i := 126) rfl), am_tb1 (List.mem_of_getElem? (i := 14) rfl), ctb_pn12.1, ctb_pn12.2.1, ctb_pn12.2.2, ctb_pd14⟩
theorem am_q_X12_putFour : am_mok am_m_X12_putFour := ⟨am_tb8 (List.mem_of_getElem? (i := 134) rfl), am_tb1 (List.mem_of_getElem? (i := 14) rfl), ctb_pn12.1, ctb_pn12.2.1, ctb_pn12.2.2, ctb_pd14⟩
theorem am_q_X12_checkOf : am_mok am_m_X12_checkOf := ⟨am_tb8 (List.mem_of_getElem? (i := 130) rfl), am_tb1 (List.mem_of_getElem? (i := 14) rfl), ctb_pn12.1, ctb_pn12.2.1, ctb_pn12.2.2, ctb_pd9⟩
theorem am_q_X12_namedSize : am_mok am_m_X12_namedSize := ⟨am_tb8 (List.mem_of_getElem? (i := 138) rfl), am_tb1 (List.mem_of_getElem? (i := 14) rfl), ctb_pn12.1, ctb_pn12.2.1, ctb_pn12.2.2, ctb_pd9⟩
theorem am_q_X12_fourInto : am_mok am_m_X12_fourInto := ⟨am_tb8 (List.mem_of_getElem? (i := 142) rfl), am_tb1 (List.mem_of_getElem? (i := 14) rfl), ctb_pn12.1, ctb_pn12.2.1, ctb_pn12.2.2, ctb_pd11⟩
theorem am_q_X12_writeLocal : am_mok am_m_X12_writeLocal := ⟨am_tb8 (List.mem_of_getElem? (i := 122) rfl), am_tb1 (List.mem_of_getElem? (i := 14) rfl), ctb_pn12.1, ctb_pn12.2.1, ctb_pn12.2.2, ctb_pd10⟩
theorem am_q_X12_writeEntry : am_mok am_m_X12_writeEntry := ⟨am_tb8 (List.mem_of_getElem? (i := 146) rfl), am_tb1 (List.mem_of_getElem? (i := 14) rfl), ctb_pn12.1, ctb_pn12.2.1, ctb_pn12.2.2, ctb_pd14⟩
theorem am_q_X12_writeDirectory : am_mok am_m_X12_writeDirectory := ⟨am_tb8 (List.mem_of_getElem? (i := 118) rfl), am_tb1 (List.mem_of_getElem? (i := 14) rfl), ctb_pn12.1, ctb_pn12.2.1, ctb_pn12.2.2, ctb_pd55⟩
theorem am_q_X12_write : am_mok am_m_X12_write := ⟨am_tb8 (List.mem_of_getElem? (i := 81) rfl), am_tb1 (List.mem_of_getElem? (i := 14) rfl), ctb_pn12.1, ctb_pn12.2.1, ctb_pn12.2.2, ctb_pd45⟩
theorem am_vx_0_0 : am_vtok (am_cn 0) (22, 1, 24, 0) := ⟨am_m_X2_size, rfl, by decide, am_q_X2_size, am_tb2 (List.mem_of_getElem? (i := 126) rfl), ⟨am_tb4 (List.mem_of_getElem? (i := 114) rfl), rfl, am_tb2 (List.mem_of_getElem? (i := 127) rfl)⟩⟩
theorem am_vx_0_1 : am_vtok (am_cn 0) (28, 5, 82, 0) := ⟨am_m_X6_tell, rfl, by decide, am_q_X6_tell, am_tb2 (List.mem_of_getElem? (i := 232) rfl), ⟨am_tb5 (List.mem_of_getElem? (i := 70) rfl), rfl, am_tb2 (List.mem_of_getElem? (i := 233) rfl)⟩⟩
theorem am_vx_0_2 : am_vtok (am_cn 0) (34, 1, 26, 0) := ⟨am_m_X2_get, rfl, by decide, am_q_X2_get, am_tb2 (List.mem_of_getElem? (i := 143) rfl), ⟨am_tb5 (List.mem_of_getElem? (i := 77) rfl), rfl, am_tb2 (List.mem_of_getElem? (i := 144) rfl)⟩⟩
theorem am_vx_0_3 : am_vtok (am_cn 0) (42, 8, 98, 0) := ⟨am_m_X9_isInTheWay, rfl, by decide, am_q_X9_isInTheWay, am_tb3 (List.mem_of_getElem? (i := 225) rfl), ⟨am_tb5 (List.mem_of_getElem? (i := 131) rfl), rfl, am_tb3 (List.mem_of_getElem? (i := 226) rfl)⟩⟩
theorem am_vx_0_4 : am_vtok (am_cn 0) (48, 8, 99, 0) := ⟨am_m_X9_hasRoomFor, rfl, by decide, am_q_X9_hasRoomFor, am_tb4 (List.mem_of_getElem? (i := 5) rfl), ⟨am_tb5 (List.mem_of_getElem? (i := 132) rfl), rfl, am_tb4 (List.mem_of_getElem? (i := 6) rfl)⟩⟩
theorem am_vx_0_5 : am_vtok (am_cn 0) (51, 8, 101, 0) := ⟨am_m_X9_take, rfl, by decide, am_q_X9_take, am_tb4 (List.mem_of_getElem? (i := 11) rfl), ⟨am_tb5 (List.mem_of_getElem? (i := 133) rfl), rfl, am_tb4 (List.mem_of_getElem? (i := 12) rfl)⟩⟩
theorem am_vx_0_6 : am_vtok (am_cn 0) (60, 1, 30, 0) := ⟨am_m_X2_addRow, rfl, by decide, am_q_X2_addRow, am_tb3 (List.mem_of_getElem? (i := 61) rfl), ⟨am_tb4 (List.mem_of_getElem? (i := 115) rfl), rfl, am_tb3 (List.mem_of_getElem? (i := 62) rfl)⟩⟩
theorem am_vx_0_7 : am_vtok (am_cn 0) (68, 1, 29, 0) := ⟨am_m_X2_add, rfl, by decide, am_q_X2_add, am_tb2 (List.mem_of_getElem? (i := 173) rfl), ⟨am_tb4 (List.mem_of_getElem? (i := 116) rfl), rfl, am_tb2 (List.mem_of_getElem? (i := 174) rfl)⟩⟩
theorem am_vx_0 : ∀ e ∈ [(22, 1, 24, 0), (28, 5, 82, 0), (34, 1, 26, 0), (42, 8, 98, 0), (48, 8, 99, 0), (51, 8, 101, 0), (60, 1, 30, 0), (68, 1, 29, 0)], am_vtok (am_cn 0) e := List.forall_mem_cons.mpr ⟨am_vx_0_0, List.forall_mem_cons.mpr ⟨am_vx_0_1, List.forall_mem_cons.mpr ⟨am_vx_0_2, List.forall_mem_cons.mpr ⟨am_vx_0_3, List.forall_mem_cons.mpr ⟨am_vx_0_4, List.forall_mem_cons.mpr ⟨am_vx_0_5, List.forall_mem_cons.mpr ⟨am_vx_0_6, List.forall_mem_cons.mpr ⟨am_vx_0_7, fun _ h => absurd h List.not_mem_nil⟩⟩⟩⟩⟩⟩⟩⟩
theorem am_vx_1_0 : am_vtok (am_cn 1) (15, 1, 24, 0) := ⟨am_m_X2_size, rfl, by decide, am_q_X2_size, am_tb2 (List.mem_of_getElem? (i := 126) rfl), ⟨am_tb4 (List.mem_of_getElem? (i := 107) rfl), rfl, am_tb2 (List.mem_of_getElem? (i := 127) rfl)⟩⟩
theorem am_vx_1_1 : am_vtok (am_cn 1) (21, 0, 9, 0) := ⟨am_m_X1_isEmptyBlock, rfl, by decide, am_q_X1_isEmptyBlock, am_tb5 (List.mem_of_getElem? (i := 62) rfl), ⟨am_tb5 (List.mem_of_getElem? (i := 60) rfl), rfl, am_tb0 (List.mem_of_getElem? (i := 33) rfl)⟩⟩
theorem am_vx_1_2 : am_vtok (am_cn 1) (25, 0, 1, 1) := ⟨am_m_X0_reaches, rfl, by decide, am_q_X0_reaches, am_tb5 (List.mem_of_getElem? (i := 68) rfl), ⟨am_tb5 (List.mem_of_getElem? (i := 64) rfl), am_tb5 (List.mem_of_getElem? (i := 65) rfl), am_tb5 (List.mem_of_getElem? (i := 67) rfl)⟩⟩
theorem am_vx_1_3 : am_vtok (am_cn 1) (28, 0, 3, 1) := ⟨am_m_X0_isZeroFrom, rfl, by decide, am_q_X0_isZeroFrom, am_tb5 (List.mem_of_getElem? (i := 75) rfl), ⟨am_tb5 (List.mem_of_getElem? (i := 71) rfl), am_tb5 (List.mem_of_getElem? (i := 72) rfl), am_tb5 (List.mem_of_getElem? (i := 74) rfl)⟩⟩
theorem am_vx_1_4 : am_vtok (am_cn 1) (31, 0, 10, 0) := ⟨am_m_X1_isHead, rfl, by decide, am_q_X1_isHead, am_tb5 (List.mem_of_getElem? (i := 80) rfl), ⟨am_tb5 (List.mem_of_getElem? (i := 78) rfl), rfl, am_tb0 (List.mem_of_getElem? (i := 34) rfl)⟩⟩
theorem am_vx_1_5 : am_vtok (am_cn 1) (34, 1, 26, 0) := ⟨am_m_X2_get, rfl, by decide, am_q_X2_get, am_tb2 (List.mem_of_getElem? (i := 143) rfl), ⟨am_tb4 (List.mem_of_getElem? (i := 196) rfl), rfl, am_tb2 (List.mem_of_getElem? (i := 144) rfl)⟩⟩
theorem am_vx_1_6 : am_vtok (am_cn 1) (38, 0, 15, 0) := ⟨am_m_X1_octal, rfl, by decide, am_q_X1_octal, am_tb5 (List.mem_of_getElem? (i := 93) rfl), ⟨am_tb5 (List.mem_of_getElem? (i := 91) rfl), rfl, am_tb0 (List.mem_of_getElem? (i := 37) rfl)⟩⟩
theorem am_vx_1_7 : am_vtok (am_cn 1) (46, 0, 17, 0) := ⟨am_m_X1_spell, rfl, by decide, am_q_X1_spell, am_tb5 (List.mem_of_getElem? (i := 111) rfl), ⟨am_tb5 (List.mem_of_getElem? (i := 109) rfl), rfl, am_tb0 (List.mem_of_getElem? (i := 40) rfl)⟩⟩
theorem am_vx_1_8 : am_vtok (am_cn 1) (50, 0, 4, 1) := ⟨am_m_X0_isNamed, rfl, by decide, am_q_X0_isNamed, am_tb5 (List.mem_of_getElem? (i := 122) rfl), ⟨am_tb5 (List.mem_of_getElem? (i := 118) rfl), am_tb5 (List.mem_of_getElem? (i := 119) rfl), am_tb5 (List.mem_of_getElem? (i := 121) rfl)⟩⟩
theorem am_vx_1_9 : am_vtok (am_cn 1) (53, 0, 5, 1) := ⟨am_m_X0_arrives, rfl, by decide, am_q_X0_arrives, am_tb5 (List.mem_of_getElem? (i := 129) rfl), ⟨am_tb5 (List.mem_of_getElem? (i := 125) rfl), am_tb5 (List.mem_of_getElem? (i := 126) rfl), am_tb5 (List.mem_of_getElem? (i := 128) rfl)⟩⟩
theorem am_vx_1_10 : am_vtok (am_cn 1) (61, 5, 82, 0) := ⟨am_m_X6_tell, rfl, by decide, am_q_X6_tell, am_tb2 (List.mem_of_getElem? (i := 232) rfl), ⟨am_tb5 (List.mem_of_getElem? (i := 90) rfl), rfl, am_tb2 (List.mem_of_getElem? (i := 233) rfl)⟩⟩
theorem am_vx_1_11 : am_vtok (am_cn 1) (67, 0, 11, 0) := ⟨am_m_X1_isSummed, rfl, by decide, am_q_X1_isSummed, am_tb5 (List.mem_of_getElem? (i := 84) rfl), ⟨am_tb5 (List.mem_of_getElem? (i := 82) rfl), rfl, am_tb0 (List.mem_of_getElem? (i := 35) rfl)⟩⟩
theorem am_vx_1_12 : am_vtok (am_cn 1) (74, 0, 2, 1) := ⟨am_m_X0_isMarked, rfl, by decide, am_q_X0_isMarked, am_tb5 (List.mem_of_getElem? (i := 99) rfl), ⟨am_tb5 (List.mem_of_getElem? (i := 95) rfl), am_tb5 (List.mem_of_getElem? (i := 96) rfl), am_tb5 (List.mem_of_getElem? (i := 98) rfl)⟩⟩
theorem am_vx_1_13 : am_vtok (am_cn 1) (78, 0, 14, 0) := ⟨am_m_X1_isOctal, rfl, by decide, am_q_X1_isOctal, am_tb5 (List.mem_of_getElem? (i := 103) rfl), ⟨am_tb5 (List.mem_of_getElem? (i := 101) rfl), rfl, am_tb0 (List.mem_of_getElem? (i := 38) rfl)⟩⟩
theorem am_vx_1_14 : am_vtok (am_cn 1) (81, 0, 12, 0) := ⟨am_m_X1_isSorted, rfl, by decide, am_q_X1_isSorted, am_tb5 (List.mem_of_getElem? (i := 107) rfl), ⟨am_tb5 (List.mem_of_getElem? (i := 105) rfl), rfl, am_tb0 (List.mem_of_getElem? (i := 39) rfl)⟩⟩
theorem am_vx_1_15 : am_vtok (am_cn 1) (84, 0, 13, 0) := ⟨am_m_X1_areDigits, rfl, by decide, am_q_X1_areDigits, am_tb5 (List.mem_of_getElem? (i := 88) rfl), ⟨am_tb5 (List.mem_of_getElem? (i := 86) rfl), rfl, am_tb0 (List.mem_of_getElem? (i := 36) rfl)⟩⟩
theorem am_vx_1_16 : am_vtok (am_cn 1) (88, 0, 16, 0) := ⟨am_m_X1_sumOf, rfl, by decide, am_q_X1_sumOf, am_tb4 (List.mem_of_getElem? (i := 194) rfl), ⟨am_tb4 (List.mem_of_getElem? (i := 192) rfl), rfl, am_tb0 (List.mem_of_getElem? (i := 26) rfl)⟩⟩
theorem am_vx_1_17 : am_vtok (am_cn 1) (94, 1, 28, 0) := ⟨am_m_X2_cutTo, rfl, by decide, am_q_X2_cutTo, am_tb2 (List.mem_of_getElem? (i := 161) rfl), ⟨am_tb5 (List.mem_of_getElem? (i := 113) rfl), rfl, am_tb2 (List.mem_of_getElem? (i := 162) rfl)⟩⟩
theorem am_vx_1_18 : am_vtok (am_cn 1) (98, 0, 18, 0) := ⟨am_m_X1_addToPath, rfl, by decide, am_q_X1_addToPath, am_tb5 (List.mem_of_getElem? (i := 116) rfl), ⟨am_tb5 (List.mem_of_getElem? (i := 114) rfl), rfl, am_tb0 (List.mem_of_getElem? (i := 41) rfl)⟩⟩
theorem am_vx_1_19 : am_vtok (am_cn 1) (102, 1, 29, 0) := ⟨am_m_X2_add, rfl, by decide, am_q_X2_add, am_tb2 (List.mem_of_getElem? (i := 173) rfl), ⟨am_tb4 (List.mem_of_getElem? (i := 175) rfl), rfl, am_tb2 (List.mem_of_getElem? (i := 174) rfl)⟩⟩
theorem am_vx_1_20 : am_vtok (am_cn 1) (105, 8, 93, 0) := ⟨am_m_X9_size, rfl, by decide, am_q_X9_size, am_tb4 (List.mem_of_getElem? (i := 21) rfl), ⟨am_tb4 (List.mem_of_getElem? (i := 101) rfl), rfl, am_tb4 (List.mem_of_getElem? (i := 22) rfl)⟩⟩
theorem am_vx_1_21 : am_vtok (am_cn 1) (108, 8, 95, 0) := ⟨am_m_X9_member, rfl, by decide, am_q_X9_member, am_tb2 (List.mem_of_getElem? (i := 134) rfl), ⟨am_tb4 (List.mem_of_getElem? (i := 102) rfl), rfl, am_tb2 (List.mem_of_getElem? (i := 135) rfl)⟩⟩
theorem am_vx_1_22 : am_vtok (am_cn 1) (112, 0, 20, 0) := ⟨am_m_X1_addHead, rfl, by decide, am_q_X1_addHead, am_tb4 (List.mem_of_getElem? (i := 105) rfl), ⟨am_tb4 (List.mem_of_getElem? (i := 103) rfl), rfl, am_tb0 (List.mem_of_getElem? (i := 23) rfl)⟩⟩
theorem am_vx_1_23 : am_vtok (am_cn 1) (121, 1, 30, 0) := ⟨am_m_X2_addRow, rfl, by decide, am_q_X2_addRow, am_tb3 (List.mem_of_getElem? (i := 61) rfl), ⟨am_tb4 (List.mem_of_getElem? (i := 201) rfl), rfl, am_tb3 (List.mem_of_getElem? (i := 62) rfl)⟩⟩
theorem am_vx_1_24 : am_vtok (am_cn 1) (125, 1, 33, 0) := ⟨am_m_X2_addZeros, rfl, by decide, am_q_X2_addZeros, am_tb4 (List.mem_of_getElem? (i := 118) rfl), ⟨am_tb4 (List.mem_of_getElem? (i := 117) rfl), rfl, am_tb4 (List.mem_of_getElem? (i := 119) rfl)⟩⟩
theorem am_vx_1_25 : am_vtok (am_cn 1) (128, 0, 6, 1) := ⟨am_m_X0_addTitle, rfl, by decide, am_q_X0_addTitle, am_tb4 (List.mem_of_getElem? (i := 112) rfl), ⟨am_tb4 (List.mem_of_getElem? (i := 108) rfl), am_tb4 (List.mem_of_getElem? (i := 109) rfl), am_tb4 (List.mem_of_getElem? (i := 111) rfl)⟩⟩
theorem am_vx_1_26 : am_vtok (am_cn 1) (140, 1, 31, 0) := ⟨am_m_X2_addText, rfl, by decide, am_q_X2_addText, am_tb4 (List.mem_of_getElem? (i := 124) rfl), ⟨am_tb4 (List.mem_of_getElem? (i := 123) rfl), rfl, am_tb4 (List.mem_of_getElem? (i := 125) rfl)⟩⟩
theorem am_vx_1_27 : am_vtok (am_cn 1) (146, 0, 21, 0) := ⟨am_m_X1_addOctal, rfl, by decide, am_q_X1_addOctal, am_tb4 (List.mem_of_getElem? (i := 179) rfl), ⟨am_tb4 (List.mem_of_getElem? (i := 177) rfl), rfl, am_tb0 (List.mem_of_getElem? (i := 24) rfl)⟩⟩
theorem am_vx_1_28 : am_vtok (am_cn 1) (151, 1, 32, 0) := ⟨am_m_X2_addMark, rfl, by decide, am_q_X2_addMark, am_tb4 (List.mem_of_getElem? (i := 185) rfl), ⟨am_tb4 (List.mem_of_getElem? (i := 184) rfl), rfl, am_tb4 (List.mem_of_getElem? (i := 186) rfl)⟩⟩
theorem am_vx_1_29 : am_vtok (am_cn 1) (155, 0, 22, 0) := ⟨am_m_X1_setSum, rfl, by decide, am_q_X1_setSum, am_tb4 (List.mem_of_getElem? (i := 190) rfl), ⟨am_tb4 (List.mem_of_getElem? (i := 188) rfl), rfl, am_tb0 (List.mem_of_getElem? (i := 25) rfl)⟩⟩
theorem am_vx_1_30 : am_vtok (am_cn 1) (158, 1, 27, 0) := ⟨am_m_X2_set, rfl, by decide, am_q_X2_set, am_tb4 (List.mem_of_getElem? (i := 198) rfl), ⟨am_tb4 (List.mem_of_getElem? (i := 197) rfl), rfl, am_tb4 (List.mem_of_getElem? (i := 199) rfl)⟩⟩
theorem am_vx_1 : ∀ e ∈ [(15, 1, 24, 0), (21, 0, 9, 0), (25, 0, 1, 1), (28, 0, 3, 1), (31, 0, 10, 0), (34, 1, 26, 0), (38, 0, 15, 0), (46, 0, 17, 0), (50, 0, 4, 1), (53, 0, 5, 1), (61, 5, 82, 0), (67, 0, 11, 0), (74, 0, 2, 1), (78, 0, 14, 0), (81, 0, 12, 0), (84, 0, 13, 0), (88, 0, 16, 0), (94, 1, 28, 0), (98, 0, 18, 0), (102, 1, 29, 0), (105, 8, 93, 0), (108, 8, 95, 0), (112, 0, 20, 0), (121, 1, 30, 0), (125, 1, 33, 0), (128, 0, 6, 1), (140, 1, 31, 0), (146, 0, 21, 0), (151, 1, 32, 0), (155, 0, 22, 0), (158, 1, 27, 0)], am_vtok (am_cn 1) e := List.forall_mem_cons.mpr ⟨am_vx_1_0, List.forall_mem_cons.mpr ⟨am_vx_1_1, List.forall_mem_cons.mpr ⟨am_vx_1_2, List.forall_mem_cons.mpr ⟨am_vx_1_3, List.forall_mem_cons.mpr ⟨am_vx_1_4, List.forall_mem_cons.mpr ⟨am_vx_1_5, List.forall_mem_cons.mpr ⟨am_vx_1_6, List.forall_mem_cons.mpr ⟨am_vx_1_7, List.forall_mem_cons.mpr ⟨am_vx_1_8, List.forall_mem_cons.mpr ⟨am_vx_1_9, List.forall_mem_cons.mpr ⟨am_vx_1_10, List.forall_mem_cons.mpr ⟨am_vx_1_11, List.forall_mem_cons.mpr ⟨am_vx_1_12, List.forall_mem_cons.mpr ⟨am_vx_1_13, List.forall_mem_cons.mpr ⟨am_vx_1_14, List.forall_mem_cons.mpr ⟨am_vx_1_15, List.forall_mem_cons.mpr ⟨am_vx_1_16, List.forall_mem_cons.mpr ⟨am_vx_1_17, List.forall_mem_cons.mpr ⟨am_vx_1_18, List.forall_mem_cons.mpr ⟨am_vx_1_19, List.forall_mem_cons.mpr ⟨am_vx_1_20, List.forall_mem_cons.mpr ⟨am_vx_1_21, List.forall_mem_cons.mpr ⟨am_vx_1_22, List.forall_mem_cons.mpr ⟨am_vx_1_23, List.forall_mem_cons.mpr ⟨am_vx_1_24, List.forall_mem_cons.mpr ⟨am_vx_1_25, List.forall_mem_cons.mpr ⟨am_vx_1_26, List.forall_mem_cons.mpr ⟨am_vx_1_27, List.forall_mem_cons.mpr ⟨am_vx_1_28, List.forall_mem_cons.mpr ⟨am_vx_1_29, List.forall_mem_cons.mpr ⟨am_vx_1_30, fun _ h => absurd h List.not_mem_nil⟩⟩⟩⟩⟩⟩⟩⟩⟩⟩⟩⟩⟩⟩⟩⟩⟩⟩⟩⟩⟩⟩⟩⟩⟩⟩⟩⟩⟩⟩⟩
theorem am_vx_2_0 : am_vtok (am_cn 2) (19, 1, 26, 0) := ⟨am_m_X2_get, rfl, by decide, am_q_X2_get, am_tb2 (List.mem_of_getElem? (i := 143) rfl), ⟨am_tb2 (List.mem_of_getElem? (i := 142) rfl), rfl, am_tb2 (List.mem_of_getElem? (i := 144) rfl)⟩⟩
theorem am_vx_2_1 : am_vtok (am_cn 2) (23, 1, 29, 0) := ⟨am_m_X2_add, rfl, by decide, am_q_X2_add, am_tb2 (List.mem_of_getElem? (i := 173) rfl), ⟨am_tb3 (List.mem_of_getElem? (i := 64) rfl), rfl, am_tb2 (List.mem_of_getElem? (i := 174) rfl)⟩⟩
theorem am_vx_2_2 : am_vtok (am_cn 2) (37, 1, 37, 0) := ⟨am_m_X2_beginsWith, rfl, by decide, am_q_X2_beginsWith, am_tb2 (List.mem_of_getElem? (i := 139) rfl), ⟨am_tb2 (List.mem_of_getElem? (i := 155) rfl), rfl, am_tb2 (List.mem_of_getElem? (i := 140) rfl)⟩⟩
theorem am_vx_2 : ∀ e ∈ [(19, 1, 26, 0), (23, 1, 29, 0), (37, 1, 37, 0)], am_vtok (am_cn 2) e := List.forall_mem_cons.mpr ⟨am_vx_2_0, List.forall_mem_cons.mpr ⟨am_vx_2_1, List.forall_mem_cons.mpr ⟨am_vx_2_2, fun _ h => absurd h List.not_mem_nil⟩⟩⟩
theorem am_vx_3_0 : am_vtok (am_cn 3) (37, 2, 45, 0) := ⟨am_m_X3_placeLengths, rfl, by decide, am_q_X3_placeLengths, am_tb1 (List.mem_of_getElem? (i := 130) rfl), ⟨am_tb1 (List.mem_of_getElem? (i := 128) rfl), rfl, am_tb0 (List.mem_of_getElem? (i := 2) rfl)⟩⟩
theorem am_vx_3_1 : am_vtok (am_cn 3) (40, 2, 46, 0) := ⟨am_m_X3_placeSymbol, rfl, by decide, am_q_X3_placeSymbol, am_tb1 (List.mem_of_getElem? (i := 134) rfl), ⟨am_tb1 (List.mem_of_getElem? (i := 132) rfl), rfl, am_tb0 (List.mem_of_getElem? (i := 3) rfl)⟩⟩
theorem am_vx_3 : ∀ e ∈ [(37, 2, 45, 0), (40, 2, 46, 0)], am_vtok (am_cn 3) e := List.forall_mem_cons.mpr ⟨am_vx_3_0, List.forall_mem_cons.mpr ⟨am_vx_3_1, fun _ h => absurd h List.not_mem_nil⟩⟩
theorem am_vx_4_0 : am_vtok (am_cn 4) (15, 1, 24, 0) := ⟨am_m_X2_size, rfl, by decide, am_q_X2_size, am_tb2 (List.mem_of_getElem? (i := 126) rfl), ⟨am_tb4 (List.mem_of_getElem? (i := 210) rfl), rfl, am_tb2 (List.mem_of_getElem? (i := 127) rfl)⟩⟩
theorem am_vx_4_1 : am_vtok (am_cn 4) (21, 3, 51, 0) := ⟨am_m_X4_isHead, rfl, by decide, am_q_X4_isHead, am_tb5 (List.mem_of_getElem? (i := 139) rfl), ⟨am_tb5 (List.mem_of_getElem? (i := 137) rfl), rfl, am_tb0 (List.mem_of_getElem? (i := 42) rfl)⟩⟩
theorem am_vx_4_2 : am_vtok (am_cn 4) (25, 3, 52, 0) := ⟨am_m_X4_isSpelt, rfl, by decide, am_q_X4_isSpelt, am_tb5 (List.mem_of_getElem? (i := 151) rfl), ⟨am_tb5 (List.mem_of_getElem? (i := 149) rfl), rfl, am_tb0 (List.mem_of_getElem? (i := 43) rfl)⟩⟩
theorem am_vx_4_3 : am_vtok (am_cn 4) (33, 1, 38, 0) := ⟨am_m_X2_isText, rfl, by decide, am_q_X2_isText, am_tb5 (List.mem_of_getElem? (i := 163) rfl), ⟨am_tb5 (List.mem_of_getElem? (i := 162) rfl), rfl, am_tb5 (List.mem_of_getElem? (i := 164) rfl)⟩⟩
theorem am_vx_4_4 : am_vtok (am_cn 4) (37, 3, 54, 0) := ⟨am_m_X4_isSized, rfl, by decide, am_q_X4_isSized, am_tb5 (List.mem_of_getElem? (i := 168) rfl), ⟨am_tb5 (List.mem_of_getElem? (i := 166) rfl), rfl, am_tb0 (List.mem_of_getElem? (i := 45) rfl)⟩⟩
theorem am_vx_4_5 : am_vtok (am_cn 4) (41, 3, 3, 1) := ⟨am_m_X0_isZeroFrom, rfl, by decide, am_q_X0_isZeroFrom, am_tb5 (List.mem_of_getElem? (i := 75) rfl), ⟨am_tb5 (List.mem_of_getElem? (i := 170) rfl), am_tb5 (List.mem_of_getElem? (i := 171) rfl), am_tb5 (List.mem_of_getElem? (i := 172) rfl)⟩⟩
theorem am_vx_4_6 : am_vtok (am_cn 4) (44, 3, 53, 0) := ⟨am_m_X4_isMember, rfl, by decide, am_q_X4_isMember, am_tb5 (List.mem_of_getElem? (i := 175) rfl), ⟨am_tb5 (List.mem_of_getElem? (i := 173) rfl), rfl, am_tb0 (List.mem_of_getElem? (i := 46) rfl)⟩⟩
theorem am_vx_4_7 : am_vtok (am_cn 4) (51, 3, 58, 0) := ⟨am_m_X4_number, rfl, by decide, am_q_X4_number, am_tb5 (List.mem_of_getElem? (i := 155) rfl), ⟨am_tb5 (List.mem_of_getElem? (i := 153) rfl), rfl, am_tb0 (List.mem_of_getElem? (i := 44) rfl)⟩⟩
theorem am_vx_4_8 : am_vtok (am_cn 4) (55, 3, 1, 1) := ⟨am_m_X0_reaches, rfl, by decide, am_q_X0_reaches, am_tb5 (List.mem_of_getElem? (i := 68) rfl), ⟨am_tb5 (List.mem_of_getElem? (i := 158) rfl), am_tb5 (List.mem_of_getElem? (i := 159) rfl), am_tb5 (List.mem_of_getElem? (i := 160) rfl)⟩⟩
theorem am_vx_4_9 : am_vtok (am_cn 4) (58, 3, 55, 0) := ⟨am_m_X4_isDirectory, rfl, by decide, am_q_X4_isDirectory, am_tb5 (List.mem_of_getElem? (i := 189) rfl), ⟨am_tb5 (List.mem_of_getElem? (i := 187) rfl), rfl, am_tb0 (List.mem_of_getElem? (i := 48) rfl)⟩⟩
theorem am_vx_4_10 : am_vtok (am_cn 4) (61, 3, 5, 1) := ⟨am_m_X0_arrives, rfl, by decide, am_q_X0_arrives, am_tb5 (List.mem_of_getElem? (i := 129) rfl), ⟨am_tb5 (List.mem_of_getElem? (i := 194) rfl), am_tb5 (List.mem_of_getElem? (i := 195) rfl), am_tb5 (List.mem_of_getElem? (i := 196) rfl)⟩⟩
theorem am_vx_4_11 : am_vtok (am_cn 4) (69, 5, 82, 0) := ⟨am_m_X6_tell, rfl, by decide, am_q_X6_tell, am_tb2 (List.mem_of_getElem? (i := 232) rfl), ⟨am_tb5 (List.mem_of_getElem? (i := 148) rfl), rfl, am_tb2 (List.mem_of_getElem? (i := 233) rfl)⟩⟩
theorem am_vx_4_12 : am_vtok (am_cn 4) (78, 3, 2, 1) := ⟨am_m_X0_isMarked, rfl, by decide, am_q_X0_isMarked, am_tb5 (List.mem_of_getElem? (i := 99) rfl), ⟨am_tb5 (List.mem_of_getElem? (i := 141) rfl), am_tb5 (List.mem_of_getElem? (i := 142) rfl), am_tb5 (List.mem_of_getElem? (i := 143) rfl)⟩⟩
theorem am_vx_4_13 : am_vtok (am_cn 4) (82, 1, 26, 0) := ⟨am_m_X2_get, rfl, by decide, am_q_X2_get, am_tb2 (List.mem_of_getElem? (i := 143) rfl), ⟨am_tb5 (List.mem_of_getElem? (i := 144) rfl), rfl, am_tb2 (List.mem_of_getElem? (i := 144) rfl)⟩⟩
theorem am_vx_4_14 : am_vtok (am_cn 4) (91, 1, 28, 0) := ⟨am_m_X2_cutTo, rfl, by decide, am_q_X2_cutTo, am_tb2 (List.mem_of_getElem? (i := 161) rfl), ⟨am_tb5 (List.mem_of_getElem? (i := 161) rfl), rfl, am_tb2 (List.mem_of_getElem? (i := 162) rfl)⟩⟩
theorem am_vx_4_15 : am_vtok (am_cn 4) (95, 1, 30, 0) := ⟨am_m_X2_addRow, rfl, by decide, am_q_X2_addRow, am_tb3 (List.mem_of_getElem? (i := 61) rfl), ⟨am_tb4 (List.mem_of_getElem? (i := 233) rfl), rfl, am_tb3 (List.mem_of_getElem? (i := 62) rfl)⟩⟩
theorem am_vx_4_16 : am_vtok (am_cn 4) (99, 3, 56, 0) := ⟨am_m_X4_sortOf, rfl, by decide, am_q_X4_sortOf, am_tb5 (List.mem_of_getElem? (i := 179) rfl), ⟨am_tb5 (List.mem_of_getElem? (i := 177) rfl), rfl, am_tb0 (List.mem_of_getElem? (i := 47) rfl)⟩⟩
theorem am_vx_4_17 : am_vtok (am_cn 4) (110, 3, 4, 1) := ⟨am_m_X0_isNamed, rfl, by decide, am_q_X0_isNamed, am_tb5 (List.mem_of_getElem? (i := 122) rfl), ⟨am_tb5 (List.mem_of_getElem? (i := 191) rfl), am_tb5 (List.mem_of_getElem? (i := 192) rfl), am_tb5 (List.mem_of_getElem? (i := 193) rfl)⟩⟩
theorem am_vx_4_18 : am_vtok (am_cn 4) (115, 8, 93, 0) := ⟨am_m_X9_size, rfl, by decide, am_q_X9_size, am_tb4 (List.mem_of_getElem? (i := 21) rfl), ⟨am_tb4 (List.mem_of_getElem? (i := 208) rfl), rfl, am_tb4 (List.mem_of_getElem? (i := 22) rfl)⟩⟩
theorem am_vx_4_19 : am_vtok (am_cn 4) (118, 8, 95, 0) := ⟨am_m_X9_member, rfl, by decide, am_q_X9_member, am_tb2 (List.mem_of_getElem? (i := 134) rfl), ⟨am_tb4 (List.mem_of_getElem? (i := 209) rfl), rfl, am_tb2 (List.mem_of_getElem? (i := 135) rfl)⟩⟩
theorem am_vx_4_20 : am_vtok (am_cn 4) (135, 3, 61, 0) := ⟨am_m_X4_addHead, rfl, by decide, am_q_X4_addHead, am_tb4 (List.mem_of_getElem? (i := 214) rfl), ⟨am_tb4 (List.mem_of_getElem? (i := 212) rfl), rfl, am_tb0 (List.mem_of_getElem? (i := 27) rfl)⟩⟩
theorem am_vx_4_21 : am_vtok (am_cn 4) (139, 3, 6, 1) := ⟨am_m_X0_addTitle, rfl, by decide, am_q_X0_addTitle, am_tb4 (List.mem_of_getElem? (i := 112) rfl), ⟨am_tb4 (List.mem_of_getElem? (i := 224) rfl), am_tb4 (List.mem_of_getElem? (i := 225) rfl), am_tb4 (List.mem_of_getElem? (i := 226) rfl)⟩⟩
theorem am_vx_4_22 : am_vtok (am_cn 4) (143, 1, 29, 0) := ⟨am_m_X2_add, rfl, by decide, am_q_X2_add, am_tb2 (List.mem_of_getElem? (i := 173) rfl), ⟨am_tb4 (List.mem_of_getElem? (i := 223) rfl), rfl, am_tb2 (List.mem_of_getElem? (i := 174) rfl)⟩⟩
theorem am_vx_4_23 : am_vtok (am_cn 4) (146, 3, 63, 0) := ⟨am_m_X4_addRest, rfl, by decide, am_q_X4_addRest, am_tb4 (List.mem_of_getElem? (i := 229) rfl), ⟨am_tb4 (List.mem_of_getElem? (i := 227) rfl), rfl, am_tb0 (List.mem_of_getElem? (i := 29) rfl)⟩⟩
theorem am_vx_4_24 : am_vtok (am_cn 4) (155, 1, 31, 0) := ⟨am_m_X2_addText, rfl, by decide, am_q_X2_addText, am_tb4 (List.mem_of_getElem? (i := 124) rfl), ⟨am_tb4 (List.mem_of_getElem? (i := 236) rfl), rfl, am_tb4 (List.mem_of_getElem? (i := 125) rfl)⟩⟩
theorem am_vx_4_25 : am_vtok (am_cn 4) (159, 1, 32, 0) := ⟨am_m_X2_addMark, rfl, by decide, am_q_X2_addMark, am_tb4 (List.mem_of_getElem? (i := 185) rfl), ⟨am_tb4 (List.mem_of_getElem? (i := 218) rfl), rfl, am_tb4 (List.mem_of_getElem? (i := 186) rfl)⟩⟩
theorem am_vx_4_26 : am_vtok (am_cn 4) (163, 3, 62, 0) := ⟨am_m_X4_addNumber, rfl, by decide, am_q_X4_addNumber, am_tb4 (List.mem_of_getElem? (i := 221) rfl), ⟨am_tb4 (List.mem_of_getElem? (i := 219) rfl), rfl, am_tb0 (List.mem_of_getElem? (i := 28) rfl)⟩⟩
theorem am_vx_4_27 : am_vtok (am_cn 4) (166, 1, 33, 0) := ⟨am_m_X2_addZeros, rfl, by decide, am_q_X2_addZeros, am_tb4 (List.mem_of_getElem? (i := 118) rfl), ⟨am_tb4 (List.mem_of_getElem? (i := 232) rfl), rfl, am_tb4 (List.mem_of_getElem? (i := 119) rfl)⟩⟩
theorem am_vx_4 : ∀ e ∈ [(15, 1, 24, 0), (21, 3, 51, 0), (25, 3, 52, 0), (33, 1, 38, 0), (37, 3, 54, 0), (41, 3, 3, 1), (44, 3, 53, 0), (51, 3, 58, 0), (55, 3, 1, 1), (58, 3, 55, 0), (61, 3, 5, 1), (69, 5, 82, 0), (78, 3, 2, 1), (82, 1, 26, 0), (91, 1, 28, 0), (95, 1, 30, 0), (99, 3, 56, 0), (110, 3, 4, 1), (115, 8, 93, 0), (118, 8, 95, 0), (135, 3, 61, 0), (139, 3, 6, 1), (143, 1, 29, 0), (146, 3, 63, 0), (155, 1, 31, 0), (159, 1, 32, 0), (163, 3, 62, 0), (166, 1, 33, 0)], am_vtok (am_cn 4) e := List.forall_mem_cons.mpr ⟨am_vx_4_0, List.forall_mem_cons.mpr ⟨am_vx_4_1, List.forall_mem_cons.mpr ⟨am_vx_4_2, List.forall_mem_cons.mpr ⟨am_vx_4_3, List.forall_mem_cons.mpr ⟨am_vx_4_4, List.forall_mem_cons.mpr ⟨am_vx_4_5, List.forall_mem_cons.mpr ⟨am_vx_4_6, List.forall_mem_cons.mpr ⟨am_vx_4_7, List.forall_mem_cons.mpr ⟨am_vx_4_8, List.forall_mem_cons.mpr ⟨am_vx_4_9, List.forall_mem_cons.mpr ⟨am_vx_4_10, List.forall_mem_cons.mpr ⟨am_vx_4_11, List.forall_mem_cons.mpr ⟨am_vx_4_12, List.forall_mem_cons.mpr ⟨am_vx_4_13, List.forall_mem_cons.mpr ⟨am_vx_4_14, List.forall_mem_cons.mpr ⟨am_vx_4_15, List.forall_mem_cons.mpr ⟨am_vx_4_16, List.forall_mem_cons.mpr ⟨am_vx_4_17, List.forall_mem_cons.mpr ⟨am_vx_4_18, List.forall_mem_cons.mpr ⟨am_vx_4_19, List.forall_mem_cons.mpr ⟨am_vx_4_20, List.forall_mem_cons.mpr ⟨am_vx_4_21, List.forall_mem_cons.mpr ⟨am_vx_4_22, List.forall_mem_cons.mpr ⟨am_vx_4_23, List.forall_mem_cons.mpr ⟨am_vx_4_24, List.forall_mem_cons.mpr ⟨am_vx_4_25, List.forall_mem_cons.mpr ⟨am_vx_4_26, List.forall_mem_cons.mpr ⟨am_vx_4_27, fun _ h => absurd h List.not_mem_nil⟩⟩⟩⟩⟩⟩⟩⟩⟩⟩⟩⟩⟩⟩⟩⟩⟩⟩⟩⟩⟩⟩⟩⟩⟩⟩⟩⟩
theorem am_vx_5_0 : am_vtok (am_cn 5) (23, 4, 66, 0) := ⟨am_m_X5_isClosing, rfl, by decide, am_q_X5_isClosing, am_tb5 (List.mem_of_getElem? (i := 202) rfl), ⟨am_tb5 (List.mem_of_getElem? (i := 200) rfl), rfl, am_tb0 (List.mem_of_getElem? (i := 49) rfl)⟩⟩
theorem am_vx_5_1 : am_vtok (am_cn 5) (34, 1, 36, 0) := ⟨am_m_X2_little, rfl, by decide, am_q_X2_little, am_tb5 (List.mem_of_getElem? (i := 38) rfl), ⟨am_tb5 (List.mem_of_getElem? (i := 37) rfl), rfl, am_tb5 (List.mem_of_getElem? (i := 39) rfl)⟩⟩
theorem am_vx_5_2 : am_vtok (am_cn 5) (43, 4, 68, 0) := ⟨am_m_X5_isEntry, rfl, by decide, am_q_X5_isEntry, am_tb5 (List.mem_of_getElem? (i := 215) rfl), ⟨am_tb5 (List.mem_of_getElem? (i := 213) rfl), rfl, am_tb0 (List.mem_of_getElem? (i := 51) rfl)⟩⟩
theorem am_vx_5_3 : am_vtok (am_cn 5) (47, 4, 69, 0) := ⟨am_m_X5_isMember, rfl, by decide, am_q_X5_isMember, am_tb5 (List.mem_of_getElem? (i := 219) rfl), ⟨am_tb5 (List.mem_of_getElem? (i := 217) rfl), rfl, am_tb0 (List.mem_of_getElem? (i := 52) rfl)⟩⟩
theorem am_vx_5_4 : am_vtok (am_cn 5) (50, 4, 4, 1) := ⟨am_m_X0_isNamed, rfl, by decide, am_q_X0_isNamed, am_tb5 (List.mem_of_getElem? (i := 122) rfl), ⟨am_tb5 (List.mem_of_getElem? (i := 224) rfl), am_tb5 (List.mem_of_getElem? (i := 225) rfl), am_tb5 (List.mem_of_getElem? (i := 226) rfl)⟩⟩
theorem am_vx_5_5 : am_vtok (am_cn 5) (53, 4, 70, 0) := ⟨am_m_X5_isLocal, rfl, by decide, am_q_X5_isLocal, am_tb5 (List.mem_of_getElem? (i := 229) rfl), ⟨am_tb5 (List.mem_of_getElem? (i := 227) rfl), rfl, am_tb0 (List.mem_of_getElem? (i := 53) rfl)⟩⟩
theorem am_vx_5_6 : am_vtok (am_cn 5) (59, 1, 28, 0) := ⟨am_m_X2_cutTo, rfl, by decide, am_q_X2_cutTo, am_tb2 (List.mem_of_getElem? (i := 161) rfl), ⟨am_tb5 (List.mem_of_getElem? (i := 222) rfl), rfl, am_tb2 (List.mem_of_getElem? (i := 162) rfl)⟩⟩
theorem am_vx_5_7 : am_vtok (am_cn 5) (69, 1, 30, 0) := ⟨am_m_X2_addRow, rfl, by decide, am_q_X2_addRow, am_tb3 (List.mem_of_getElem? (i := 61) rfl), ⟨am_tb5 (List.mem_of_getElem? (i := 24) rfl), rfl, am_tb3 (List.mem_of_getElem? (i := 62) rfl)⟩⟩
theorem am_vx_5_8 : am_vtok (am_cn 5) (76, 9, 107, 0) := ⟨am_m_X10_open, rfl, by decide, am_q_X10_open, am_tb2 (List.mem_of_getElem? (i := 222) rfl), ⟨am_tb6 (List.mem_of_getElem? (i := 0) rfl), rfl, am_tb2 (List.mem_of_getElem? (i := 223) rfl)⟩⟩
theorem am_vx_5_9 : am_vtok (am_cn 5) (82, 4, 72, 0) := ⟨am_m_X5_isBody, rfl, by decide, am_q_X5_isBody, am_tb6 (List.mem_of_getElem? (i := 3) rfl), ⟨am_tb6 (List.mem_of_getElem? (i := 1) rfl), rfl, am_tb0 (List.mem_of_getElem? (i := 55) rfl)⟩⟩
theorem am_vx_5_10 : am_vtok (am_cn 5) (89, 1, 24, 0) := ⟨am_m_X2_size, rfl, by decide, am_q_X2_size, am_tb2 (List.mem_of_getElem? (i := 126) rfl), ⟨am_tb5 (List.mem_of_getElem? (i := 2) rfl), rfl, am_tb2 (List.mem_of_getElem? (i := 127) rfl)⟩⟩
theorem am_vx_5_11 : am_vtok (am_cn 5) (93, 4, 5, 1) := ⟨am_m_X0_arrives, rfl, by decide, am_q_X0_arrives, am_tb5 (List.mem_of_getElem? (i := 129) rfl), ⟨am_tb6 (List.mem_of_getElem? (i := 5) rfl), am_tb6 (List.mem_of_getElem? (i := 6) rfl), am_tb6 (List.mem_of_getElem? (i := 7) rfl)⟩⟩
theorem am_vx_5_12 : am_vtok (am_cn 5) (104, 5, 82, 0) := ⟨am_m_X6_tell, rfl, by decide, am_q_X6_tell, am_tb2 (List.mem_of_getElem? (i := 232) rfl), ⟨am_tb5 (List.mem_of_getElem? (i := 204) rfl), rfl, am_tb2 (List.mem_of_getElem? (i := 233) rfl)⟩⟩
theorem am_vx_5_13 : am_vtok (am_cn 5) (114, 4, 2, 1) := ⟨am_m_X0_isMarked, rfl, by decide, am_q_X0_isMarked, am_tb5 (List.mem_of_getElem? (i := 99) rfl), ⟨am_tb5 (List.mem_of_getElem? (i := 205) rfl), am_tb5 (List.mem_of_getElem? (i := 206) rfl), am_tb5 (List.mem_of_getElem? (i := 207) rfl)⟩⟩
theorem am_vx_5_14 : am_vtok (am_cn 5) (118, 4, 67, 0) := ⟨am_m_X5_isZero, rfl, by decide, am_q_X5_isZero, am_tb5 (List.mem_of_getElem? (i := 210) rfl), ⟨am_tb5 (List.mem_of_getElem? (i := 208) rfl), rfl, am_tb0 (List.mem_of_getElem? (i := 50) rfl)⟩⟩
theorem am_vx_5_15 : am_vtok (am_cn 5) (131, 1, 26, 0) := ⟨am_m_X2_get, rfl, by decide, am_q_X2_get, am_tb2 (List.mem_of_getElem? (i := 143) rfl), ⟨am_tb5 (List.mem_of_getElem? (i := 221) rfl), rfl, am_tb2 (List.mem_of_getElem? (i := 144) rfl)⟩⟩
theorem am_vx_5_16 : am_vtok (am_cn 5) (148, 4, 71, 0) := ⟨am_m_X5_isSame, rfl, by decide, am_q_X5_isSame, am_tb5 (List.mem_of_getElem? (i := 234) rfl), ⟨am_tb5 (List.mem_of_getElem? (i := 232) rfl), rfl, am_tb0 (List.mem_of_getElem? (i := 54) rfl)⟩⟩
theorem am_vx_5_17 : am_vtok (am_cn 5) (161, 8, 93, 0) := ⟨am_m_X9_size, rfl, by decide, am_q_X9_size, am_tb4 (List.mem_of_getElem? (i := 21) rfl), ⟨am_tb5 (List.mem_of_getElem? (i := 0) rfl), rfl, am_tb4 (List.mem_of_getElem? (i := 22) rfl)⟩⟩
theorem am_vx_5_18 : am_vtok (am_cn 5) (164, 8, 95, 0) := ⟨am_m_X9_member, rfl, by decide, am_q_X9_member, am_tb2 (List.mem_of_getElem? (i := 134) rfl), ⟨am_tb5 (List.mem_of_getElem? (i := 1) rfl), rfl, am_tb2 (List.mem_of_getElem? (i := 135) rfl)⟩⟩
theorem am_vx_5_19 : am_vtok (am_cn 5) (171, 4, 74, 0) := ⟨am_m_X5_addLocal, rfl, by decide, am_q_X5_addLocal, am_tb5 (List.mem_of_getElem? (i := 5) rfl), ⟨am_tb5 (List.mem_of_getElem? (i := 3) rfl), rfl, am_tb0 (List.mem_of_getElem? (i := 30) rfl)⟩⟩
theorem am_vx_5_20 : am_vtok (am_cn 5) (175, 7, 85, 0) := ⟨am_m_X8_addPacked, rfl, by decide, am_q_X8_addPacked, am_tb2 (List.mem_of_getElem? (i := 165) rfl), ⟨am_tb5 (List.mem_of_getElem? (i := 23) rfl), rfl, am_tb2 (List.mem_of_getElem? (i := 166) rfl)⟩⟩
theorem am_vx_5_21 : am_vtok (am_cn 5) (181, 4, 76, 0) := ⟨am_m_X5_setSize, rfl, by decide, am_q_X5_setSize, am_tb5 (List.mem_of_getElem? (i := 27) rfl), ⟨am_tb5 (List.mem_of_getElem? (i := 25) rfl), rfl, am_tb0 (List.mem_of_getElem? (i := 31) rfl)⟩⟩
theorem am_vx_5_22 : am_vtok (am_cn 5) (185, 4, 77, 0) := ⟨am_m_X5_addEntries, rfl, by decide, am_q_X5_addEntries, am_tb5 (List.mem_of_getElem? (i := 32) rfl), ⟨am_tb5 (List.mem_of_getElem? (i := 30) rfl), rfl, am_tb0 (List.mem_of_getElem? (i := 32) rfl)⟩⟩
theorem am_vx_5_23 : am_vtok (am_cn 5) (189, 1, 32, 0) := ⟨am_m_X2_addMark, rfl, by decide, am_q_X2_addMark, am_tb4 (List.mem_of_getElem? (i := 185) rfl), ⟨am_tb5 (List.mem_of_getElem? (i := 9) rfl), rfl, am_tb4 (List.mem_of_getElem? (i := 186) rfl)⟩⟩
theorem am_vx_5_24 : am_vtok (am_cn 5) (193, 1, 35, 0) := ⟨am_m_X2_addLittle, rfl, by decide, am_q_X2_addLittle, am_tb5 (List.mem_of_getElem? (i := 12) rfl), ⟨am_tb5 (List.mem_of_getElem? (i := 11) rfl), rfl, am_tb5 (List.mem_of_getElem? (i := 13) rfl)⟩⟩
theorem am_vx_5_25 : am_vtok (am_cn 5) (203, 4, 6, 1) := ⟨am_m_X0_addTitle, rfl, by decide, am_q_X0_addTitle, am_tb4 (List.mem_of_getElem? (i := 112) rfl), ⟨am_tb5 (List.mem_of_getElem? (i := 20) rfl), am_tb5 (List.mem_of_getElem? (i := 21) rfl), am_tb5 (List.mem_of_getElem? (i := 22) rfl)⟩⟩
theorem am_vx_5_26 : am_vtok (am_cn 5) (211, 1, 27, 0) := ⟨am_m_X2_set, rfl, by decide, am_q_X2_set, am_tb4 (List.mem_of_getElem? (i := 198) rfl), ⟨am_tb5 (List.mem_of_getElem? (i := 29) rfl), rfl, am_tb4 (List.mem_of_getElem? (i := 199) rfl)⟩⟩
theorem am_vx_5_27 : am_vtok (am_cn 5) (214, 1, 33, 0) := ⟨am_m_X2_addZeros, rfl, by decide, am_q_X2_addZeros, am_tb4 (List.mem_of_getElem? (i := 118) rfl), ⟨am_tb5 (List.mem_of_getElem? (i := 36) rfl), rfl, am_tb4 (List.mem_of_getElem? (i := 119) rfl)⟩⟩
theorem am_vx_5 : ∀ e ∈ [(23, 4, 66, 0), (34, 1, 36, 0), (43, 4, 68, 0), (47, 4, 69, 0), (50, 4, 4, 1), (53, 4, 70, 0), (59, 1, 28, 0), (69, 1, 30, 0), (76, 9, 107, 0), (82, 4, 72, 0), (89, 1, 24, 0), (93, 4, 5, 1), (104, 5, 82, 0), (114, 4, 2, 1), (118, 4, 67, 0), (131, 1, 26, 0), (148, 4, 71, 0), (161, 8, 93, 0), (164, 8, 95, 0), (171, 4, 74, 0), (175, 7, 85, 0), (181, 4, 76, 0), (185, 4, 77, 0), (189, 1, 32, 0), (193, 1, 35, 0), (203, 4, 6, 1), (211, 1, 27, 0), (214, 1, 33, 0)], am_vtok (am_cn 5) e := List.forall_mem_cons.mpr ⟨am_vx_5_0, List.forall_mem_cons.mpr ⟨am_vx_5_1, List.forall_mem_cons.mpr ⟨am_vx_5_2, List.forall_mem_cons.mpr ⟨am_vx_5_3, List.forall_mem_cons.mpr ⟨am_vx_5_4, List.forall_mem_cons.mpr ⟨am_vx_5_5, List.forall_mem_cons.mpr ⟨am_vx_5_6, List.forall_mem_cons.mpr ⟨am_vx_5_7, List.forall_mem_cons.mpr ⟨am_vx_5_8, List.forall_mem_cons.mpr ⟨am_vx_5_9, List.forall_mem_cons.mpr ⟨am_vx_5_10, List.forall_mem_cons.mpr ⟨am_vx_5_11, List.forall_mem_cons.mpr ⟨am_vx_5_12, List.forall_mem_cons.mpr ⟨am_vx_5_13, List.forall_mem_cons.mpr ⟨am_vx_5_14, List.forall_mem_cons.mpr ⟨am_vx_5_15, List.forall_mem_cons.mpr ⟨am_vx_5_16, List.forall_mem_cons.mpr ⟨am_vx_5_17, List.forall_mem_cons.mpr ⟨am_vx_5_18, List.forall_mem_cons.mpr ⟨am_vx_5_19, List.forall_mem_cons.mpr ⟨am_vx_5_20, List.forall_mem_cons.mpr ⟨am_vx_5_21, List.forall_mem_cons.mpr ⟨am_vx_5_22, List.forall_mem_cons.mpr ⟨am_vx_5_23, List.forall_mem_cons.mpr ⟨am_vx_5_24, List.forall_mem_cons.mpr ⟨am_vx_5_25, List.forall_mem_cons.mpr ⟨am_vx_5_26, List.forall_mem_cons.mpr ⟨am_vx_5_27, fun _ h => absurd h List.not_mem_nil⟩⟩⟩⟩⟩⟩⟩⟩⟩⟩⟩⟩⟩⟩⟩⟩⟩⟩⟩⟩⟩⟩⟩⟩⟩⟩⟩⟩
theorem am_vx_8_0 : am_vtok (am_cn 8) (20, 7, 91, 0) := ⟨am_m_X8_addBits, rfl, by decide, am_q_X8_addBits, am_tb2 (List.mem_of_getElem? (i := 170) rfl), ⟨am_tb2 (List.mem_of_getElem? (i := 168) rfl), rfl, am_tb0 (List.mem_of_getElem? (i := 4) rfl)⟩⟩
theorem am_vx_8_1 : am_vtok (am_cn 8) (24, 1, 24, 0) := ⟨am_m_X2_size, rfl, by decide, am_q_X2_size, am_tb2 (List.mem_of_getElem? (i := 126) rfl), ⟨am_tb2 (List.mem_of_getElem? (i := 176) rfl), rfl, am_tb2 (List.mem_of_getElem? (i := 127) rfl)⟩⟩
theorem am_vx_8_2 : am_vtok (am_cn 8) (30, 7, 86, 0) := ⟨am_m_X8_longestBefore, rfl, by decide, am_q_X8_longestBefore, am_tb2 (List.mem_of_getElem? (i := 179) rfl), ⟨am_tb2 (List.mem_of_getElem? (i := 177) rfl), rfl, am_tb0 (List.mem_of_getElem? (i := 5) rfl)⟩⟩
theorem am_vx_8_3 : am_vtok (am_cn 8) (34, 7, 87, 0) := ⟨am_m_X8_lengthStep, rfl, by decide, am_q_X8_lengthStep, am_tb2 (List.mem_of_getElem? (i := 185) rfl), ⟨am_tb2 (List.mem_of_getElem? (i := 183) rfl), rfl, am_tb0 (List.mem_of_getElem? (i := 6) rfl)⟩⟩
theorem am_vx_8_4 : am_vtok (am_cn 8) (38, 7, 89, 0) := ⟨am_m_X8_addSymbol, rfl, by decide, am_q_X8_addSymbol, am_tb2 (List.mem_of_getElem? (i := 195) rfl), ⟨am_tb2 (List.mem_of_getElem? (i := 193) rfl), rfl, am_tb0 (List.mem_of_getElem? (i := 7) rfl)⟩⟩
theorem am_vx_8_5 : am_vtok (am_cn 8) (50, 7, 88, 0) := ⟨am_m_X8_distanceSymbol, rfl, by decide, am_q_X8_distanceSymbol, am_tb2 (List.mem_of_getElem? (i := 204) rfl), ⟨am_tb2 (List.mem_of_getElem? (i := 202) rfl), rfl, am_tb0 (List.mem_of_getElem? (i := 9) rfl)⟩⟩
theorem am_vx_8_6 : am_vtok (am_cn 8) (53, 7, 90, 0) := ⟨am_m_X8_addCode, rfl, by decide, am_q_X8_addCode, am_tb2 (List.mem_of_getElem? (i := 199) rfl), ⟨am_tb2 (List.mem_of_getElem? (i := 197) rfl), rfl, am_tb0 (List.mem_of_getElem? (i := 8) rfl)⟩⟩
theorem am_vx_8_7 : am_vtok (am_cn 8) (65, 1, 26, 0) := ⟨am_m_X2_get, rfl, by decide, am_q_X2_get, am_tb2 (List.mem_of_getElem? (i := 143) rfl), ⟨am_tb2 (List.mem_of_getElem? (i := 182) rfl), rfl, am_tb2 (List.mem_of_getElem? (i := 144) rfl)⟩⟩
theorem am_vx_8_8 : am_vtok (am_cn 8) (68, 1, 29, 0) := ⟨am_m_X2_add, rfl, by decide, am_q_X2_add, am_tb2 (List.mem_of_getElem? (i := 173) rfl), ⟨am_tb2 (List.mem_of_getElem? (i := 172) rfl), rfl, am_tb2 (List.mem_of_getElem? (i := 174) rfl)⟩⟩
theorem am_vx_8 : ∀ e ∈ [(20, 7, 91, 0), (24, 1, 24, 0), (30, 7, 86, 0), (34, 7, 87, 0), (38, 7, 89, 0), (50, 7, 88, 0), (53, 7, 90, 0), (65, 1, 26, 0), (68, 1, 29, 0)], am_vtok (am_cn 8) e := List.forall_mem_cons.mpr ⟨am_vx_8_0, List.forall_mem_cons.mpr ⟨am_vx_8_1, List.forall_mem_cons.mpr ⟨am_vx_8_2, List.forall_mem_cons.mpr ⟨am_vx_8_3, List.forall_mem_cons.mpr ⟨am_vx_8_4, List.forall_mem_cons.mpr ⟨am_vx_8_5, List.forall_mem_cons.mpr ⟨am_vx_8_6, List.forall_mem_cons.mpr ⟨am_vx_8_7, List.forall_mem_cons.mpr ⟨am_vx_8_8, fun _ h => absurd h List.not_mem_nil⟩⟩⟩⟩⟩⟩⟩⟩⟩
theorem am_vx_9_0 : am_vtok (am_cn 9) (22, 8, 95, 0) := ⟨am_m_X9_member, rfl, by decide, am_q_X9_member, am_tb2 (List.mem_of_getElem? (i := 134) rfl), ⟨am_tb2 (List.mem_of_getElem? (i := 133) rfl), rfl, am_tb2 (List.mem_of_getElem? (i := 135) rfl)⟩⟩
theorem am_vx_9_1 : am_vtok (am_cn 9) (30, 1, 24, 0) := ⟨am_m_X2_size, rfl, by decide, am_q_X2_size, am_tb2 (List.mem_of_getElem? (i := 126) rfl), ⟨am_tb2 (List.mem_of_getElem? (i := 137) rfl), rfl, am_tb2 (List.mem_of_getElem? (i := 127) rfl)⟩⟩
theorem am_vx_9_2 : am_vtok (am_cn 9) (35, 1, 37, 0) := ⟨am_m_X2_beginsWith, rfl, by decide, am_q_X2_beginsWith, am_tb2 (List.mem_of_getElem? (i := 139) rfl), ⟨am_tb2 (List.mem_of_getElem? (i := 138) rfl), rfl, am_tb2 (List.mem_of_getElem? (i := 140) rfl)⟩⟩
theorem am_vx_9_3 : am_vtok (am_cn 9) (39, 1, 39, 0) := ⟨am_m_X2_liesUnder, rfl, by decide, am_q_X2_liesUnder, am_tb2 (List.mem_of_getElem? (i := 152) rfl), ⟨am_tb2 (List.mem_of_getElem? (i := 151) rfl), rfl, am_tb2 (List.mem_of_getElem? (i := 153) rfl)⟩⟩
theorem am_vx_9_4 : am_vtok (am_cn 9) (46, 8, 96, 0) := ⟨am_m_X9_find, rfl, by decide, am_q_X9_find, am_tb2 (List.mem_of_getElem? (i := 130) rfl), ⟨am_tb4 (List.mem_of_getElem? (i := 8) rfl), rfl, am_tb2 (List.mem_of_getElem? (i := 131) rfl)⟩⟩
theorem am_vx_9_5 : am_vtok (am_cn 9) (50, 8, 100, 0) := ⟨am_m_X9_drop, rfl, by decide, am_q_X9_drop, am_tb4 (List.mem_of_getElem? (i := 15) rfl), ⟨am_tb4 (List.mem_of_getElem? (i := 14) rfl), rfl, am_tb4 (List.mem_of_getElem? (i := 16) rfl)⟩⟩
theorem am_vx_9_6 : am_vtok (am_cn 9) (54, 1, 28, 0) := ⟨am_m_X2_cutTo, rfl, by decide, am_q_X2_cutTo, am_tb2 (List.mem_of_getElem? (i := 161) rfl), ⟨am_tb4 (List.mem_of_getElem? (i := 18) rfl), rfl, am_tb2 (List.mem_of_getElem? (i := 162) rfl)⟩⟩
theorem am_vx_9_7 : am_vtok (am_cn 9) (57, 1, 30, 0) := ⟨am_m_X2_addRow, rfl, by decide, am_q_X2_addRow, am_tb3 (List.mem_of_getElem? (i := 61) rfl), ⟨am_tb4 (List.mem_of_getElem? (i := 19) rfl), rfl, am_tb3 (List.mem_of_getElem? (i := 62) rfl)⟩⟩
theorem am_vx_9_8 : am_vtok (am_cn 9) (64, 8, 104, 0) := ⟨am_m_X9_isFirstOfChild, rfl, by decide, am_q_X9_isFirstOfChild, am_tb4 (List.mem_of_getElem? (i := 63) rfl), ⟨am_tb4 (List.mem_of_getElem? (i := 61) rfl), rfl, am_tb0 (List.mem_of_getElem? (i := 21) rfl)⟩⟩
theorem am_vx_9_9 : am_vtok (am_cn 9) (79, 1, 26, 0) := ⟨am_m_X2_get, rfl, by decide, am_q_X2_get, am_tb2 (List.mem_of_getElem? (i := 143) rfl), ⟨am_tb4 (List.mem_of_getElem? (i := 74) rfl), rfl, am_tb2 (List.mem_of_getElem? (i := 144) rfl)⟩⟩
theorem am_vx_9 : ∀ e ∈ [(22, 8, 95, 0), (30, 1, 24, 0), (35, 1, 37, 0), (39, 1, 39, 0), (46, 8, 96, 0), (50, 8, 100, 0), (54, 1, 28, 0), (57, 1, 30, 0), (64, 8, 104, 0), (79, 1, 26, 0)], am_vtok (am_cn 9) e := List.forall_mem_cons.mpr ⟨am_vx_9_0, List.forall_mem_cons.mpr ⟨am_vx_9_1, List.forall_mem_cons.mpr ⟨am_vx_9_2, List.forall_mem_cons.mpr ⟨am_vx_9_3, List.forall_mem_cons.mpr ⟨am_vx_9_4, List.forall_mem_cons.mpr ⟨am_vx_9_5, List.forall_mem_cons.mpr ⟨am_vx_9_6, List.forall_mem_cons.mpr ⟨am_vx_9_7, List.forall_mem_cons.mpr ⟨am_vx_9_8, List.forall_mem_cons.mpr ⟨am_vx_9_9, fun _ h => absurd h List.not_mem_nil⟩⟩⟩⟩⟩⟩⟩⟩⟩⟩
theorem am_vx_10_0 : am_vtok (am_cn 10) (50, 9, 111, 0) := ⟨am_m_X10_orderFixed, rfl, by decide, am_q_X10_orderFixed, am_tb1 (List.mem_of_getElem? (i := 112) rfl), ⟨am_tb1 (List.mem_of_getElem? (i := 110) rfl), rfl, am_tb0 (List.mem_of_getElem? (i := 0) rfl)⟩⟩
theorem am_vx_10_1 : am_vtok (am_cn 10) (63, 1, 28, 0) := ⟨am_m_X2_cutTo, rfl, by decide, am_q_X2_cutTo, am_tb2 (List.mem_of_getElem? (i := 161) rfl), ⟨am_tb2 (List.mem_of_getElem? (i := 225) rfl), rfl, am_tb2 (List.mem_of_getElem? (i := 162) rfl)⟩⟩
theorem am_vx_10_2 : am_vtok (am_cn 10) (72, 9, 108, 0) := ⟨am_m_X10_takeBits, rfl, by decide, am_q_X10_takeBits, am_tb2 (List.mem_of_getElem? (i := 229) rfl), ⟨am_tb2 (List.mem_of_getElem? (i := 227) rfl), rfl, am_tb0 (List.mem_of_getElem? (i := 10) rfl)⟩⟩
theorem am_vx_10_3 : am_vtok (am_cn 10) (76, 5, 82, 0) := ⟨am_m_X6_tell, rfl, by decide, am_q_X6_tell, am_tb2 (List.mem_of_getElem? (i := 232) rfl), ⟨am_tb2 (List.mem_of_getElem? (i := 231) rfl), rfl, am_tb2 (List.mem_of_getElem? (i := 233) rfl)⟩⟩
theorem am_vx_10_4 : am_vtok (am_cn 10) (82, 9, 110, 0) := ⟨am_m_X10_isStored, rfl, by decide, am_q_X10_isStored, am_tb2 (List.mem_of_getElem? (i := 238) rfl), ⟨am_tb2 (List.mem_of_getElem? (i := 236) rfl), rfl, am_tb0 (List.mem_of_getElem? (i := 11) rfl)⟩⟩
theorem am_vx_10_5 : am_vtok (am_cn 10) (86, 9, 118, 0) := ⟨am_m_X10_areSymbols, rfl, by decide, am_q_X10_areSymbols, am_tb3 (List.mem_of_getElem? (i := 5) rfl), ⟨am_tb3 (List.mem_of_getElem? (i := 3) rfl), rfl, am_tb0 (List.mem_of_getElem? (i := 12) rfl)⟩⟩
theorem am_vx_10_6 : am_vtok (am_cn 10) (90, 9, 113, 0) := ⟨am_m_X10_areLengthCodes, rfl, by decide, am_q_X10_areLengthCodes, am_tb3 (List.mem_of_getElem? (i := 33) rfl), ⟨am_tb3 (List.mem_of_getElem? (i := 31) rfl), rfl, am_tb0 (List.mem_of_getElem? (i := 15) rfl)⟩⟩
theorem am_vx_10_7 : am_vtok (am_cn 10) (93, 9, 114, 0) := ⟨am_m_X10_areLengths, rfl, by decide, am_q_X10_areLengths, am_tb3 (List.mem_of_getElem? (i := 42) rfl), ⟨am_tb3 (List.mem_of_getElem? (i := 40) rfl), rfl, am_tb0 (List.mem_of_getElem? (i := 16) rfl)⟩⟩
theorem am_vx_10_8 : am_vtok (am_cn 10) (96, 1, 26, 0) := ⟨am_m_X2_get, rfl, by decide, am_q_X2_get, am_tb2 (List.mem_of_getElem? (i := 143) rfl), ⟨am_tb2 (List.mem_of_getElem? (i := 235) rfl), rfl, am_tb2 (List.mem_of_getElem? (i := 144) rfl)⟩⟩
theorem am_vx_10_9 : am_vtok (am_cn 10) (99, 2, 42, 0) := ⟨am_m_X3_amount, rfl, by decide, am_q_X3_amount, am_tb3 (List.mem_of_getElem? (i := 12) rfl), ⟨am_tb3 (List.mem_of_getElem? (i := 11) rfl), rfl, am_tb3 (List.mem_of_getElem? (i := 13) rfl)⟩⟩
theorem am_vx_10_10 : am_vtok (am_cn 10) (102, 2, 43, 0) := ⟨am_m_X3_symbol, rfl, by decide, am_q_X3_symbol, am_tb3 (List.mem_of_getElem? (i := 16) rfl), ⟨am_tb3 (List.mem_of_getElem? (i := 15) rfl), rfl, am_tb3 (List.mem_of_getElem? (i := 17) rfl)⟩⟩
theorem am_vx_10_11 : am_vtok (am_cn 10) (105, 2, 41, 0) := ⟨am_m_X3_longest, rfl, by decide, am_q_X3_longest, am_tb3 (List.mem_of_getElem? (i := 20) rfl), ⟨am_tb3 (List.mem_of_getElem? (i := 19) rfl), rfl, am_tb3 (List.mem_of_getElem? (i := 21) rfl)⟩⟩
theorem am_vx_10_12 : am_vtok (am_cn 10) (110, 1, 24, 0) := ⟨am_m_X2_size, rfl, by decide, am_q_X2_size, am_tb2 (List.mem_of_getElem? (i := 126) rfl), ⟨am_tb3 (List.mem_of_getElem? (i := 1) rfl), rfl, am_tb2 (List.mem_of_getElem? (i := 127) rfl)⟩⟩
theorem am_vx_10_13 : am_vtok (am_cn 10) (113, 1, 29, 0) := ⟨am_m_X2_add, rfl, by decide, am_q_X2_add, am_tb2 (List.mem_of_getElem? (i := 173) rfl), ⟨am_tb3 (List.mem_of_getElem? (i := 2) rfl), rfl, am_tb2 (List.mem_of_getElem? (i := 174) rfl)⟩⟩
theorem am_vx_10_14 : am_vtok (am_cn 10) (116, 9, 112, 0) := ⟨am_m_X10_fillLengths, rfl, by decide, am_q_X10_fillLengths, am_tb1 (List.mem_of_getElem? (i := 116) rfl), ⟨am_tb1 (List.mem_of_getElem? (i := 114) rfl), rfl, am_tb0 (List.mem_of_getElem? (i := 1) rfl)⟩⟩
theorem am_vx_10_15 : am_vtok (am_cn 10) (120, 2, 44, 0) := ⟨am_m_X3_order, rfl, by decide, am_q_X3_order, am_tb1 (List.mem_of_getElem? (i := 119) rfl), ⟨am_tb1 (List.mem_of_getElem? (i := 118) rfl), rfl, am_tb1 (List.mem_of_getElem? (i := 120) rfl)⟩⟩
theorem am_vx_10_16 : am_vtok (am_cn 10) (130, 2, 47, 0) := ⟨am_m_X3_areComplete, rfl, by decide, am_q_X3_areComplete, am_tb3 (List.mem_of_getElem? (i := 36) rfl), ⟨am_tb3 (List.mem_of_getElem? (i := 35) rfl), rfl, am_tb3 (List.mem_of_getElem? (i := 37) rfl)⟩⟩
theorem am_vx_10_17 : am_vtok (am_cn 10) (136, 9, 109, 0) := ⟨am_m_X10_takeSymbol, rfl, by decide, am_q_X10_takeSymbol, am_tb3 (List.mem_of_getElem? (i := 9) rfl), ⟨am_tb3 (List.mem_of_getElem? (i := 7) rfl), rfl, am_tb0 (List.mem_of_getElem? (i := 13) rfl)⟩⟩
theorem am_vx_10_18 : am_vtok (am_cn 10) (140, 9, 115, 0) := ⟨am_m_X10_isRepeated, rfl, by decide, am_q_X10_isRepeated, am_tb3 (List.mem_of_getElem? (i := 46) rfl), ⟨am_tb3 (List.mem_of_getElem? (i := 44) rfl), rfl, am_tb0 (List.mem_of_getElem? (i := 17) rfl)⟩⟩
theorem am_vx_10_19 : am_vtok (am_cn 10) (144, 9, 117, 0) := ⟨am_m_X10_areSymbolLengths, rfl, by decide, am_q_X10_areSymbolLengths, am_tb3 (List.mem_of_getElem? (i := 54) rfl), ⟨am_tb3 (List.mem_of_getElem? (i := 52) rfl), rfl, am_tb0 (List.mem_of_getElem? (i := 19) rfl)⟩⟩
theorem am_vx_10_20 : am_vtok (am_cn 10) (147, 2, 48, 0) := ⟨am_m_X3_areNoneOrOneBit, rfl, by decide, am_q_X3_areNoneOrOneBit, am_tb3 (List.mem_of_getElem? (i := 57) rfl), ⟨am_tb3 (List.mem_of_getElem? (i := 56) rfl), rfl, am_tb3 (List.mem_of_getElem? (i := 58) rfl)⟩⟩
theorem am_vx_10_21 : am_vtok (am_cn 10) (150, 9, 116, 0) := ⟨am_m_X10_lengthAt, rfl, by decide, am_q_X10_lengthAt, am_tb3 (List.mem_of_getElem? (i := 50) rfl), ⟨am_tb3 (List.mem_of_getElem? (i := 48) rfl), rfl, am_tb0 (List.mem_of_getElem? (i := 18) rfl)⟩⟩
theorem am_vx_10_22 : am_vtok (am_cn 10) (153, 9, 119, 0) := ⟨am_m_X10_isCopied, rfl, by decide, am_q_X10_isCopied, am_tb3 (List.mem_of_getElem? (i := 25) rfl), ⟨am_tb3 (List.mem_of_getElem? (i := 23) rfl), rfl, am_tb0 (List.mem_of_getElem? (i := 14) rfl)⟩⟩
theorem am_vx_10 : ∀ e ∈ [(50, 9, 111, 0), (63, 1, 28, 0), (72, 9, 108, 0), (76, 5, 82, 0), (82, 9, 110, 0), (86, 9, 118, 0), (90, 9, 113, 0), (93, 9, 114, 0), (96, 1, 26, 0), (99, 2, 42, 0), (102, 2, 43, 0), (105, 2, 41, 0), (110, 1, 24, 0), (113, 1, 29, 0), (116, 9, 112, 0), (120, 2, 44, 0), (130, 2, 47, 0), (136, 9, 109, 0), (140, 9, 115, 0), (144, 9, 117, 0), (147, 2, 48, 0), (150, 9, 116, 0), (153, 9, 119, 0)], am_vtok (am_cn 10) e := List.forall_mem_cons.mpr ⟨am_vx_10_0, List.forall_mem_cons.mpr ⟨am_vx_10_1, List.forall_mem_cons.mpr ⟨am_vx_10_2, List.forall_mem_cons.mpr ⟨am_vx_10_3, List.forall_mem_cons.mpr ⟨am_vx_10_4, List.forall_mem_cons.mpr ⟨am_vx_10_5, List.forall_mem_cons.mpr ⟨am_vx_10_6, List.forall_mem_cons.mpr ⟨am_vx_10_7, List.forall_mem_cons.mpr ⟨am_vx_10_8, List.forall_mem_cons.mpr ⟨am_vx_10_9, List.forall_mem_cons.mpr ⟨am_vx_10_10, List.forall_mem_cons.mpr ⟨am_vx_10_11, List.forall_mem_cons.mpr ⟨am_vx_10_12, List.forall_mem_cons.mpr ⟨am_vx_10_13, List.forall_mem_cons.mpr ⟨am_vx_10_14, List.forall_mem_cons.mpr ⟨am_vx_10_15, List.forall_mem_cons.mpr ⟨am_vx_10_16, List.forall_mem_cons.mpr ⟨am_vx_10_17, List.forall_mem_cons.mpr ⟨am_vx_10_18, List.forall_mem_cons.mpr ⟨am_vx_10_19, List.forall_mem_cons.mpr ⟨am_vx_10_20, List.forall_mem_cons.mpr ⟨am_vx_10_21, List.forall_mem_cons.mpr ⟨am_vx_10_22, fun _ h => absurd h List.not_mem_nil⟩⟩⟩⟩⟩⟩⟩⟩⟩⟩⟩⟩⟩⟩⟩⟩⟩⟩⟩⟩⟩⟩⟩
theorem am_vx_11_0 : am_vtok (am_cn 11) (86, 1, 24, 0) := ⟨am_m_X2_size, rfl, by decide, am_q_X2_size, am_tb2 (List.mem_of_getElem? (i := 126) rfl), ⟨am_tb2 (List.mem_of_getElem? (i := 125) rfl), rfl, am_tb2 (List.mem_of_getElem? (i := 127) rfl)⟩⟩
theorem am_vx_11_1 : am_vtok (am_cn 11) (95, 1, 34, 0) := ⟨am_m_X2_addBig, rfl, by decide, am_q_X2_addBig, am_tb3 (List.mem_of_getElem? (i := 169) rfl), ⟨am_tb3 (List.mem_of_getElem? (i := 168) rfl), rfl, am_tb3 (List.mem_of_getElem? (i := 170) rfl)⟩⟩
theorem am_vx_11_2 : am_vtok (am_cn 11) (101, 1, 28, 0) := ⟨am_m_X2_cutTo, rfl, by decide, am_q_X2_cutTo, am_tb2 (List.mem_of_getElem? (i := 161) rfl), ⟨am_tb2 (List.mem_of_getElem? (i := 160) rfl), rfl, am_tb2 (List.mem_of_getElem? (i := 162) rfl)⟩⟩
theorem am_vx_11_3 : am_vtok (am_cn 11) (104, 1, 25, 0) := ⟨am_m_X2_has, rfl, by decide, am_q_X2_has, am_tb3 (List.mem_of_getElem? (i := 189) rfl), ⟨am_tb3 (List.mem_of_getElem? (i := 188) rfl), rfl, am_tb3 (List.mem_of_getElem? (i := 190) rfl)⟩⟩
theorem am_vx_11_4 : am_vtok (am_cn 11) (113, 1, 26, 0) := ⟨am_m_X2_get, rfl, by decide, am_q_X2_get, am_tb2 (List.mem_of_getElem? (i := 143) rfl), ⟨am_tb3 (List.mem_of_getElem? (i := 72) rfl), rfl, am_tb2 (List.mem_of_getElem? (i := 144) rfl)⟩⟩
theorem am_vx_11_5 : am_vtok (am_cn 11) (117, 1, 30, 0) := ⟨am_m_X2_addRow, rfl, by decide, am_q_X2_addRow, am_tb3 (List.mem_of_getElem? (i := 61) rfl), ⟨am_tb3 (List.mem_of_getElem? (i := 60) rfl), rfl, am_tb3 (List.mem_of_getElem? (i := 62) rfl)⟩⟩
theorem am_vx_11_6 : am_vtok (am_cn 11) (129, 8, 98, 0) := ⟨am_m_X9_isInTheWay, rfl, by decide, am_q_X9_isInTheWay, am_tb3 (List.mem_of_getElem? (i := 225) rfl), ⟨am_tb3 (List.mem_of_getElem? (i := 224) rfl), rfl, am_tb3 (List.mem_of_getElem? (i := 226) rfl)⟩⟩
theorem am_vx_11_7 : am_vtok (am_cn 11) (138, 8, 99, 0) := ⟨am_m_X9_hasRoomFor, rfl, by decide, am_q_X9_hasRoomFor, am_tb4 (List.mem_of_getElem? (i := 5) rfl), ⟨am_tb4 (List.mem_of_getElem? (i := 4) rfl), rfl, am_tb4 (List.mem_of_getElem? (i := 6) rfl)⟩⟩
theorem am_vx_11_8 : am_vtok (am_cn 11) (143, 8, 101, 0) := ⟨am_m_X9_take, rfl, by decide, am_q_X9_take, am_tb4 (List.mem_of_getElem? (i := 11) rfl), ⟨am_tb4 (List.mem_of_getElem? (i := 10) rfl), rfl, am_tb4 (List.mem_of_getElem? (i := 12) rfl)⟩⟩
theorem am_vx_11_9 : am_vtok (am_cn 11) (147, 8, 93, 0) := ⟨am_m_X9_size, rfl, by decide, am_q_X9_size, am_tb4 (List.mem_of_getElem? (i := 21) rfl), ⟨am_tb4 (List.mem_of_getElem? (i := 20) rfl), rfl, am_tb4 (List.mem_of_getElem? (i := 22) rfl)⟩⟩
theorem am_vx_11_10 : am_vtok (am_cn 11) (148, 8, 95, 0) := ⟨am_m_X9_member, rfl, by decide, am_q_X9_member, am_tb2 (List.mem_of_getElem? (i := 134) rfl), ⟨am_tb2 (List.mem_of_getElem? (i := 146) rfl), rfl, am_tb2 (List.mem_of_getElem? (i := 135) rfl)⟩⟩
theorem am_vx_11_11 : am_vtok (am_cn 11) (154, 8, 100, 0) := ⟨am_m_X9_drop, rfl, by decide, am_q_X9_drop, am_tb4 (List.mem_of_getElem? (i := 15) rfl), ⟨am_tb4 (List.mem_of_getElem? (i := 32) rfl), rfl, am_tb4 (List.mem_of_getElem? (i := 16) rfl)⟩⟩
theorem am_vx_11_12 : am_vtok (am_cn 11) (171, 8, 96, 0) := ⟨am_m_X9_find, rfl, by decide, am_q_X9_find, am_tb2 (List.mem_of_getElem? (i := 130) rfl), ⟨am_tb2 (List.mem_of_getElem? (i := 129) rfl), rfl, am_tb2 (List.mem_of_getElem? (i := 131) rfl)⟩⟩
theorem am_vx_11_13 : am_vtok (am_cn 11) (175, 8, 97, 0) := ⟨am_m_X9_hasUnder, rfl, by decide, am_q_X9_hasUnder, am_tb2 (List.mem_of_getElem? (i := 148) rfl), ⟨am_tb2 (List.mem_of_getElem? (i := 147) rfl), rfl, am_tb2 (List.mem_of_getElem? (i := 149) rfl)⟩⟩
theorem am_vx_11_14 : am_vtok (am_cn 11) (180, 8, 102, 0) := ⟨am_m_X9_children, rfl, by decide, am_q_X9_children, am_tb4 (List.mem_of_getElem? (i := 58) rfl), ⟨am_tb4 (List.mem_of_getElem? (i := 57) rfl), rfl, am_tb4 (List.mem_of_getElem? (i := 59) rfl)⟩⟩
theorem am_vx_11_15 : am_vtok (am_cn 11) (183, 8, 103, 0) := ⟨am_m_X9_firstOfChild, rfl, by decide, am_q_X9_firstOfChild, am_tb4 (List.mem_of_getElem? (i := 76) rfl), ⟨am_tb4 (List.mem_of_getElem? (i := 75) rfl), rfl, am_tb4 (List.mem_of_getElem? (i := 77) rfl)⟩⟩
theorem am_vx_11_16 : am_vtok (am_cn 11) (197, 10, 141, 0) := ⟨am_m_X11_archiveOf, rfl, by decide, am_q_X11_archiveOf, am_tb4 (List.mem_of_getElem? (i := 92) rfl), ⟨am_tb4 (List.mem_of_getElem? (i := 90) rfl), rfl, am_tb0 (List.mem_of_getElem? (i := 22) rfl)⟩⟩
theorem am_vx_11_17 : am_vtok (am_cn 11) (203, 0, 19, 3) := ⟨am_m_X1_layOut, rfl, by decide, am_q_X1_layOut, am_tb4 (List.mem_of_getElem? (i := 99) rfl), ⟨am_tb4 (List.mem_of_getElem? (i := 95) rfl), am_tb4 (List.mem_of_getElem? (i := 97) rfl), am_tb4 (List.mem_of_getElem? (i := 98) rfl), am_tb4 (List.mem_of_getElem? (i := 96) rfl)⟩⟩
theorem am_vx_11_18 : am_vtok (am_cn 11) (203, 3, 60, 3) := ⟨am_m_X4_layOut, rfl, by decide, am_q_X4_layOut, am_tb4 (List.mem_of_getElem? (i := 206) rfl), ⟨am_tb4 (List.mem_of_getElem? (i := 95) rfl), am_tb4 (List.mem_of_getElem? (i := 97) rfl), am_tb4 (List.mem_of_getElem? (i := 205) rfl), am_tb4 (List.mem_of_getElem? (i := 96) rfl)⟩⟩
theorem am_vx_11_19 : am_vtok (am_cn 11) (203, 4, 73, 3) := ⟨am_m_X5_layOut, rfl, by decide, am_q_X5_layOut, am_tb4 (List.mem_of_getElem? (i := 238) rfl), ⟨am_tb4 (List.mem_of_getElem? (i := 95) rfl), am_tb4 (List.mem_of_getElem? (i := 97) rfl), am_tb4 (List.mem_of_getElem? (i := 237) rfl), am_tb4 (List.mem_of_getElem? (i := 96) rfl)⟩⟩
theorem am_vx_11_20 : am_vtok (am_cn 11) (207, 5, 81, 0) := ⟨am_m_X6_clear, rfl, by decide, am_q_X6_clear, am_tb2 (List.mem_of_getElem? (i := 218) rfl), ⟨am_tb2 (List.mem_of_getElem? (i := 217) rfl), rfl, am_tb2 (List.mem_of_getElem? (i := 219) rfl)⟩⟩
theorem am_vx_11_21 : am_vtok (am_cn 11) (210, 8, 94, 0) := ⟨am_m_X9_clear, rfl, by decide, am_q_X9_clear, am_tb5 (List.mem_of_getElem? (i := 51) rfl), ⟨am_tb5 (List.mem_of_getElem? (i := 50) rfl), rfl, am_tb5 (List.mem_of_getElem? (i := 52) rfl)⟩⟩
theorem am_vx_11_22 : am_vtok (am_cn 11) (211, 0, 8, 3) := ⟨am_m_X1_takeIn, rfl, by decide, am_q_X1_takeIn, am_tb5 (List.mem_of_getElem? (i := 58) rfl), ⟨am_tb5 (List.mem_of_getElem? (i := 54) rfl), am_tb5 (List.mem_of_getElem? (i := 56) rfl), am_tb5 (List.mem_of_getElem? (i := 57) rfl), am_tb5 (List.mem_of_getElem? (i := 55) rfl)⟩⟩
theorem am_vx_11_23 : am_vtok (am_cn 11) (211, 3, 50, 3) := ⟨am_m_X4_takeIn, rfl, by decide, am_q_X4_takeIn, am_tb5 (List.mem_of_getElem? (i := 135) rfl), ⟨am_tb5 (List.mem_of_getElem? (i := 54) rfl), am_tb5 (List.mem_of_getElem? (i := 56) rfl), am_tb5 (List.mem_of_getElem? (i := 134) rfl), am_tb5 (List.mem_of_getElem? (i := 55) rfl)⟩⟩
theorem am_vx_11_24 : am_vtok (am_cn 11) (211, 4, 65, 3) := ⟨am_m_X5_takeIn, rfl, by decide, am_q_X5_takeIn, am_tb5 (List.mem_of_getElem? (i := 198) rfl), ⟨am_tb5 (List.mem_of_getElem? (i := 54) rfl), am_tb5 (List.mem_of_getElem? (i := 56) rfl), am_tb5 (List.mem_of_getElem? (i := 197) rfl), am_tb5 (List.mem_of_getElem? (i := 55) rfl)⟩⟩
theorem am_vx_11_25 : am_vtok (am_cn 11) (215, 5, 79, 0) := ⟨am_m_X6_number, rfl, by decide, am_q_X6_number, am_tb6 (List.mem_of_getElem? (i := 16) rfl), ⟨am_tb6 (List.mem_of_getElem? (i := 15) rfl), rfl, am_tb6 (List.mem_of_getElem? (i := 17) rfl)⟩⟩
theorem am_vx_11_26 : am_vtok (am_cn 11) (218, 5, 80, 0) := ⟨am_m_X6_place, rfl, by decide, am_q_X6_place, am_tb6 (List.mem_of_getElem? (i := 20) rfl), ⟨am_tb6 (List.mem_of_getElem? (i := 19) rfl), rfl, am_tb6 (List.mem_of_getElem? (i := 21) rfl)⟩⟩
theorem am_vx_11_27 : am_vtok (am_cn 11) (223, 7, 85, 0) := ⟨am_m_X8_addPacked, rfl, by decide, am_q_X8_addPacked, am_tb2 (List.mem_of_getElem? (i := 165) rfl), ⟨am_tb2 (List.mem_of_getElem? (i := 164) rfl), rfl, am_tb2 (List.mem_of_getElem? (i := 166) rfl)⟩⟩
theorem am_vx_11_28 : am_vtok (am_cn 11) (226, 9, 107, 0) := ⟨am_m_X10_open, rfl, by decide, am_q_X10_open, am_tb2 (List.mem_of_getElem? (i := 222) rfl), ⟨am_tb2 (List.mem_of_getElem? (i := 221) rfl), rfl, am_tb2 (List.mem_of_getElem? (i := 223) rfl)⟩⟩
theorem am_vx_11_29 : am_vtok (am_cn 11) (241, 1, 27, 0) := ⟨am_m_X2_set, rfl, by decide, am_q_X2_set, am_tb4 (List.mem_of_getElem? (i := 198) rfl), ⟨am_tb6 (List.mem_of_getElem? (i := 49) rfl), rfl, am_tb4 (List.mem_of_getElem? (i := 199) rfl)⟩⟩
theorem am_vx_11 : ∀ e ∈ [(86, 1, 24, 0), (95, 1, 34, 0), (101, 1, 28, 0), (104, 1, 25, 0), (113, 1, 26, 0), (117, 1, 30, 0), (129, 8, 98, 0), (138, 8, 99, 0), (143, 8, 101, 0), (147, 8, 93, 0), (148, 8, 95, 0), (154, 8, 100, 0), (171, 8, 96, 0), (175, 8, 97, 0), (180, 8, 102, 0), (183, 8, 103, 0), (197, 10, 141, 0), (203, 0, 19, 3), (203, 3, 60, 3), (203, 4, 73, 3), (207, 5, 81, 0), (210, 8, 94, 0), (211, 0, 8, 3), (211, 3, 50, 3), (211, 4, 65, 3), (215, 5, 79, 0), (218, 5, 80, 0), (223, 7, 85, 0), (226, 9, 107, 0), (241, 1, 27, 0)], am_vtok (am_cn 11) e := List.forall_mem_cons.mpr ⟨am_vx_11_0, List.forall_mem_cons.mpr ⟨am_vx_11_1, List.forall_mem_cons.mpr ⟨am_vx_11_2, List.forall_mem_cons.mpr ⟨am_vx_11_3, List.forall_mem_cons.mpr ⟨am_vx_11_4, List.forall_mem_cons.mpr ⟨am_vx_11_5, List.forall_mem_cons.mpr ⟨am_vx_11_6, List.forall_mem_cons.mpr ⟨am_vx_11_7, List.forall_mem_cons.mpr ⟨am_vx_11_8, List.forall_mem_cons.mpr ⟨am_vx_11_9, List.forall_mem_cons.mpr ⟨am_vx_11_10, List.forall_mem_cons.mpr ⟨am_vx_11_11, List.forall_mem_cons.mpr ⟨am_vx_11_12, List.forall_mem_cons.mpr ⟨am_vx_11_13, List.forall_mem_cons.mpr ⟨am_vx_11_14, List.forall_mem_cons.mpr ⟨am_vx_11_15, List.forall_mem_cons.mpr ⟨am_vx_11_16, List.forall_mem_cons.mpr ⟨am_vx_11_17, List.forall_mem_cons.mpr ⟨am_vx_11_18, List.forall_mem_cons.mpr ⟨am_vx_11_19, List.forall_mem_cons.mpr ⟨am_vx_11_20, List.forall_mem_cons.mpr ⟨am_vx_11_21, List.forall_mem_cons.mpr ⟨am_vx_11_22, List.forall_mem_cons.mpr ⟨am_vx_11_23, List.forall_mem_cons.mpr ⟨am_vx_11_24, List.forall_mem_cons.mpr ⟨am_vx_11_25, List.forall_mem_cons.mpr ⟨am_vx_11_26, List.forall_mem_cons.mpr ⟨am_vx_11_27, List.forall_mem_cons.mpr ⟨am_vx_11_28, List.forall_mem_cons.mpr ⟨am_vx_11_29, fun _ h => absurd h List.not_mem_nil⟩⟩⟩⟩⟩⟩⟩⟩⟩⟩⟩⟩⟩⟩⟩⟩⟩⟩⟩⟩⟩⟩⟩⟩⟩⟩⟩⟩⟩⟩
theorem am_vx_12_0 : am_vtok (am_cn 12) (78, 11, 155, 0) := ⟨am_m_X12_refuses, rfl, by decide, am_q_X12_refuses, am_tb6 (List.mem_of_getElem? (i := 204) rfl), ⟨am_tb6 (List.mem_of_getElem? (i := 202) rfl), rfl, am_tb0 (List.mem_of_getElem? (i := 56) rfl)⟩⟩
theorem am_vx_12_1 : am_vtok (am_cn 12) (90, 11, 160, 0) := ⟨am_m_X12_put, rfl, by decide, am_q_X12_put, am_tb6 (List.mem_of_getElem? (i := 221) rfl), ⟨am_tb6 (List.mem_of_getElem? (i := 219) rfl), rfl, am_tb0 (List.mem_of_getElem? (i := 57) rfl)⟩⟩
theorem am_vx_12_2 : am_vtok (am_cn 12) (108, 11, 167, 0) := ⟨am_m_X12_nameAt, rfl, by decide, am_q_X12_nameAt, am_tb7 (List.mem_of_getElem? (i := 25) rfl), ⟨am_tb7 (List.mem_of_getElem? (i := 23) rfl), rfl, am_tb0 (List.mem_of_getElem? (i := 61) rfl)⟩⟩
theorem am_vx_12_3 : am_vtok (am_cn 12) (112, 11, 169, 0) := ⟨am_m_X12_isNamed, rfl, by decide, am_q_X12_isNamed, am_tb7 (List.mem_of_getElem? (i := 33) rfl), ⟨am_tb7 (List.mem_of_getElem? (i := 31) rfl), rfl, am_tb0 (List.mem_of_getElem? (i := 63) rfl)⟩⟩
theorem am_vx_12_4 : am_vtok (am_cn 12) (120, 11, 170, 0) := ⟨am_m_X12_isUnderNew, rfl, by decide, am_q_X12_isUnderNew, am_tb7 (List.mem_of_getElem? (i := 21) rfl), ⟨am_tb7 (List.mem_of_getElem? (i := 19) rfl), rfl, am_tb0 (List.mem_of_getElem? (i := 60) rfl)⟩⟩
theorem am_vx_12_5 : am_vtok (am_cn 12) (123, 11, 171, 0) := ⟨am_m_X12_isNewUnder, rfl, by decide, am_q_X12_isNewUnder, am_tb7 (List.mem_of_getElem? (i := 29) rfl), ⟨am_tb7 (List.mem_of_getElem? (i := 27) rfl), rfl, am_tb0 (List.mem_of_getElem? (i := 62) rfl)⟩⟩
theorem am_vx_12_6 : am_vtok (am_cn 12) (126, 11, 172, 0) := ⟨am_m_X12_seek, rfl, by decide, am_q_X12_seek, am_tb7 (List.mem_of_getElem? (i := 37) rfl), ⟨am_tb7 (List.mem_of_getElem? (i := 35) rfl), rfl, am_tb0 (List.mem_of_getElem? (i := 64) rfl)⟩⟩
theorem am_vx_12_7 : am_vtok (am_cn 12) (129, 11, 174, 0) := ⟨am_m_X12_move, rfl, by decide, am_q_X12_move, am_tb7 (List.mem_of_getElem? (i := 45) rfl), ⟨am_tb7 (List.mem_of_getElem? (i := 43) rfl), rfl, am_tb0 (List.mem_of_getElem? (i := 66) rfl)⟩⟩
theorem am_vx_12_8 : am_vtok (am_cn 12) (136, 11, 168, 0) := ⟨am_m_X12_isName, rfl, by decide, am_q_X12_isName, am_tb7 (List.mem_of_getElem? (i := 10) rfl), ⟨am_tb7 (List.mem_of_getElem? (i := 8) rfl), rfl, am_tb0 (List.mem_of_getElem? (i := 58) rfl)⟩⟩
theorem am_vx_12_9 : am_vtok (am_cn 12) (140, 11, 173, 0) := ⟨am_m_X12_isInTheWay, rfl, by decide, am_q_X12_isInTheWay, am_tb7 (List.mem_of_getElem? (i := 17) rfl), ⟨am_tb7 (List.mem_of_getElem? (i := 15) rfl), rfl, am_tb0 (List.mem_of_getElem? (i := 59) rfl)⟩⟩
theorem am_vx_12_10 : am_vtok (am_cn 12) (144, 11, 175, 0) := ⟨am_m_X12_stand, rfl, by decide, am_q_X12_stand, am_tb7 (List.mem_of_getElem? (i := 41) rfl), ⟨am_tb7 (List.mem_of_getElem? (i := 39) rfl), rfl, am_tb0 (List.mem_of_getElem? (i := 65) rfl)⟩⟩
theorem am_vx_12_11 : am_vtok (am_cn 12) (149, 11, 180, 0) := ⟨am_m_X12_takePath, rfl, by decide, am_q_X12_takePath, am_tb7 (List.mem_of_getElem? (i := 66) rfl), ⟨am_tb7 (List.mem_of_getElem? (i := 64) rfl), rfl, am_tb0 (List.mem_of_getElem? (i := 67) rfl)⟩⟩
theorem am_vx_12_12 : am_vtok (am_cn 12) (158, 11, 182, 0) := ⟨am_m_X12_findPart, rfl, by decide, am_q_X12_findPart, am_tb7 (List.mem_of_getElem? (i := 78) rfl), ⟨am_tb7 (List.mem_of_getElem? (i := 76) rfl), rfl, am_tb0 (List.mem_of_getElem? (i := 69) rfl)⟩⟩
theorem am_vx_12_13 : am_vtok (am_cn 12) (161, 11, 183, 0) := ⟨am_m_X12_isSamePart, rfl, by decide, am_q_X12_isSamePart, am_tb7 (List.mem_of_getElem? (i := 82) rfl), ⟨am_tb7 (List.mem_of_getElem? (i := 80) rfl), rfl, am_tb0 (List.mem_of_getElem? (i := 70) rfl)⟩⟩
theorem am_vx_12_14 : am_vtok (am_cn 12) (165, 11, 184, 0) := ⟨am_m_X12_isFresh, rfl, by decide, am_q_X12_isFresh, am_tb7 (List.mem_of_getElem? (i := 74) rfl), ⟨am_tb7 (List.mem_of_getElem? (i := 72) rfl), rfl, am_tb0 (List.mem_of_getElem? (i := 68) rfl)⟩⟩
theorem am_vx_12_15 : am_vtok (am_cn 12) (170, 11, 156, 0) := ⟨am_m_X12_fails, rfl, by decide, am_q_X12_fails, am_tb7 (List.mem_of_getElem? (i := 99) rfl), ⟨am_tb7 (List.mem_of_getElem? (i := 97) rfl), rfl, am_tb0 (List.mem_of_getElem? (i := 73) rfl)⟩⟩
theorem am_vx_12_16 : am_vtok (am_cn 12) (188, 11, 192, 0) := ⟨am_m_X12_readSum, rfl, by decide, am_q_X12_readSum, am_tb7 (List.mem_of_getElem? (i := 115) rfl), ⟨am_tb7 (List.mem_of_getElem? (i := 113) rfl), rfl, am_tb0 (List.mem_of_getElem? (i := 77) rfl)⟩⟩
theorem am_vx_12_17 : am_vtok (am_cn 12) (191, 11, 193, 0) := ⟨am_m_X12_readMark, rfl, by decide, am_q_X12_readMark, am_tb7 (List.mem_of_getElem? (i := 123) rfl), ⟨am_tb7 (List.mem_of_getElem? (i := 121) rfl), rfl, am_tb0 (List.mem_of_getElem? (i := 78) rfl)⟩⟩
theorem am_vx_12_18 : am_vtok (am_cn 12) (194, 11, 191, 0) := ⟨am_m_X12_readOctal, rfl, by decide, am_q_X12_readOctal, am_tb7 (List.mem_of_getElem? (i := 127) rfl), ⟨am_tb7 (List.mem_of_getElem? (i := 125) rfl), rfl, am_tb0 (List.mem_of_getElem? (i := 79) rfl)⟩⟩
theorem am_vx_12_19 : am_vtok (am_cn 12) (197, 11, 194, 0) := ⟨am_m_X12_addName, rfl, by decide, am_q_X12_addName, am_tb7 (List.mem_of_getElem? (i := 131) rfl), ⟨am_tb7 (List.mem_of_getElem? (i := 129) rfl), rfl, am_tb0 (List.mem_of_getElem? (i := 80) rfl)⟩⟩
theorem am_vx_12_20 : am_vtok (am_cn 12) (200, 11, 187, 0) := ⟨am_m_X12_reaches, rfl, by decide, am_q_X12_reaches, am_tb7 (List.mem_of_getElem? (i := 95) rfl), ⟨am_tb7 (List.mem_of_getElem? (i := 93) rfl), rfl, am_tb0 (List.mem_of_getElem? (i := 72) rfl)⟩⟩
theorem am_vx_12_21 : am_vtok (am_cn 12) (204, 11, 196, 0) := ⟨am_m_X12_isBlank, rfl, by decide, am_q_X12_isBlank, am_tb7 (List.mem_of_getElem? (i := 103) rfl), ⟨am_tb7 (List.mem_of_getElem? (i := 101) rfl), rfl, am_tb0 (List.mem_of_getElem? (i := 74) rfl)⟩⟩
theorem am_vx_12_22 : am_vtok (am_cn 12) (207, 11, 188, 0) := ⟨am_m_X12_areZeros, rfl, by decide, am_q_X12_areZeros, am_tb7 (List.mem_of_getElem? (i := 107) rfl), ⟨am_tb7 (List.mem_of_getElem? (i := 105) rfl), rfl, am_tb0 (List.mem_of_getElem? (i := 75) rfl)⟩⟩
theorem am_vx_12_23 : am_vtok (am_cn 12) (210, 11, 195, 0) := ⟨am_m_X12_readBlockHead, rfl, by decide, am_q_X12_readBlockHead, am_tb7 (List.mem_of_getElem? (i := 111) rfl), ⟨am_tb7 (List.mem_of_getElem? (i := 109) rfl), rfl, am_tb0 (List.mem_of_getElem? (i := 76) rfl)⟩⟩
theorem am_vx_12_24 : am_vtok (am_cn 12) (213, 11, 190, 0) := ⟨am_m_X12_takeBytes, rfl, by decide, am_q_X12_takeBytes, am_tb7 (List.mem_of_getElem? (i := 135) rfl), ⟨am_tb7 (List.mem_of_getElem? (i := 133) rfl), rfl, am_tb0 (List.mem_of_getElem? (i := 81) rfl)⟩⟩
theorem am_vx_12_25 : am_vtok (am_cn 12) (216, 11, 189, 0) := ⟨am_m_X12_comes, rfl, by decide, am_q_X12_comes, am_tb7 (List.mem_of_getElem? (i := 139) rfl), ⟨am_tb7 (List.mem_of_getElem? (i := 137) rfl), rfl, am_tb0 (List.mem_of_getElem? (i := 82) rfl)⟩⟩
theorem am_vx_12_26 : am_vtok (am_cn 12) (235, 11, 199, 0) := ⟨am_m_X12_hexAt, rfl, by decide, am_q_X12_hexAt, am_tb7 (List.mem_of_getElem? (i := 159) rfl), ⟨am_tb7 (List.mem_of_getElem? (i := 157) rfl), rfl, am_tb0 (List.mem_of_getElem? (i := 85) rfl)⟩⟩
theorem am_vx_12_27 : am_vtok (am_cn 12) (244, 11, 200, 0) := ⟨am_m_X12_readDigitsHead, rfl, by decide, am_q_X12_readDigitsHead, am_tb7 (List.mem_of_getElem? (i := 147) rfl), ⟨am_tb7 (List.mem_of_getElem? (i := 145) rfl), rfl, am_tb0 (List.mem_of_getElem? (i := 84) rfl)⟩⟩
theorem am_vx_12_28 : am_vtok (am_cn 12) (247, 11, 202, 0) := ⟨am_m_X12_isTrailer, rfl, by decide, am_q_X12_isTrailer, am_tb7 (List.mem_of_getElem? (i := 165) rfl), ⟨am_tb7 (List.mem_of_getElem? (i := 163) rfl), rfl, am_tb0 (List.mem_of_getElem? (i := 86) rfl)⟩⟩
theorem am_vx_12_29 : am_vtok (am_cn 12) (257, 11, 205, 0) := ⟨am_m_X12_twoAt, rfl, by decide, am_q_X12_twoAt, am_tb7 (List.mem_of_getElem? (i := 193) rfl), ⟨am_tb7 (List.mem_of_getElem? (i := 191) rfl), rfl, am_tb0 (List.mem_of_getElem? (i := 91) rfl)⟩⟩
theorem am_vx_12_30 : am_vtok (am_cn 12) (260, 11, 206, 0) := ⟨am_m_X12_fourAt, rfl, by decide, am_q_X12_fourAt, am_tb7 (List.mem_of_getElem? (i := 197) rfl), ⟨am_tb7 (List.mem_of_getElem? (i := 195) rfl), rfl, am_tb0 (List.mem_of_getElem? (i := 92) rfl)⟩⟩
theorem am_vx_12_31 : am_vtok (am_cn 12) (263, 11, 186, 0) := ⟨am_m_X12_isRow, rfl, by decide, am_q_X12_isRow, am_tb7 (List.mem_of_getElem? (i := 185) rfl), ⟨am_tb7 (List.mem_of_getElem? (i := 183) rfl), rfl, am_tb0 (List.mem_of_getElem? (i := 89) rfl)⟩⟩
theorem am_vx_12_32 : am_vtok (am_cn 12) (267, 11, 207, 0) := ⟨am_m_X12_isZeroAt, rfl, by decide, am_q_X12_isZeroAt, am_tb7 (List.mem_of_getElem? (i := 189) rfl), ⟨am_tb7 (List.mem_of_getElem? (i := 187) rfl), rfl, am_tb0 (List.mem_of_getElem? (i := 90) rfl)⟩⟩
theorem am_vx_12_33 : am_vtok (am_cn 12) (273, 11, 210, 0) := ⟨am_m_X12_isAsThere, rfl, by decide, am_q_X12_isAsThere, am_tb7 (List.mem_of_getElem? (i := 210) rfl), ⟨am_tb7 (List.mem_of_getElem? (i := 208) rfl), rfl, am_tb0 (List.mem_of_getElem? (i := 95) rfl)⟩⟩
theorem am_vx_12_34 : am_vtok (am_cn 12) (276, 11, 212, 0) := ⟨am_m_X12_readContent, rfl, by decide, am_q_X12_readContent, am_tb7 (List.mem_of_getElem? (i := 214) rfl), ⟨am_tb7 (List.mem_of_getElem? (i := 212) rfl), rfl, am_tb0 (List.mem_of_getElem? (i := 96) rfl)⟩⟩
theorem am_vx_12_35 : am_vtok (am_cn 12) (279, 11, 229, 0) := ⟨am_m_X12_unpackFrom, rfl, by decide, am_q_X12_unpackFrom, am_tb7 (List.mem_of_getElem? (i := 218) rfl), ⟨am_tb7 (List.mem_of_getElem? (i := 216) rfl), rfl, am_tb0 (List.mem_of_getElem? (i := 97) rfl)⟩⟩
theorem am_vx_12_36 : am_vtok (am_cn 12) (288, 11, 208, 0) := ⟨am_m_X12_readEnd, rfl, by decide, am_q_X12_readEnd, am_tb7 (List.mem_of_getElem? (i := 181) rfl), ⟨am_tb7 (List.mem_of_getElem? (i := 179) rfl), rfl, am_tb0 (List.mem_of_getElem? (i := 88) rfl)⟩⟩
theorem am_vx_12_37 : am_vtok (am_cn 12) (291, 11, 209, 0) := ⟨am_m_X12_readEntryHead, rfl, by decide, am_q_X12_readEntryHead, am_tb7 (List.mem_of_getElem? (i := 201) rfl), ⟨am_tb7 (List.mem_of_getElem? (i := 199) rfl), rfl, am_tb0 (List.mem_of_getElem? (i := 93) rfl)⟩⟩
theorem am_vx_12_38 : am_vtok (am_cn 12) (294, 11, 211, 0) := ⟨am_m_X12_readLocal, rfl, by decide, am_q_X12_readLocal, am_tb7 (List.mem_of_getElem? (i := 205) rfl), ⟨am_tb7 (List.mem_of_getElem? (i := 203) rfl), rfl, am_tb0 (List.mem_of_getElem? (i := 94) rfl)⟩⟩
theorem am_vx_12_39 : am_vtok (am_cn 12) (297, 11, 197, 0) := ⟨am_m_X12_readBlocks, rfl, by decide, am_q_X12_readBlocks, am_tb7 (List.mem_of_getElem? (i := 91) rfl), ⟨am_tb7 (List.mem_of_getElem? (i := 89) rfl), rfl, am_tb0 (List.mem_of_getElem? (i := 71) rfl)⟩⟩
theorem am_vx_12_40 : am_vtok (am_cn 12) (300, 11, 204, 0) := ⟨am_m_X12_readDigits, rfl, by decide, am_q_X12_readDigits, am_tb7 (List.mem_of_getElem? (i := 143) rfl), ⟨am_tb7 (List.mem_of_getElem? (i := 141) rfl), rfl, am_tb0 (List.mem_of_getElem? (i := 83) rfl)⟩⟩
theorem am_vx_12_41 : am_vtok (am_cn 12) (303, 11, 213, 0) := ⟨am_m_X12_readDirectory, rfl, by decide, am_q_X12_readDirectory, am_tb7 (List.mem_of_getElem? (i := 177) rfl), ⟨am_tb7 (List.mem_of_getElem? (i := 175) rfl), rfl, am_tb0 (List.mem_of_getElem? (i := 87) rfl)⟩⟩
theorem am_vx_12_42 : am_vtok (am_cn 12) (312, 11, 216, 0) := ⟨am_m_X12_bit, rfl, by decide, am_q_X12_bit, am_tb7 (List.mem_of_getElem? (i := 222) rfl), ⟨am_tb7 (List.mem_of_getElem? (i := 220) rfl), rfl, am_tb0 (List.mem_of_getElem? (i := 98) rfl)⟩⟩
theorem am_vx_12_43 : am_vtok (am_cn 12) (320, 11, 217, 0) := ⟨am_m_X12_bits, rfl, by decide, am_q_X12_bits, am_tb7 (List.mem_of_getElem? (i := 226) rfl), ⟨am_tb7 (List.mem_of_getElem? (i := 224) rfl), rfl, am_tb0 (List.mem_of_getElem? (i := 99) rfl)⟩⟩
theorem am_vx_12_44 : am_vtok (am_cn 12) (324, 11, 221, 0) := ⟨am_m_X12_add, rfl, by decide, am_q_X12_add, am_tb7 (List.mem_of_getElem? (i := 235) rfl), ⟨am_tb7 (List.mem_of_getElem? (i := 233) rfl), rfl, am_tb0 (List.mem_of_getElem? (i := 101) rfl)⟩⟩
theorem am_vx_12_45 : am_vtok (am_cn 12) (327, 11, 218, 0) := ⟨am_m_X12_layCodes, rfl, by decide, am_q_X12_layCodes, am_tb8 (List.mem_of_getElem? (i := 3) rfl), ⟨am_tb8 (List.mem_of_getElem? (i := 1) rfl), rfl, am_tb0 (List.mem_of_getElem? (i := 103) rfl)⟩⟩
theorem am_vx_12_46 : am_vtok (am_cn 12) (330, 11, 220, 0) := ⟨am_m_X12_symbol, rfl, by decide, am_q_X12_symbol, am_tb8 (List.mem_of_getElem? (i := 24) rfl), ⟨am_tb8 (List.mem_of_getElem? (i := 22) rfl), rfl, am_tb0 (List.mem_of_getElem? (i := 108) rfl)⟩⟩
theorem am_vx_12_47 : am_vtok (am_cn 12) (333, 11, 215, 0) := ⟨am_m_X12_order, rfl, by decide, am_q_X12_order, am_tb8 (List.mem_of_getElem? (i := 11) rfl), ⟨am_tb8 (List.mem_of_getElem? (i := 9) rfl), rfl, am_tb0 (List.mem_of_getElem? (i := 105) rfl)⟩⟩
theorem am_vx_12_48 : am_vtok (am_cn 12) (336, 11, 219, 0) := ⟨am_m_X12_fullness, rfl, by decide, am_q_X12_fullness, am_tb8 (List.mem_of_getElem? (i := 15) rfl), ⟨am_tb8 (List.mem_of_getElem? (i := 13) rfl), rfl, am_tb0 (List.mem_of_getElem? (i := 106) rfl)⟩⟩
theorem am_vx_12_49 : am_vtok (am_cn 12) (339, 11, 224, 0) := ⟨am_m_X12_readRow, rfl, by decide, am_q_X12_readRow, am_tb8 (List.mem_of_getElem? (i := 20) rfl), ⟨am_tb8 (List.mem_of_getElem? (i := 18) rfl), rfl, am_tb0 (List.mem_of_getElem? (i := 107) rfl)⟩⟩
theorem am_vx_12_50 : am_vtok (am_cn 12) (345, 11, 226, 0) := ⟨am_m_X12_lengthOf, rfl, by decide, am_q_X12_lengthOf, am_tb8 (List.mem_of_getElem? (i := 32) rfl), ⟨am_tb8 (List.mem_of_getElem? (i := 30) rfl), rfl, am_tb0 (List.mem_of_getElem? (i := 110) rfl)⟩⟩
theorem am_vx_12_51 : am_vtok (am_cn 12) (348, 11, 227, 0) := ⟨am_m_X12_distanceOf, rfl, by decide, am_q_X12_distanceOf, am_tb8 (List.mem_of_getElem? (i := 36) rfl), ⟨am_tb8 (List.mem_of_getElem? (i := 34) rfl), rfl, am_tb0 (List.mem_of_getElem? (i := 111) rfl)⟩⟩
theorem am_vx_12_52 : am_vtok (am_cn 12) (351, 11, 222, 0) := ⟨am_m_X12_plain, rfl, by decide, am_q_X12_plain, am_tb7 (List.mem_of_getElem? (i := 230) rfl), ⟨am_tb7 (List.mem_of_getElem? (i := 228) rfl), rfl, am_tb0 (List.mem_of_getElem? (i := 100) rfl)⟩⟩
theorem am_vx_12_53 : am_vtok (am_cn 12) (354, 11, 223, 0) := ⟨am_m_X12_layFixed, rfl, by decide, am_q_X12_layFixed, am_tb7 (List.mem_of_getElem? (i := 239) rfl), ⟨am_tb7 (List.mem_of_getElem? (i := 237) rfl), rfl, am_tb0 (List.mem_of_getElem? (i := 102) rfl)⟩⟩
theorem am_vx_12_54 : am_vtok (am_cn 12) (357, 11, 225, 0) := ⟨am_m_X12_readCodes, rfl, by decide, am_q_X12_readCodes, am_tb8 (List.mem_of_getElem? (i := 7) rfl), ⟨am_tb8 (List.mem_of_getElem? (i := 5) rfl), rfl, am_tb0 (List.mem_of_getElem? (i := 104) rfl)⟩⟩
theorem am_vx_12_55 : am_vtok (am_cn 12) (360, 11, 228, 0) := ⟨am_m_X12_readSymbols, rfl, by decide, am_q_X12_readSymbols, am_tb8 (List.mem_of_getElem? (i := 28) rfl), ⟨am_tb8 (List.mem_of_getElem? (i := 26) rfl), rfl, am_tb0 (List.mem_of_getElem? (i := 109) rfl)⟩⟩
theorem am_vx_12_56 : am_vtok (am_cn 12) (370, 11, 233, 0) := ⟨am_m_X12_putBit, rfl, by decide, am_q_X12_putBit, am_tb8 (List.mem_of_getElem? (i := 64) rfl), ⟨am_tb8 (List.mem_of_getElem? (i := 62) rfl), rfl, am_tb0 (List.mem_of_getElem? (i := 114) rfl)⟩⟩
theorem am_vx_12_57 : am_vtok (am_cn 12) (379, 11, 235, 0) := ⟨am_m_X12_putCode, rfl, by decide, am_q_X12_putCode, am_tb8 (List.mem_of_getElem? (i := 76) rfl), ⟨am_tb8 (List.mem_of_getElem? (i := 74) rfl), rfl, am_tb0 (List.mem_of_getElem? (i := 117) rfl)⟩⟩
theorem am_vx_12_58 : am_vtok (am_cn 12) (382, 11, 234, 0) := ⟨am_m_X12_putBits, rfl, by decide, am_q_X12_putBits, am_tb8 (List.mem_of_getElem? (i := 60) rfl), ⟨am_tb8 (List.mem_of_getElem? (i := 58) rfl), rfl, am_tb0 (List.mem_of_getElem? (i := 113) rfl)⟩⟩
theorem am_vx_12_59 : am_vtok (am_cn 12) (385, 11, 236, 0) := ⟨am_m_X12_match, rfl, by decide, am_q_X12_match, am_tb8 (List.mem_of_getElem? (i := 68) rfl), ⟨am_tb8 (List.mem_of_getElem? (i := 66) rfl), rfl, am_tb0 (List.mem_of_getElem? (i := 115) rfl)⟩⟩
theorem am_vx_12_60 : am_vtok (am_cn 12) (388, 11, 237, 0) := ⟨am_m_X12_putMatch, rfl, by decide, am_q_X12_putMatch, am_tb8 (List.mem_of_getElem? (i := 72) rfl), ⟨am_tb8 (List.mem_of_getElem? (i := 70) rfl), rfl, am_tb0 (List.mem_of_getElem? (i := 116) rfl)⟩⟩
theorem am_vx_12_61 : am_vtok (am_cn 12) (391, 11, 238, 0) := ⟨am_m_X12_putPacked, rfl, by decide, am_q_X12_putPacked, am_tb8 (List.mem_of_getElem? (i := 56) rfl), ⟨am_tb8 (List.mem_of_getElem? (i := 54) rfl), rfl, am_tb0 (List.mem_of_getElem? (i := 112) rfl)⟩⟩
theorem am_vx_12_62 : am_vtok (am_cn 12) (394, 11, 241, 0) := ⟨am_m_X12_putName, rfl, by decide, am_q_X12_putName, am_tb8 (List.mem_of_getElem? (i := 88) rfl), ⟨am_tb8 (List.mem_of_getElem? (i := 86) rfl), rfl, am_tb0 (List.mem_of_getElem? (i := 119) rfl)⟩⟩
theorem am_vx_12_63 : am_vtok (am_cn 12) (398, 11, 240, 0) := ⟨am_m_X12_putZeros, rfl, by decide, am_q_X12_putZeros, am_tb8 (List.mem_of_getElem? (i := 92) rfl), ⟨am_tb8 (List.mem_of_getElem? (i := 90) rfl), rfl, am_tb0 (List.mem_of_getElem? (i := 120) rfl)⟩⟩
theorem am_vx_12_64 : am_vtok (am_cn 12) (401, 11, 243, 0) := ⟨am_m_X12_octalAt, rfl, by decide, am_q_X12_octalAt, am_tb8 (List.mem_of_getElem? (i := 96) rfl), ⟨am_tb8 (List.mem_of_getElem? (i := 94) rfl), rfl, am_tb0 (List.mem_of_getElem? (i := 121) rfl)⟩⟩
theorem am_vx_12_65 : am_vtok (am_cn 12) (405, 11, 242, 0) := ⟨am_m_X12_putBytes, rfl, by decide, am_q_X12_putBytes, am_tb8 (List.mem_of_getElem? (i := 100) rfl), ⟨am_tb8 (List.mem_of_getElem? (i := 98) rfl), rfl, am_tb0 (List.mem_of_getElem? (i := 122) rfl)⟩⟩
theorem am_vx_12_66 : am_vtok (am_cn 12) (408, 11, 245, 0) := ⟨am_m_X12_putHex, rfl, by decide, am_q_X12_putHex, am_tb8 (List.mem_of_getElem? (i := 113) rfl), ⟨am_tb8 (List.mem_of_getElem? (i := 111) rfl), rfl, am_tb0 (List.mem_of_getElem? (i := 125) rfl)⟩⟩
theorem am_vx_12_67 : am_vtok (am_cn 12) (412, 11, 246, 0) := ⟨am_m_X12_putDigitsHead, rfl, by decide, am_q_X12_putDigitsHead, am_tb8 (List.mem_of_getElem? (i := 109) rfl), ⟨am_tb8 (List.mem_of_getElem? (i := 107) rfl), rfl, am_tb0 (List.mem_of_getElem? (i := 124) rfl)⟩⟩
theorem am_vx_12_68 : am_vtok (am_cn 12) (416, 11, 248, 0) := ⟨am_m_X12_putTwo, rfl, by decide, am_q_X12_putTwo, am_tb8 (List.mem_of_getElem? (i := 125) rfl), ⟨am_tb8 (List.mem_of_getElem? (i := 123) rfl), rfl, am_tb0 (List.mem_of_getElem? (i := 128) rfl)⟩⟩
theorem am_vx_12_69 : am_vtok (am_cn 12) (419, 11, 250, 0) := ⟨am_m_X12_checkOf, rfl, by decide, am_q_X12_checkOf, am_tb8 (List.mem_of_getElem? (i := 129) rfl), ⟨am_tb8 (List.mem_of_getElem? (i := 127) rfl), rfl, am_tb0 (List.mem_of_getElem? (i := 129) rfl)⟩⟩
theorem am_vx_12_70 : am_vtok (am_cn 12) (422, 11, 249, 0) := ⟨am_m_X12_putFour, rfl, by decide, am_q_X12_putFour, am_tb8 (List.mem_of_getElem? (i := 133) rfl), ⟨am_tb8 (List.mem_of_getElem? (i := 131) rfl), rfl, am_tb0 (List.mem_of_getElem? (i := 130) rfl)⟩⟩
theorem am_vx_12_71 : am_vtok (am_cn 12) (425, 11, 251, 0) := ⟨am_m_X12_namedSize, rfl, by decide, am_q_X12_namedSize, am_tb8 (List.mem_of_getElem? (i := 137) rfl), ⟨am_tb8 (List.mem_of_getElem? (i := 135) rfl), rfl, am_tb0 (List.mem_of_getElem? (i := 131) rfl)⟩⟩
theorem am_vx_12_72 : am_vtok (am_cn 12) (428, 11, 252, 0) := ⟨am_m_X12_fourInto, rfl, by decide, am_q_X12_fourInto, am_tb8 (List.mem_of_getElem? (i := 141) rfl), ⟨am_tb8 (List.mem_of_getElem? (i := 139) rfl), rfl, am_tb0 (List.mem_of_getElem? (i := 132) rfl)⟩⟩
theorem am_vx_12_73 : am_vtok (am_cn 12) (431, 11, 253, 0) := ⟨am_m_X12_writeLocal, rfl, by decide, am_q_X12_writeLocal, am_tb8 (List.mem_of_getElem? (i := 121) rfl), ⟨am_tb8 (List.mem_of_getElem? (i := 119) rfl), rfl, am_tb0 (List.mem_of_getElem? (i := 127) rfl)⟩⟩
theorem am_vx_12_74 : am_vtok (am_cn 12) (434, 11, 254, 0) := ⟨am_m_X12_writeEntry, rfl, by decide, am_q_X12_writeEntry, am_tb8 (List.mem_of_getElem? (i := 145) rfl), ⟨am_tb8 (List.mem_of_getElem? (i := 143) rfl), rfl, am_tb0 (List.mem_of_getElem? (i := 133) rfl)⟩⟩
theorem am_vx_12_75 : am_vtok (am_cn 12) (437, 11, 244, 0) := ⟨am_m_X12_writeBlock, rfl, by decide, am_q_X12_writeBlock, am_tb8 (List.mem_of_getElem? (i := 84) rfl), ⟨am_tb8 (List.mem_of_getElem? (i := 82) rfl), rfl, am_tb0 (List.mem_of_getElem? (i := 118) rfl)⟩⟩
theorem am_vx_12_76 : am_vtok (am_cn 12) (440, 11, 247, 0) := ⟨am_m_X12_writeDigits, rfl, by decide, am_q_X12_writeDigits, am_tb8 (List.mem_of_getElem? (i := 104) rfl), ⟨am_tb8 (List.mem_of_getElem? (i := 102) rfl), rfl, am_tb0 (List.mem_of_getElem? (i := 123) rfl)⟩⟩
theorem am_vx_12_77 : am_vtok (am_cn 12) (443, 11, 255, 0) := ⟨am_m_X12_writeDirectory, rfl, by decide, am_q_X12_writeDirectory, am_tb8 (List.mem_of_getElem? (i := 117) rfl), ⟨am_tb8 (List.mem_of_getElem? (i := 115) rfl), rfl, am_tb0 (List.mem_of_getElem? (i := 126) rfl)⟩⟩
theorem am_vx_12 : ∀ e ∈ [(78, 11, 155, 0), (90, 11, 160, 0), (108, 11, 167, 0), (112, 11, 169, 0), (120, 11, 170, 0), (123, 11, 171, 0), (126, 11, 172, 0), (129, 11, 174, 0), (136, 11, 168, 0), (140, 11, 173, 0), (144, 11, 175, 0), (149, 11, 180, 0), (158, 11, 182, 0), (161, 11, 183, 0), (165, 11, 184, 0), (170, 11, 156, 0), (188, 11, 192, 0), (191, 11, 193, 0), (194, 11, 191, 0), (197, 11, 194, 0), (200, 11, 187, 0), (204, 11, 196, 0), (207, 11, 188, 0), (210, 11, 195, 0), (213, 11, 190, 0), (216, 11, 189, 0), (235, 11, 199, 0), (244, 11, 200, 0), (247, 11, 202, 0), (257, 11, 205, 0), (260, 11, 206, 0), (263, 11, 186, 0), (267, 11, 207, 0), (273, 11, 210, 0), (276, 11, 212, 0), (279, 11, 229, 0), (288, 11, 208, 0), (291, 11, 209, 0), (294, 11, 211, 0), (297, 11, 197, 0), (300, 11, 204, 0), (303, 11, 213, 0), (312, 11, 216, 0), (320, 11, 217, 0), (324, 11, 221, 0), (327, 11, 218, 0), (330, 11, 220, 0), (333, 11, 215, 0), (336, 11, 219, 0), (339, 11, 224, 0), (345, 11, 226, 0), (348, 11, 227, 0), (351, 11, 222, 0), (354, 11, 223, 0), (357, 11, 225, 0), (360, 11, 228, 0), (370, 11, 233, 0), (379, 11, 235, 0), (382, 11, 234, 0), (385, 11, 236, 0), (388, 11, 237, 0), (391, 11, 238, 0), (394, 11, 241, 0), (398, 11, 240, 0), (401, 11, 243, 0), (405, 11, 242, 0), (408, 11, 245, 0), (412, 11, 246, 0), (416, 11, 248, 0), (419, 11, 250, 0), (422, 11, 249, 0), (425, 11, 251, 0), (428, 11, 252, 0), (431, 11, 253, 0), (434, 11, 254, 0), (437, 11, 244, 0), (440, 11, 247, 0), (443, 11, 255, 0)], am_vtok (am_cn 12) e := List.forall_mem_cons.mpr ⟨am_vx_12_0, List.forall_mem_cons.mpr ⟨am_vx_12_1, List.forall_mem_cons.mpr ⟨am_vx_12_2, List.forall_mem_cons.mpr ⟨am_vx_12_3, List.forall_mem_cons.mpr ⟨am_vx_12_4, List.forall_mem_cons.mpr ⟨am_vx_12_5, List.forall_mem_cons.mpr ⟨am_vx_12_6, List.forall_mem_cons.mpr ⟨am_vx_12_7, List.forall_mem_cons.mpr ⟨am_vx_12_8, List.forall_mem_cons.mpr ⟨am_vx_12_9, List.forall_mem_cons.mpr ⟨am_vx_12_10, List.forall_mem_cons.mpr ⟨am_vx_12_11, List.forall_mem_cons.mpr ⟨am_vx_12_12, List.forall_mem_cons.mpr ⟨am_vx_12_13, List.forall_mem_cons.mpr ⟨am_vx_12_14, List.forall_mem_cons.mpr ⟨am_vx_12_15, List.forall_mem_cons.mpr ⟨am_vx_12_16, List.forall_mem_cons.mpr ⟨am_vx_12_17, List.forall_mem_cons.mpr ⟨am_vx_12_18, List.forall_mem_cons.mpr ⟨am_vx_12_19, List.forall_mem_cons.mpr ⟨am_vx_12_20, List.forall_mem_cons.mpr ⟨am_vx_12_21, List.forall_mem_cons.mpr ⟨am_vx_12_22, List.forall_mem_cons.mpr ⟨am_vx_12_23, List.forall_mem_cons.mpr ⟨am_vx_12_24, List.forall_mem_cons.mpr ⟨am_vx_12_25, List.forall_mem_cons.mpr ⟨am_vx_12_26, List.forall_mem_cons.mpr ⟨am_vx_12_27, List.forall_mem_cons.mpr ⟨am_vx_12_28, List.forall_mem_cons.mpr ⟨am_vx_12_29, List.forall_mem_cons.mpr ⟨am_vx_12_30, List.forall_mem_cons.mpr ⟨am_vx_12_31, List.forall_mem_cons.mpr ⟨am_vx_12_32, List.forall_mem_cons.mpr ⟨am_vx_12_33, List.forall_mem_cons.mpr ⟨am_vx_12_34, List.forall_mem_cons.mpr ⟨am_vx_12_35, List.forall_mem_cons.mpr ⟨am_vx_12_36, List.forall_mem_cons.mpr ⟨am_vx_12_37, List.forall_mem_cons.mpr ⟨am_vx_12_38, List.forall_mem_cons.mpr ⟨am_vx_12_39, List.forall_mem_cons.mpr ⟨am_vx_12_40, List.forall_mem_cons.mpr ⟨am_vx_12_41, List.forall_mem_cons.mpr ⟨am_vx_12_42, List.forall_mem_cons.mpr ⟨am_vx_12_43, List.forall_mem_cons.mpr ⟨am_vx_12_44, List.forall_mem_cons.mpr ⟨am_vx_12_45, List.forall_mem_cons.mpr ⟨am_vx_12_46, List.forall_mem_cons.mpr ⟨am_vx_12_47, List.forall_mem_cons.mpr ⟨am_vx_12_48, List.forall_mem_cons.mpr ⟨am_vx_12_49, List.forall_mem_cons.mpr ⟨am_vx_12_50, List.forall_mem_cons.mpr ⟨am_vx_12_51, List.forall_mem_cons.mpr ⟨am_vx_12_52, List.forall_mem_cons.mpr ⟨am_vx_12_53, List.forall_mem_cons.mpr ⟨am_vx_12_54, List.forall_mem_cons.mpr ⟨am_vx_12_55, List.forall_mem_cons.mpr ⟨am_vx_12_56, List.forall_mem_cons.mpr ⟨am_vx_12_57, List.forall_mem_cons.mpr ⟨am_vx_12_58, List.forall_mem_cons.mpr ⟨am_vx_12_59, List.forall_mem_cons.mpr ⟨am_vx_12_60, List.forall_mem_cons.mpr ⟨am_vx_12_61, List.forall_mem_cons.mpr ⟨am_vx_12_62, List.forall_mem_cons.mpr ⟨am_vx_12_63, List.forall_mem_cons.mpr ⟨am_vx_12_64, List.forall_mem_cons.mpr ⟨am_vx_12_65, List.forall_mem_cons.mpr ⟨am_vx_12_66, List.forall_mem_cons.mpr ⟨am_vx_12_67, List.forall_mem_cons.mpr ⟨am_vx_12_68, List.forall_mem_cons.mpr ⟨am_vx_12_69, List.forall_mem_cons.mpr ⟨am_vx_12_70, List.forall_mem_cons.mpr ⟨am_vx_12_71, List.forall_mem_cons.mpr ⟨am_vx_12_72, List.forall_mem_cons.mpr ⟨am_vx_12_73, List.forall_mem_cons.mpr ⟨am_vx_12_74, List.forall_mem_cons.mpr ⟨am_vx_12_75, List.forall_mem_cons.mpr ⟨am_vx_12_76, List.forall_mem_cons.mpr ⟨am_vx_12_77, fun _ h => absurd h List.not_mem_nil⟩⟩⟩⟩⟩⟩⟩⟩⟩⟩⟩⟩⟩⟩⟩⟩⟩⟩⟩⟩⟩⟩⟩⟩⟩⟩⟩⟩⟩⟩⟩⟩⟩⟩⟩⟩⟩⟩⟩⟩⟩⟩⟩⟩⟩⟩⟩⟩⟩⟩⟩⟩⟩⟩⟩⟩⟩⟩⟩⟩⟩⟩⟩⟩⟩⟩⟩⟩⟩⟩⟩⟩⟩⟩⟩⟩⟩⟩
theorem am_vx_13_0 : am_vtok (am_cn 13) (7, 10, 121, 0) := ⟨am_m_X11_type, rfl, by decide, am_q_X11_type, am_tb3 (List.mem_of_getElem? (i := 80) rfl), ⟨am_tb3 (List.mem_of_getElem? (i := 79) rfl), rfl, am_tb3 (List.mem_of_getElem? (i := 81) rfl)⟩⟩
theorem am_vx_13_1 : am_vtok (am_cn 13) (17, 10, 122, 0) := ⟨am_m_X11_keep, rfl, by decide, am_q_X11_keep, am_tb3 (List.mem_of_getElem? (i := 176) rfl), ⟨am_tb3 (List.mem_of_getElem? (i := 175) rfl), rfl, am_tb3 (List.mem_of_getElem? (i := 177) rfl)⟩⟩
theorem am_vx_13_2 : am_vtok (am_cn 13) (21, 10, 123, 0) := ⟨am_m_X11_typed, rfl, by decide, am_q_X11_typed, am_tb3 (List.mem_of_getElem? (i := 185) rfl), ⟨am_tb3 (List.mem_of_getElem? (i := 184) rfl), rfl, am_tb3 (List.mem_of_getElem? (i := 186) rfl)⟩⟩
theorem am_vx_13_3 : am_vtok (am_cn 13) (27, 10, 124, 0) := ⟨am_m_X11_come, rfl, by decide, am_q_X11_come, am_tb3 (List.mem_of_getElem? (i := 213) rfl), ⟨am_tb3 (List.mem_of_getElem? (i := 212) rfl), rfl, am_tb3 (List.mem_of_getElem? (i := 214) rfl)⟩⟩
theorem am_vx_13_4 : am_vtok (am_cn 13) (33, 10, 125, 0) := ⟨am_m_X11_go, rfl, by decide, am_q_X11_go, am_tb4 (List.mem_of_getElem? (i := 28) rfl), ⟨am_tb4 (List.mem_of_getElem? (i := 27) rfl), rfl, am_tb4 (List.mem_of_getElem? (i := 29) rfl)⟩⟩
theorem am_vx_13_5 : am_vtok (am_cn 13) (36, 10, 126, 0) := ⟨am_m_X11_name, rfl, by decide, am_q_X11_name, am_tb4 (List.mem_of_getElem? (i := 37) rfl), ⟨am_tb4 (List.mem_of_getElem? (i := 36) rfl), rfl, am_tb4 (List.mem_of_getElem? (i := 38) rfl)⟩⟩
theorem am_vx_13_6 : am_vtok (am_cn 13) (40, 10, 127, 0) := ⟨am_m_X11_byteAt, rfl, by decide, am_q_X11_byteAt, am_tb4 (List.mem_of_getElem? (i := 45) rfl), ⟨am_tb4 (List.mem_of_getElem? (i := 44) rfl), rfl, am_tb4 (List.mem_of_getElem? (i := 46) rfl)⟩⟩
theorem am_vx_13_7 : am_vtok (am_cn 13) (43, 10, 129, 0) := ⟨am_m_X11_child, rfl, by decide, am_q_X11_child, am_tb4 (List.mem_of_getElem? (i := 53) rfl), ⟨am_tb4 (List.mem_of_getElem? (i := 52) rfl), rfl, am_tb4 (List.mem_of_getElem? (i := 54) rfl)⟩⟩
theorem am_vx_13_8 : am_vtok (am_cn 13) (46, 10, 130, 0) := ⟨am_m_X11_write, rfl, by decide, am_q_X11_write, am_tb4 (List.mem_of_getElem? (i := 87) rfl), ⟨am_tb4 (List.mem_of_getElem? (i := 86) rfl), rfl, am_tb4 (List.mem_of_getElem? (i := 88) rfl)⟩⟩
theorem am_vx_13_9 : am_vtok (am_cn 13) (49, 10, 131, 0) := ⟨am_m_X11_read, rfl, by decide, am_q_X11_read, am_tb5 (List.mem_of_getElem? (i := 47) rfl), ⟨am_tb5 (List.mem_of_getElem? (i := 46) rfl), rfl, am_tb5 (List.mem_of_getElem? (i := 48) rfl)⟩⟩
theorem am_vx_13_10 : am_vtok (am_cn 13) (52, 10, 132, 0) := ⟨am_m_X11_fault, rfl, by decide, am_q_X11_fault, am_tb6 (List.mem_of_getElem? (i := 12) rfl), ⟨am_tb6 (List.mem_of_getElem? (i := 11) rfl), rfl, am_tb6 (List.mem_of_getElem? (i := 13) rfl)⟩⟩
theorem am_vx_13_11 : am_vtok (am_cn 13) (55, 10, 136, 0) := ⟨am_m_X11_feed, rfl, by decide, am_q_X11_feed, am_tb6 (List.mem_of_getElem? (i := 28) rfl), ⟨am_tb6 (List.mem_of_getElem? (i := 27) rfl), rfl, am_tb6 (List.mem_of_getElem? (i := 29) rfl)⟩⟩
theorem am_vx_13_12 : am_vtok (am_cn 13) (59, 10, 137, 0) := ⟨am_m_X11_end, rfl, by decide, am_q_X11_end, am_tb6 (List.mem_of_getElem? (i := 36) rfl), ⟨am_tb6 (List.mem_of_getElem? (i := 35) rfl), rfl, am_tb6 (List.mem_of_getElem? (i := 37) rfl)⟩⟩
theorem am_vx_13_13 : am_vtok (am_cn 13) (62, 10, 138, 0) := ⟨am_m_X11_poke, rfl, by decide, am_q_X11_poke, am_tb6 (List.mem_of_getElem? (i := 44) rfl), ⟨am_tb6 (List.mem_of_getElem? (i := 43) rfl), rfl, am_tb6 (List.mem_of_getElem? (i := 45) rfl)⟩⟩
theorem am_vx_13_14 : am_vtok (am_cn 13) (65, 10, 139, 0) := ⟨am_m_X11_at, rfl, by decide, am_q_X11_at, am_tb6 (List.mem_of_getElem? (i := 54) rfl), ⟨am_tb6 (List.mem_of_getElem? (i := 53) rfl), rfl, am_tb6 (List.mem_of_getElem? (i := 55) rfl)⟩⟩
theorem am_vx_13_15 : am_vtok (am_cn 13) (69, 10, 140, 0) := ⟨am_m_X11_count, rfl, by decide, am_q_X11_count, am_tb6 (List.mem_of_getElem? (i := 62) rfl), ⟨am_tb6 (List.mem_of_getElem? (i := 61) rfl), rfl, am_tb6 (List.mem_of_getElem? (i := 63) rfl)⟩⟩
theorem am_vx_13_16 : am_vtok (am_cn 13) (83, 11, 157, 0) := ⟨am_m_X12_type, rfl, by decide, am_q_X12_type, am_tb6 (List.mem_of_getElem? (i := 195) rfl), ⟨am_tb6 (List.mem_of_getElem? (i := 194) rfl), rfl, am_tb6 (List.mem_of_getElem? (i := 196) rfl)⟩⟩
theorem am_vx_13_17 : am_vtok (am_cn 13) (87, 11, 158, 0) := ⟨am_m_X12_keep, rfl, by decide, am_q_X12_keep, am_tb6 (List.mem_of_getElem? (i := 208) rfl), ⟨am_tb6 (List.mem_of_getElem? (i := 207) rfl), rfl, am_tb6 (List.mem_of_getElem? (i := 209) rfl)⟩⟩
theorem am_vx_13_18 : am_vtok (am_cn 13) (91, 11, 159, 0) := ⟨am_m_X12_typed, rfl, by decide, am_q_X12_typed, am_tb6 (List.mem_of_getElem? (i := 212) rfl), ⟨am_tb6 (List.mem_of_getElem? (i := 211) rfl), rfl, am_tb6 (List.mem_of_getElem? (i := 213) rfl)⟩⟩
theorem am_vx_13_19 : am_vtok (am_cn 13) (95, 11, 176, 0) := ⟨am_m_X12_come, rfl, by decide, am_q_X12_come, am_tb7 (List.mem_of_getElem? (i := 5) rfl), ⟨am_tb7 (List.mem_of_getElem? (i := 4) rfl), rfl, am_tb7 (List.mem_of_getElem? (i := 6) rfl)⟩⟩
theorem am_vx_13_20 : am_vtok (am_cn 13) (98, 11, 177, 0) := ⟨am_m_X12_go, rfl, by decide, am_q_X12_go, am_tb7 (List.mem_of_getElem? (i := 48) rfl), ⟨am_tb7 (List.mem_of_getElem? (i := 47) rfl), rfl, am_tb7 (List.mem_of_getElem? (i := 49) rfl)⟩⟩
theorem am_vx_13_21 : am_vtok (am_cn 13) (102, 11, 178, 0) := ⟨am_m_X12_name, rfl, by decide, am_q_X12_name, am_tb7 (List.mem_of_getElem? (i := 52) rfl), ⟨am_tb7 (List.mem_of_getElem? (i := 51) rfl), rfl, am_tb7 (List.mem_of_getElem? (i := 53) rfl)⟩⟩
theorem am_vx_13_22 : am_vtok (am_cn 13) (105, 11, 179, 0) := ⟨am_m_X12_byteAt, rfl, by decide, am_q_X12_byteAt, am_tb7 (List.mem_of_getElem? (i := 57) rfl), ⟨am_tb7 (List.mem_of_getElem? (i := 56) rfl), rfl, am_tb7 (List.mem_of_getElem? (i := 58) rfl)⟩⟩
theorem am_vx_13_23 : am_vtok (am_cn 13) (106, 10, 128, 0) := ⟨am_m_X11_kind, rfl, by decide, am_q_X11_kind, am_tb2 (List.mem_of_getElem? (i := 122) rfl), ⟨am_tb2 (List.mem_of_getElem? (i := 121) rfl), rfl, am_tb2 (List.mem_of_getElem? (i := 123) rfl)⟩⟩
theorem am_vx_13_24 : am_vtok (am_cn 13) (110, 11, 181, 0) := ⟨am_m_X12_kind, rfl, by decide, am_q_X12_kind, am_tb7 (List.mem_of_getElem? (i := 61) rfl), ⟨am_tb7 (List.mem_of_getElem? (i := 60) rfl), rfl, am_tb7 (List.mem_of_getElem? (i := 62) rfl)⟩⟩
theorem am_vx_13_25 : am_vtok (am_cn 13) (113, 11, 185, 0) := ⟨am_m_X12_child, rfl, by decide, am_q_X12_child, am_tb7 (List.mem_of_getElem? (i := 69) rfl), ⟨am_tb7 (List.mem_of_getElem? (i := 68) rfl), rfl, am_tb7 (List.mem_of_getElem? (i := 70) rfl)⟩⟩
theorem am_vx_13_26 : am_vtok (am_cn 13) (116, 11, 256, 0) := ⟨am_m_X12_write, rfl, by decide, am_q_X12_write, am_tb8 (List.mem_of_getElem? (i := 79) rfl), ⟨am_tb8 (List.mem_of_getElem? (i := 78) rfl), rfl, am_tb8 (List.mem_of_getElem? (i := 80) rfl)⟩⟩
theorem am_vx_13_27 : am_vtok (am_cn 13) (119, 11, 214, 0) := ⟨am_m_X12_read, rfl, by decide, am_q_X12_read, am_tb7 (List.mem_of_getElem? (i := 86) rfl), ⟨am_tb7 (List.mem_of_getElem? (i := 85) rfl), rfl, am_tb7 (List.mem_of_getElem? (i := 87) rfl)⟩⟩
theorem am_vx_13_28 : am_vtok (am_cn 13) (122, 11, 166, 0) := ⟨am_m_X12_fault, rfl, by decide, am_q_X12_fault, am_tb7 (List.mem_of_getElem? (i := 1) rfl), ⟨am_tb7 (List.mem_of_getElem? (i := 0) rfl), rfl, am_tb7 (List.mem_of_getElem? (i := 2) rfl)⟩⟩
theorem am_vx_13_29 : am_vtok (am_cn 13) (123, 10, 133, 0) := ⟨am_m_X11_pack, rfl, by decide, am_q_X11_pack, am_tb2 (List.mem_of_getElem? (i := 157) rfl), ⟨am_tb2 (List.mem_of_getElem? (i := 156) rfl), rfl, am_tb2 (List.mem_of_getElem? (i := 158) rfl)⟩⟩
theorem am_vx_13_30 : am_vtok (am_cn 13) (126, 11, 239, 0) := ⟨am_m_X12_pack, rfl, by decide, am_q_X12_pack, am_tb8 (List.mem_of_getElem? (i := 51) rfl), ⟨am_tb8 (List.mem_of_getElem? (i := 50) rfl), rfl, am_tb8 (List.mem_of_getElem? (i := 52) rfl)⟩⟩
theorem am_vx_13_31 : am_vtok (am_cn 13) (127, 10, 134, 0) := ⟨am_m_X11_unpack, rfl, by decide, am_q_X11_unpack, am_tb2 (List.mem_of_getElem? (i := 214) rfl), ⟨am_tb2 (List.mem_of_getElem? (i := 213) rfl), rfl, am_tb2 (List.mem_of_getElem? (i := 215) rfl)⟩⟩
theorem am_vx_13_32 : am_vtok (am_cn 13) (130, 11, 230, 0) := ⟨am_m_X12_unpack, rfl, by decide, am_q_X12_unpack, am_tb8 (List.mem_of_getElem? (i := 43) rfl), ⟨am_tb8 (List.mem_of_getElem? (i := 42) rfl), rfl, am_tb8 (List.mem_of_getElem? (i := 44) rfl)⟩⟩
theorem am_vx_13_33 : am_vtok (am_cn 13) (131, 10, 135, 0) := ⟨am_m_X11_check, rfl, by decide, am_q_X11_check, am_tb3 (List.mem_of_getElem? (i := 66) rfl), ⟨am_tb3 (List.mem_of_getElem? (i := 65) rfl), rfl, am_tb3 (List.mem_of_getElem? (i := 67) rfl)⟩⟩
theorem am_vx_13_34 : am_vtok (am_cn 13) (134, 11, 232, 0) := ⟨am_m_X12_check, rfl, by decide, am_q_X12_check, am_tb8 (List.mem_of_getElem? (i := 47) rfl), ⟨am_tb8 (List.mem_of_getElem? (i := 46) rfl), rfl, am_tb8 (List.mem_of_getElem? (i := 48) rfl)⟩⟩
theorem am_vx_13_35 : am_vtok (am_cn 13) (138, 11, 161, 0) := ⟨am_m_X12_feed, rfl, by decide, am_q_X12_feed, am_tb6 (List.mem_of_getElem? (i := 216) rfl), ⟨am_tb6 (List.mem_of_getElem? (i := 215) rfl), rfl, am_tb6 (List.mem_of_getElem? (i := 217) rfl)⟩⟩
theorem am_vx_13_36 : am_vtok (am_cn 13) (141, 11, 162, 0) := ⟨am_m_X12_end, rfl, by decide, am_q_X12_end, am_tb6 (List.mem_of_getElem? (i := 224) rfl), ⟨am_tb6 (List.mem_of_getElem? (i := 223) rfl), rfl, am_tb6 (List.mem_of_getElem? (i := 225) rfl)⟩⟩
theorem am_vx_13_37 : am_vtok (am_cn 13) (144, 11, 163, 0) := ⟨am_m_X12_poke, rfl, by decide, am_q_X12_poke, am_tb6 (List.mem_of_getElem? (i := 228) rfl), ⟨am_tb6 (List.mem_of_getElem? (i := 227) rfl), rfl, am_tb6 (List.mem_of_getElem? (i := 229) rfl)⟩⟩
theorem am_vx_13_38 : am_vtok (am_cn 13) (147, 11, 164, 0) := ⟨am_m_X12_at, rfl, by decide, am_q_X12_at, am_tb6 (List.mem_of_getElem? (i := 232) rfl), ⟨am_tb6 (List.mem_of_getElem? (i := 231) rfl), rfl, am_tb6 (List.mem_of_getElem? (i := 233) rfl)⟩⟩
theorem am_vx_13_39 : am_vtok (am_cn 13) (150, 11, 165, 0) := ⟨am_m_X12_count, rfl, by decide, am_q_X12_count, am_tb6 (List.mem_of_getElem? (i := 236) rfl), ⟨am_tb6 (List.mem_of_getElem? (i := 235) rfl), rfl, am_tb6 (List.mem_of_getElem? (i := 237) rfl)⟩⟩
theorem am_vx_13_40 : am_vtok (am_cn 13) (151, 11, 153, 0) := ⟨am_m_X12_thrown, rfl, by decide, am_q_X12_thrown, am_tb6 (List.mem_of_getElem? (i := 191) rfl), ⟨am_tb6 (List.mem_of_getElem? (i := 190) rfl), rfl, am_tb6 (List.mem_of_getElem? (i := 192) rfl)⟩⟩
theorem am_vx_13 : ∀ e ∈ [(7, 10, 121, 0), (17, 10, 122, 0), (21, 10, 123, 0), (27, 10, 124, 0), (33, 10, 125, 0), (36, 10, 126, 0), (40, 10, 127, 0), (43, 10, 129, 0), (46, 10, 130, 0), (49, 10, 131, 0), (52, 10, 132, 0), (55, 10, 136, 0), (59, 10, 137, 0), (62, 10, 138, 0), (65, 10, 139, 0), (69, 10, 140, 0), (83, 11, 157, 0), (87, 11, 158, 0), (91, 11, 159, 0), (95, 11, 176, 0), (98, 11, 177, 0), (102, 11, 178, 0), (105, 11, 179, 0), (106, 10, 128, 0), (110, 11, 181, 0), (113, 11, 185, 0), (116, 11, 256, 0), (119, 11, 214, 0), (122, 11, 166, 0), (123, 10, 133, 0), (126, 11, 239, 0), (127, 10, 134, 0), (130, 11, 230, 0), (131, 10, 135, 0), (134, 11, 232, 0), (138, 11, 161, 0), (141, 11, 162, 0), (144, 11, 163, 0), (147, 11, 164, 0), (150, 11, 165, 0), (151, 11, 153, 0)], am_vtok (am_cn 13) e := List.forall_mem_cons.mpr ⟨am_vx_13_0, List.forall_mem_cons.mpr ⟨am_vx_13_1, List.forall_mem_cons.mpr ⟨am_vx_13_2, List.forall_mem_cons.mpr ⟨am_vx_13_3, List.forall_mem_cons.mpr ⟨am_vx_13_4, List.forall_mem_cons.mpr ⟨am_vx_13_5, List.forall_mem_cons.mpr ⟨am_vx_13_6, List.forall_mem_cons.mpr ⟨am_vx_13_7, List.forall_mem_cons.mpr ⟨am_vx_13_8, List.forall_mem_cons.mpr ⟨am_vx_13_9, List.forall_mem_cons.mpr ⟨am_vx_13_10, List.forall_mem_cons.mpr ⟨am_vx_13_11, List.forall_mem_cons.mpr ⟨am_vx_13_12, List.forall_mem_cons.mpr ⟨am_vx_13_13, List.forall_mem_cons.mpr ⟨am_vx_13_14, List.forall_mem_cons.mpr ⟨am_vx_13_15, List.forall_mem_cons.mpr ⟨am_vx_13_16, List.forall_mem_cons.mpr ⟨am_vx_13_17, List.forall_mem_cons.mpr ⟨am_vx_13_18, List.forall_mem_cons.mpr ⟨am_vx_13_19, List.forall_mem_cons.mpr ⟨am_vx_13_20, List.forall_mem_cons.mpr ⟨am_vx_13_21, List.forall_mem_cons.mpr ⟨am_vx_13_22, List.forall_mem_cons.mpr ⟨am_vx_13_23, List.forall_mem_cons.mpr ⟨am_vx_13_24, List.forall_mem_cons.mpr ⟨am_vx_13_25, List.forall_mem_cons.mpr ⟨am_vx_13_26, List.forall_mem_cons.mpr ⟨am_vx_13_27, List.forall_mem_cons.mpr ⟨am_vx_13_28, List.forall_mem_cons.mpr ⟨am_vx_13_29, List.forall_mem_cons.mpr ⟨am_vx_13_30, List.forall_mem_cons.mpr ⟨am_vx_13_31, List.forall_mem_cons.mpr ⟨am_vx_13_32, List.forall_mem_cons.mpr ⟨am_vx_13_33, List.forall_mem_cons.mpr ⟨am_vx_13_34, List.forall_mem_cons.mpr ⟨am_vx_13_35, List.forall_mem_cons.mpr ⟨am_vx_13_36, List.forall_mem_cons.mpr ⟨am_vx_13_37, List.forall_mem_cons.mpr ⟨am_vx_13_38, List.forall_mem_cons.mpr ⟨am_vx_13_39, List.forall_mem_cons.mpr ⟨am_vx_13_40, fun _ h => absurd h List.not_mem_nil⟩⟩⟩⟩⟩⟩⟩⟩⟩⟩⟩⟩⟩⟩⟩⟩⟩⟩⟩⟩⟩⟩⟩⟩⟩⟩⟩⟩⟩⟩⟩⟩⟩⟩⟩⟩⟩⟩⟩⟩⟩
theorem am_vx_all : ∀ o, o < 17 → ∀ e ∈ am_vt o, am_vtok (am_cn o) e := by
  intro o ho
  match o, ho with
  | 0, _ => exact am_vx_0
  | 1, _ => exact am_vx_1
  | 2, _ => exact am_vx_2
  | 3, _ => exact am_vx_3
  | 4, _ => exact am_vx_4
  | 5, _ => exact am_vx_5
  | 6, _ => exact fun _ h => absurd h List.not_mem_nil
  | 7, _ => exact fun _ h => absurd h List.not_mem_nil
  | 8, _ => exact am_vx_8
  | 9, _ => exact am_vx_9
  | 10, _ => exact am_vx_10
  | 11, _ => exact am_vx_11
  | 12, _ => exact am_vx_12
  | 13, _ => exact am_vx_13
  | 14, _ => exact fun _ h => absurd h List.not_mem_nil
  | 15, _ => exact fun _ h => absurd h List.not_mem_nil
  | 16, _ => exact fun _ h => absurd h List.not_mem_nil
  | n + 17, h => exact absurd h (by omega)
theorem am_sx_0_0 : am_sstok (am_cn 0) (38, 142, 1) := ⟨am_m_X11_isName, rfl, am_q_X11_isName, am_tb3 (List.mem_of_getElem? (i := 217) rfl), am_tb5 (List.mem_of_getElem? (i := 124) rfl)⟩
theorem am_sx_0 : ∀ e ∈ [(38, 142, 1)], am_sstok (am_cn 0) e := List.forall_mem_cons.mpr ⟨am_sx_0_0, fun _ h => absurd h List.not_mem_nil⟩
theorem am_sx_1_0 : am_sstok (am_cn 1) (42, 147, 1) := ⟨am_m_X11_roundedUp, rfl, am_q_X11_roundedUp, am_tb4 (List.mem_of_getElem? (i := 203) rfl), am_tb4 (List.mem_of_getElem? (i := 202) rfl)⟩
theorem am_sx_1 : ∀ e ∈ [(42, 147, 1)], am_sstok (am_cn 1) e := List.forall_mem_cons.mpr ⟨am_sx_1_0, fun _ h => absurd h List.not_mem_nil⟩
theorem am_sx_4_0 : am_sstok (am_cn 4) (47, 147, 1) := ⟨am_m_X11_roundedUp, rfl, am_q_X11_roundedUp, am_tb4 (List.mem_of_getElem? (i := 203) rfl), am_tb4 (List.mem_of_getElem? (i := 231) rfl)⟩
theorem am_sx_4_1 : am_sstok (am_cn 4) (86, 59, 0) := ⟨am_m_X4_digit, rfl, am_q_X4_digit, am_tb5 (List.mem_of_getElem? (i := 146) rfl), am_tb5 (List.mem_of_getElem? (i := 145) rfl)⟩
theorem am_sx_4_2 : am_sstok (am_cn 4) (104, 57, 0) := ⟨am_m_X4_sortBits, rfl, am_q_X4_sortBits, am_tb5 (List.mem_of_getElem? (i := 182) rfl), am_tb5 (List.mem_of_getElem? (i := 181) rfl)⟩
theorem am_sx_4 : ∀ e ∈ [(47, 147, 1), (86, 59, 0), (104, 57, 0)], am_sstok (am_cn 4) e := List.forall_mem_cons.mpr ⟨am_sx_4_0, List.forall_mem_cons.mpr ⟨am_sx_4_1, List.forall_mem_cons.mpr ⟨am_sx_4_2, fun _ h => absurd h List.not_mem_nil⟩⟩⟩
theorem am_sx_5_0 : am_sstok (am_cn 5) (157, 146, 1) := ⟨am_m_X11_checkOf, rfl, am_q_X11_checkOf, am_tb3 (List.mem_of_getElem? (i := 70) rfl), am_tb5 (List.mem_of_getElem? (i := 16) rfl)⟩
theorem am_sx_5_1 : am_sstok (am_cn 5) (199, 75, 0) := ⟨am_m_X5_titleBytes, rfl, am_q_X5_titleBytes, am_tb5 (List.mem_of_getElem? (i := 18) rfl), am_tb5 (List.mem_of_getElem? (i := 17) rfl)⟩
theorem am_sx_5 : ∀ e ∈ [(157, 146, 1), (199, 75, 0)], am_sstok (am_cn 5) e := List.forall_mem_cons.mpr ⟨am_sx_5_0, List.forall_mem_cons.mpr ⟨am_sx_5_1, fun _ h => absurd h List.not_mem_nil⟩⟩
theorem am_sx_8_0 : am_sstok (am_cn 8) (42, 149, 1) := ⟨am_m_X11_lengthBase, rfl, am_q_X11_lengthBase, am_tb2 (List.mem_of_getElem? (i := 188) rfl), am_tb2 (List.mem_of_getElem? (i := 187) rfl)⟩
theorem am_sx_8_1 : am_sstok (am_cn 8) (47, 148, 1) := ⟨am_m_X11_lengthBits, rfl, am_q_X11_lengthBits, am_tb2 (List.mem_of_getElem? (i := 191) rfl), am_tb2 (List.mem_of_getElem? (i := 201) rfl)⟩
theorem am_sx_8_2 : am_sstok (am_cn 8) (59, 151, 1) := ⟨am_m_X11_distanceBase, rfl, am_q_X11_distanceBase, am_tb2 (List.mem_of_getElem? (i := 207) rfl), am_tb2 (List.mem_of_getElem? (i := 206) rfl)⟩
theorem am_sx_8_3 : am_sstok (am_cn 8) (62, 150, 1) := ⟨am_m_X11_distanceBits, rfl, am_q_X11_distanceBits, am_tb2 (List.mem_of_getElem? (i := 210) rfl), am_tb2 (List.mem_of_getElem? (i := 212) rfl)⟩
theorem am_sx_8 : ∀ e ∈ [(42, 149, 1), (47, 148, 1), (59, 151, 1), (62, 150, 1)], am_sstok (am_cn 8) e := List.forall_mem_cons.mpr ⟨am_sx_8_0, List.forall_mem_cons.mpr ⟨am_sx_8_1, List.forall_mem_cons.mpr ⟨am_sx_8_2, List.forall_mem_cons.mpr ⟨am_sx_8_3, fun _ h => absurd h List.not_mem_nil⟩⟩⟩⟩
theorem am_sx_9_0 : am_sstok (am_cn 9) (68, 144, 1) := ⟨am_m_X11_partBehind, rfl, am_q_X11_partBehind, am_tb4 (List.mem_of_getElem? (i := 66) rfl), am_tb4 (List.mem_of_getElem? (i := 65) rfl)⟩
theorem am_sx_9_1 : am_sstok (am_cn 9) (71, 105, 0) := ⟨am_m_X9_isSamePart, rfl, am_q_X9_isSamePart, am_tb4 (List.mem_of_getElem? (i := 69) rfl), am_tb4 (List.mem_of_getElem? (i := 68) rfl)⟩
theorem am_sx_9_2 : am_sstok (am_cn 9) (75, 145, 1) := ⟨am_m_X11_partLength, rfl, am_q_X11_partLength, am_tb4 (List.mem_of_getElem? (i := 72) rfl), am_tb4 (List.mem_of_getElem? (i := 71) rfl)⟩
theorem am_sx_9 : ∀ e ∈ [(68, 144, 1), (71, 105, 0), (75, 145, 1)], am_sstok (am_cn 9) e := List.forall_mem_cons.mpr ⟨am_sx_9_0, List.forall_mem_cons.mpr ⟨am_sx_9_1, List.forall_mem_cons.mpr ⟨am_sx_9_2, fun _ h => absurd h List.not_mem_nil⟩⟩⟩
theorem am_sx_10_0 : am_sstok (am_cn 10) (157, 148, 1) := ⟨am_m_X11_lengthBits, rfl, am_q_X11_lengthBits, am_tb2 (List.mem_of_getElem? (i := 191) rfl), am_tb3 (List.mem_of_getElem? (i := 27) rfl)⟩
theorem am_sx_10_1 : am_sstok (am_cn 10) (160, 150, 1) := ⟨am_m_X11_distanceBits, rfl, am_q_X11_distanceBits, am_tb2 (List.mem_of_getElem? (i := 210) rfl), am_tb3 (List.mem_of_getElem? (i := 28) rfl)⟩
theorem am_sx_10_2 : am_sstok (am_cn 10) (163, 149, 1) := ⟨am_m_X11_lengthBase, rfl, am_q_X11_lengthBase, am_tb2 (List.mem_of_getElem? (i := 188) rfl), am_tb3 (List.mem_of_getElem? (i := 29) rfl)⟩
theorem am_sx_10_3 : am_sstok (am_cn 10) (166, 151, 1) := ⟨am_m_X11_distanceBase, rfl, am_q_X11_distanceBase, am_tb2 (List.mem_of_getElem? (i := 207) rfl), am_tb3 (List.mem_of_getElem? (i := 30) rfl)⟩
theorem am_sx_10 : ∀ e ∈ [(157, 148, 1), (160, 150, 1), (163, 149, 1), (166, 151, 1)], am_sstok (am_cn 10) e := List.forall_mem_cons.mpr ⟨am_sx_10_0, List.forall_mem_cons.mpr ⟨am_sx_10_1, List.forall_mem_cons.mpr ⟨am_sx_10_2, List.forall_mem_cons.mpr ⟨am_sx_10_3, fun _ h => absurd h List.not_mem_nil⟩⟩⟩⟩
theorem am_sx_11_0 : am_sstok (am_cn 11) (121, 142, 0) := ⟨am_m_X11_isName, rfl, am_q_X11_isName, am_tb3 (List.mem_of_getElem? (i := 217) rfl), am_tb3 (List.mem_of_getElem? (i := 216) rfl)⟩
theorem am_sx_11_1 : am_sstok (am_cn 11) (189, 144, 0) := ⟨am_m_X11_partBehind, rfl, am_q_X11_partBehind, am_tb4 (List.mem_of_getElem? (i := 66) rfl), am_tb4 (List.mem_of_getElem? (i := 80) rfl)⟩
theorem am_sx_11_2 : am_sstok (am_cn 11) (192, 145, 0) := ⟨am_m_X11_partLength, rfl, am_q_X11_partLength, am_tb4 (List.mem_of_getElem? (i := 72) rfl), am_tb4 (List.mem_of_getElem? (i := 81) rfl)⟩
theorem am_sx_11_3 : am_sstok (am_cn 11) (230, 146, 0) := ⟨am_m_X11_checkOf, rfl, am_q_X11_checkOf, am_tb3 (List.mem_of_getElem? (i := 70) rfl), am_tb3 (List.mem_of_getElem? (i := 69) rfl)⟩
theorem am_sx_11_4 : am_sstok (am_cn 11) (247, 143, 0) := ⟨am_m_X11_isPart, rfl, am_q_X11_isPart, am_tb3 (List.mem_of_getElem? (i := 220) rfl), am_tb3 (List.mem_of_getElem? (i := 219) rfl)⟩
theorem am_sx_11_5 : am_sstok (am_cn 11) (252, 148, 0) := ⟨am_m_X11_lengthBits, rfl, am_q_X11_lengthBits, am_tb2 (List.mem_of_getElem? (i := 191) rfl), am_tb2 (List.mem_of_getElem? (i := 190) rfl)⟩
theorem am_sx_11_6 : am_sstok (am_cn 11) (255, 150, 0) := ⟨am_m_X11_distanceBits, rfl, am_q_X11_distanceBits, am_tb2 (List.mem_of_getElem? (i := 210) rfl), am_tb2 (List.mem_of_getElem? (i := 209) rfl)⟩
theorem am_sx_11 : ∀ e ∈ [(121, 142, 0), (189, 144, 0), (192, 145, 0), (230, 146, 0), (247, 143, 0), (252, 148, 0), (255, 150, 0)], am_sstok (am_cn 11) e := List.forall_mem_cons.mpr ⟨am_sx_11_0, List.forall_mem_cons.mpr ⟨am_sx_11_1, List.forall_mem_cons.mpr ⟨am_sx_11_2, List.forall_mem_cons.mpr ⟨am_sx_11_3, List.forall_mem_cons.mpr ⟨am_sx_11_4, List.forall_mem_cons.mpr ⟨am_sx_11_5, List.forall_mem_cons.mpr ⟨am_sx_11_6, fun _ h => absurd h List.not_mem_nil⟩⟩⟩⟩⟩⟩⟩
theorem am_sx_12_0 : am_sstok (am_cn 12) (74, 154, 0) := ⟨am_m_X12_in, rfl, am_q_X12_in, am_tb6 (List.mem_of_getElem? (i := 200) rfl), am_tb6 (List.mem_of_getElem? (i := 199) rfl)⟩
theorem am_sx_12_1 : am_sstok (am_cn 12) (231, 198, 0) := ⟨am_m_X12_digitOf, rfl, am_q_X12_digitOf, am_tb7 (List.mem_of_getElem? (i := 150) rfl), am_tb7 (List.mem_of_getElem? (i := 149) rfl)⟩
theorem am_sx_12_2 : am_sstok (am_cn 12) (241, 201, 0) := ⟨am_m_X12_trailerAt, rfl, am_q_X12_trailerAt, am_tb7 (List.mem_of_getElem? (i := 168) rfl), am_tb7 (List.mem_of_getElem? (i := 167) rfl)⟩
theorem am_sx_12_3 : am_sstok (am_cn 12) (254, 203, 0) := ⟨am_m_X12_upToFour, rfl, am_q_X12_upToFour, am_tb7 (List.mem_of_getElem? (i := 173) rfl), am_tb7 (List.mem_of_getElem? (i := 172) rfl)⟩
theorem am_sx_12_4 : am_sstok (am_cn 12) (285, 231, 0) := ⟨am_m_X12_checkMore, rfl, am_q_X12_checkMore, am_tb8 (List.mem_of_getElem? (i := 39) rfl), am_tb8 (List.mem_of_getElem? (i := 38) rfl)⟩
theorem am_sx_12 : ∀ e ∈ [(74, 154, 0), (231, 198, 0), (241, 201, 0), (254, 203, 0), (285, 231, 0)], am_sstok (am_cn 12) e := List.forall_mem_cons.mpr ⟨am_sx_12_0, List.forall_mem_cons.mpr ⟨am_sx_12_1, List.forall_mem_cons.mpr ⟨am_sx_12_2, List.forall_mem_cons.mpr ⟨am_sx_12_3, List.forall_mem_cons.mpr ⟨am_sx_12_4, fun _ h => absurd h List.not_mem_nil⟩⟩⟩⟩⟩
theorem am_sx_all : ∀ o, o < 17 → ∀ e ∈ am_sst o, am_sstok (am_cn o) e := by
  intro o ho
  match o, ho with
  | 0, _ => exact am_sx_0
  | 1, _ => exact am_sx_1
  | 2, _ => exact fun _ h => absurd h List.not_mem_nil
  | 3, _ => exact fun _ h => absurd h List.not_mem_nil
  | 4, _ => exact am_sx_4
  | 5, _ => exact am_sx_5
  | 6, _ => exact fun _ h => absurd h List.not_mem_nil
  | 7, _ => exact fun _ h => absurd h List.not_mem_nil
  | 8, _ => exact am_sx_8
  | 9, _ => exact am_sx_9
  | 10, _ => exact am_sx_10
  | 11, _ => exact am_sx_11
  | 12, _ => exact am_sx_12
  | 13, _ => exact fun _ h => absurd h List.not_mem_nil
  | 14, _ => exact fun _ h => absurd h List.not_mem_nil
  | 15, _ => exact fun _ h => absurd h List.not_mem_nil
  | 16, _ => exact fun _ h => absurd h List.not_mem_nil
  | n + 17, h => exact absurd h (by omega)
theorem am_px_1_0 : am_sptok (am_cn 1) (3, 0, 0) := ⟨am_m_X0_init, rfl, am_q_X0_init, am_tb1 (List.mem_of_getElem? (i := 193) rfl), ⟨rfl, rfl⟩, am_tb1 (List.mem_of_getElem? (i := 192) rfl)⟩
theorem am_px_1 : ∀ e ∈ [(3, 0, 0)], am_sptok (am_cn 1) e := List.forall_mem_cons.mpr ⟨am_px_1_0, fun _ h => absurd h List.not_mem_nil⟩
theorem am_px_4_0 : am_sptok (am_cn 4) (3, 0, 0) := ⟨am_m_X0_init, rfl, am_q_X0_init, am_tb1 (List.mem_of_getElem? (i := 193) rfl), ⟨rfl, rfl⟩, am_tb1 (List.mem_of_getElem? (i := 229) rfl)⟩
theorem am_px_4 : ∀ e ∈ [(3, 0, 0)], am_sptok (am_cn 4) e := List.forall_mem_cons.mpr ⟨am_px_4_0, fun _ h => absurd h List.not_mem_nil⟩
theorem am_px_5_0 : am_sptok (am_cn 5) (3, 0, 0) := ⟨am_m_X0_init, rfl, am_q_X0_init, am_tb1 (List.mem_of_getElem? (i := 193) rfl), ⟨rfl, rfl⟩, am_tb1 (List.mem_of_getElem? (i := 239) rfl)⟩
theorem am_px_5 : ∀ e ∈ [(3, 0, 0)], am_sptok (am_cn 5) e := List.forall_mem_cons.mpr ⟨am_px_5_0, fun _ h => absurd h List.not_mem_nil⟩
theorem am_px_7_0 : am_sptok (am_cn 7) (11, 23, 0) := ⟨am_m_X2_init, rfl, am_q_X2_init, am_tb1 (List.mem_of_getElem? (i := 37) rfl), ⟨rfl, rfl⟩, am_tb2 (List.mem_of_getElem? (i := 57) rfl)⟩
theorem am_px_7 : ∀ e ∈ [(11, 23, 0)], am_sptok (am_cn 7) e := List.forall_mem_cons.mpr ⟨am_px_7_0, fun _ h => absurd h List.not_mem_nil⟩
theorem am_px_9_0 : am_sptok (am_cn 9) (17, 83, 1) := ⟨am_m_X7_init, rfl, am_q_X7_init, am_tb2 (List.mem_of_getElem? (i := 53) rfl), ⟨rfl, rfl⟩, am_tb2 (List.mem_of_getElem? (i := 52) rfl)⟩
theorem am_px_9 : ∀ e ∈ [(17, 83, 1)], am_sptok (am_cn 9) e := List.forall_mem_cons.mpr ⟨am_px_9_0, fun _ h => absurd h List.not_mem_nil⟩
theorem am_px_10_0 : am_sptok (am_cn 10) (24, 40, 0) := ⟨am_m_X3_init, rfl, am_q_X3_init, am_tb1 (List.mem_of_getElem? (i := 89) rfl), ⟨rfl, rfl⟩, am_tb1 (List.mem_of_getElem? (i := 88) rfl)⟩
theorem am_px_10 : ∀ e ∈ [(24, 40, 0)], am_sptok (am_cn 10) e := List.forall_mem_cons.mpr ⟨am_px_10_0, fun _ h => absurd h List.not_mem_nil⟩
theorem am_px_11_0 : am_sptok (am_cn 11) (11, 23, 0) := ⟨am_m_X2_init, rfl, am_q_X2_init, am_tb1 (List.mem_of_getElem? (i := 37) rfl), ⟨rfl, rfl⟩, am_tb1 (List.mem_of_getElem? (i := 36) rfl)⟩
theorem am_px_11_1 : am_sptok (am_cn 11) (29, 78, 0) := ⟨am_m_X6_init, rfl, am_q_X6_init, am_tb1 (List.mem_of_getElem? (i := 51) rfl), ⟨rfl, rfl⟩, am_tb1 (List.mem_of_getElem? (i := 50) rfl)⟩
theorem am_px_11_2 : am_sptok (am_cn 11) (36, 84, 0) := ⟨am_m_X8_init, rfl, am_q_X8_init, am_tb1 (List.mem_of_getElem? (i := 64) rfl), ⟨rfl, rfl⟩, am_tb1 (List.mem_of_getElem? (i := 63) rfl)⟩
theorem am_px_11_3 : am_sptok (am_cn 11) (45, 106, 0) := ⟨am_m_X10_init, rfl, am_q_X10_init, am_tb1 (List.mem_of_getElem? (i := 83) rfl), ⟨rfl, rfl⟩, am_tb1 (List.mem_of_getElem? (i := 82) rfl)⟩
theorem am_px_11_4 : am_sptok (am_cn 11) (56, 7, 0) := ⟨am_m_X1_init, rfl, am_q_X1_init, am_tb1 (List.mem_of_getElem? (i := 190) rfl), ⟨rfl, rfl⟩, am_tb1 (List.mem_of_getElem? (i := 189) rfl)⟩
theorem am_px_11_5 : am_sptok (am_cn 11) (59, 49, 0) := ⟨am_m_X4_init, rfl, am_q_X4_init, am_tb1 (List.mem_of_getElem? (i := 227) rfl), ⟨rfl, rfl⟩, am_tb1 (List.mem_of_getElem? (i := 226) rfl)⟩
theorem am_px_11_6 : am_sptok (am_cn 11) (62, 64, 0) := ⟨am_m_X5_init, rfl, am_q_X5_init, am_tb1 (List.mem_of_getElem? (i := 237) rfl), ⟨rfl, rfl⟩, am_tb1 (List.mem_of_getElem? (i := 236) rfl)⟩
theorem am_px_11_7 : am_sptok (am_cn 11) (71, 92, 0) := ⟨am_m_X9_init, rfl, am_q_X9_init, am_tb2 (List.mem_of_getElem? (i := 46) rfl), ⟨rfl, rfl⟩, am_tb2 (List.mem_of_getElem? (i := 45) rfl)⟩
theorem am_px_11 : ∀ e ∈ [(11, 23, 0), (29, 78, 0), (36, 84, 0), (45, 106, 0), (56, 7, 0), (59, 49, 0), (62, 64, 0), (71, 92, 0)], am_sptok (am_cn 11) e := List.forall_mem_cons.mpr ⟨am_px_11_0, List.forall_mem_cons.mpr ⟨am_px_11_1, List.forall_mem_cons.mpr ⟨am_px_11_2, List.forall_mem_cons.mpr ⟨am_px_11_3, List.forall_mem_cons.mpr ⟨am_px_11_4, List.forall_mem_cons.mpr ⟨am_px_11_5, List.forall_mem_cons.mpr ⟨am_px_11_6, List.forall_mem_cons.mpr ⟨am_px_11_7, fun _ h => absurd h List.not_mem_nil⟩⟩⟩⟩⟩⟩⟩⟩
theorem am_px_13_0 : am_sptok (am_cn 13) (72, 120, 0) := ⟨am_m_X11_init, rfl, am_q_X11_init, am_tb1 (List.mem_of_getElem? (i := 29) rfl), ⟨rfl, rfl⟩, am_tb1 (List.mem_of_getElem? (i := 28) rfl)⟩
theorem am_px_13_1 : am_sptok (am_cn 13) (75, 152, 0) := ⟨am_m_X12_init, rfl, am_q_X12_init, am_tb6 (List.mem_of_getElem? (i := 68) rfl), ⟨rfl, rfl⟩, am_tb6 (List.mem_of_getElem? (i := 67) rfl)⟩
theorem am_px_13 : ∀ e ∈ [(72, 120, 0), (75, 152, 0)], am_sptok (am_cn 13) e := List.forall_mem_cons.mpr ⟨am_px_13_0, List.forall_mem_cons.mpr ⟨am_px_13_1, fun _ h => absurd h List.not_mem_nil⟩⟩
theorem am_px_all : ∀ o, o < 17 → ∀ e ∈ am_spt o, am_sptok (am_cn o) e := by
  intro o ho
  match o, ho with
  | 0, _ => exact fun _ h => absurd h List.not_mem_nil
  | 1, _ => exact am_px_1
  | 2, _ => exact fun _ h => absurd h List.not_mem_nil
  | 3, _ => exact fun _ h => absurd h List.not_mem_nil
  | 4, _ => exact am_px_4
  | 5, _ => exact am_px_5
  | 6, _ => exact fun _ h => absurd h List.not_mem_nil
  | 7, _ => exact am_px_7
  | 8, _ => exact fun _ h => absurd h List.not_mem_nil
  | 9, _ => exact am_px_9
  | 10, _ => exact am_px_10
  | 11, _ => exact am_px_11
  | 12, _ => exact fun _ h => absurd h List.not_mem_nil
  | 13, _ => exact am_px_13
  | 14, _ => exact fun _ h => absurd h List.not_mem_nil
  | 15, _ => exact fun _ h => absurd h List.not_mem_nil
  | 16, _ => exact fun _ h => absurd h List.not_mem_nil
  | n + 17, h => exact absurd h (by omega)
theorem am_oi_all : (List.range 17).all (fun o => (am_oi o).all (am_oiok (am_cn o))) = true := by decide +kernel
theorem am_obj : Cond.instanceMethod objectInit ∈ lw_tbl ∧ Cond.code objectInit ⟨#[0xb1]⟩ 1 none ∈ lw_tbl := ⟨am_tb1 (List.mem_of_getElem? (i := 32) rfl), am_tb1 (List.mem_of_getElem? (i := 33) rfl)⟩
