/-! THE METHODS, AND WHAT THEIR CALLS ARE -/
abbrev am_M : Type := (Nat × Nat × Bool × Nat × Nat × (Nat → Option (Instr × Nat))) × ByteArray × Option FieldType × MethodName × Nat
theorem am_okOf {b : ByteArray} {t : Nat → Option (Instr × Nat)} {n : Nat} (hd : am_dok b t n = true) (hn : ∀ pc, Nat.blt pc n = false → t pc = none) : ∀ (pc : Nat) (x : Instr × Nat), t pc = some x → decode b pc = .ok x ∧ (am_len x.1 = 0 ∨ x.2 = am_len x.1) := by
  intro pc x hx
  cases hb : Nat.blt pc n with
  | false => rw [hn pc hb] at hx; cases hx
  | true =>
    unfold am_dok at hd
    have h1 := List.all_eq_true.mp hd pc (List.mem_range.mpr (Nat.blt_eq.mp hb))
    simp only [hx, Bool.and_eq_true, Bool.or_eq_true] at h1
    exact ⟨of_decide_eq_true h1.1, h1.2.imp Nat.eq_of_beq_eq_true Nat.eq_of_beq_eq_true⟩
def am_ok (M : am_M) : Prop := ∀ (pc : Nat) (x : Instr × Nat), M.1.2.2.2.2.2 pc = some x → decode M.2.1 pc = .ok x ∧ (am_len x.1 = 0 ∨ x.2 = am_len x.1)
theorem am_tb1 {w : Cond} (h : w ∈ tables_1_1) : w ∈ lw_tbl := List.mem_append_right _ (List.mem_append_left _ h)
theorem am_tb2 {w : Cond} (h : w ∈ tables_1_2) : w ∈ lw_tbl := List.mem_append_right _ (List.mem_append_right _ (List.mem_append_left _ h))
theorem am_tb3 {w : Cond} (h : w ∈ tables_1_3) : w ∈ lw_tbl := List.mem_append_right _ (List.mem_append_right _ (List.mem_append_right _ (List.mem_append_left _ h)))
theorem am_tb4 {w : Cond} (h : w ∈ tables_1_4) : w ∈ lw_tbl := List.mem_append_right _ (List.mem_append_right _ (List.mem_append_right _ (List.mem_append_right _ (List.mem_append_left _ h))))
theorem am_tb5 {w : Cond} (h : w ∈ tables_1_5) : w ∈ lw_tbl := List.mem_append_right _ (List.mem_append_right _ (List.mem_append_right _ (List.mem_append_right _ (List.mem_append_right _ (List.mem_append_left _ h)))))
theorem am_tb6 {w : Cond} (h : w ∈ tables_1_6) : w ∈ lw_tbl := List.mem_append_right _ (List.mem_append_right _ (List.mem_append_right _ (List.mem_append_right _ (List.mem_append_right _ (List.mem_append_right _ (List.mem_append_left _ h))))))
theorem am_tb7 {w : Cond} (h : w ∈ tables_1_7) : w ∈ lw_tbl := List.mem_append_right _ (List.mem_append_right _ (List.mem_append_right _ (List.mem_append_right _ (List.mem_append_right _ (List.mem_append_right _ (List.mem_append_right _ (List.mem_append_left _ h)))))))
theorem am_tb8 {w : Cond} (h : w ∈ tables_1_8) : w ∈ lw_tbl := List.mem_append_right _ (List.mem_append_right _ (List.mem_append_right _ (List.mem_append_right _ (List.mem_append_right _ (List.mem_append_right _ (List.mem_append_right _ (List.mem_append_right _ h)))))))
theorem am_tb0 {w : Cond} (h : w ∈ k2_sels lw_privs) : w ∈ lw_tbl := List.mem_append_left _ h
theorem am_k0 : ∀ (pc : Nat) (x : Instr × Nat), am_c0 pc = some x → decode cX0_init pc = .ok x ∧ (am_len x.1 = 0 ∨ x.2 = am_len x.1) := am_okOf am_c0_ok (fun pc h => by unfold am_c0; rw [h]; rfl)
def am_m0 : am_M := ((0, 4, true, 1, 20, am_c0), cX0_init, none, yX0_init, 3)
theorem am_k1 : ∀ (pc : Nat) (x : Instr × Nat), am_c1 pc = some x → decode cX0_reaches pc = .ok x ∧ (am_len x.1 = 0 ∨ x.2 = am_len x.1) := am_okOf am_c1_ok (fun pc h => by unfold am_c1; rw [h]; rfl)
def am_m1 : am_M := ((0, 2, false, 1, 22, am_c1), cX0_reaches, (some .boolean), yX0_reaches, 1)
theorem am_k2 : ∀ (pc : Nat) (x : Instr × Nat), am_c2 pc = some x → decode cX0_isMarked pc = .ok x ∧ (am_len x.1 = 0 ∨ x.2 = am_len x.1) := am_okOf am_c2_ok (fun pc h => by unfold am_c2; rw [h]; rfl)
def am_m2 : am_M := ((0, 5, false, 1, 22, am_c2), cX0_isMarked, (some .boolean), yX0_isMarked, 3)
theorem am_k3 : ∀ (pc : Nat) (x : Instr × Nat), am_c3 pc = some x → decode cX0_isZeroFrom pc = .ok x ∧ (am_len x.1 = 0 ∨ x.2 = am_len x.1) := am_okOf am_c3_ok (fun pc h => by unfold am_c3; rw [h]; rfl)
def am_m3 : am_M := ((0, 3, false, 1, 22, am_c3), cX0_isZeroFrom, (some .boolean), yX0_isZeroFrom, 1)
theorem am_k4 : ∀ (pc : Nat) (x : Instr × Nat), am_c4 pc = some x → decode cX0_isNamed pc = .ok x ∧ (am_len x.1 = 0 ∨ x.2 = am_len x.1) := am_okOf am_c4_ok (fun pc h => by unfold am_c4; rw [h]; rfl)
def am_m4 : am_M := ((0, 2, false, 3, 67, am_c4), cX0_isNamed, (some .boolean), yX0_isNamed, 1)
theorem am_k5 : ∀ (pc : Nat) (x : Instr × Nat), am_c5 pc = some x → decode cX0_arrives pc = .ok x ∧ (am_len x.1 = 0 ∨ x.2 = am_len x.1) := am_okOf am_c5_ok (fun pc h => by unfold am_c5; rw [h]; rfl)
def am_m5 : am_M := ((0, 7, false, 4, 92, am_c5), cX0_arrives, (some .boolean), yX0_arrives, 6)
theorem am_k6 : ∀ (pc : Nat) (x : Instr × Nat), am_c6 pc = some x → decode cX0_addTitle pc = .ok x ∧ (am_len x.1 = 0 ∨ x.2 = am_len x.1) := am_okOf am_c6_ok (fun pc h => by unfold am_c6; rw [h]; rfl)
def am_m6 : am_M := ((0, 3, false, 2, 45, am_c6), cX0_addTitle, none, yX0_addTitle, 2)
theorem am_k7 : ∀ (pc : Nat) (x : Instr × Nat), am_c7 pc = some x → decode cX1_init pc = .ok x ∧ (am_len x.1 = 0 ∨ x.2 = am_len x.1) := am_okOf am_c7_ok (fun pc h => by unfold am_c7; rw [h]; rfl)
def am_m7 : am_M := ((1, 4, true, 2, 43, am_c7), cX1_init, none, yX1_init, 3)
theorem am_k8 : ∀ (pc : Nat) (x : Instr × Nat), am_c8 pc = some x → decode cX1_takeIn pc = .ok x ∧ (am_len x.1 = 0 ∨ x.2 = am_len x.1) := am_okOf am_c8_ok (fun pc h => by unfold am_c8; rw [h]; rfl)
def am_m8 : am_M := ((1, 8, false, 5, 118, am_c8), cX1_takeIn, (some .boolean), yX1_takeIn, 1)
theorem am_k9 : ∀ (pc : Nat) (x : Instr × Nat), am_c9 pc = some x → decode cX1_isEmptyBlock pc = .ok x ∧ (am_len x.1 = 0 ∨ x.2 = am_len x.1) := am_okOf am_c9_ok (fun pc h => by unfold am_c9; rw [h]; rfl)
def am_m9 : am_M := ((1, 3, false, 1, 21, am_c9), cX1_isEmptyBlock, (some .boolean), yX1_isEmptyBlock, 1)
theorem am_k10 : ∀ (pc : Nat) (x : Instr × Nat), am_c10 pc = some x → decode cX1_isHead pc = .ok x ∧ (am_len x.1 = 0 ∨ x.2 = am_len x.1) := am_okOf am_c10_ok (fun pc h => by unfold am_c10; rw [h]; rfl)
def am_m10 : am_M := ((1, 2, false, 3, 69, am_c10), cX1_isHead, (some .boolean), yX1_isHead, 1)
theorem am_k11 : ∀ (pc : Nat) (x : Instr × Nat), am_c11 pc = some x → decode cX1_isSummed pc = .ok x ∧ (am_len x.1 = 0 ∨ x.2 = am_len x.1) := am_okOf am_c11_ok (fun pc h => by unfold am_c11; rw [h]; rfl)
def am_m11 : am_M := ((1, 2, false, 2, 46, am_c11), cX1_isSummed, (some .boolean), yX1_isSummed, 1)
theorem am_k12 : ∀ (pc : Nat) (x : Instr × Nat), am_c12 pc = some x → decode cX1_isSorted pc = .ok x ∧ (am_len x.1 = 0 ∨ x.2 = am_len x.1) := am_okOf am_c12_ok (fun pc h => by unfold am_c12; rw [h]; rfl)
def am_m12 : am_M := ((1, 4, false, 2, 46, am_c12), cX1_isSorted, (some .boolean), yX1_isSorted, 1)
theorem am_k13 : ∀ (pc : Nat) (x : Instr × Nat), am_c13 pc = some x → decode cX1_areDigits pc = .ok x ∧ (am_len x.1 = 0 ∨ x.2 = am_len x.1) := am_okOf am_c13_ok (fun pc h => by unfold am_c13; rw [h]; rfl)
def am_m13 : am_M := ((1, 5, false, 1, 22, am_c13), cX1_areDigits, (some .boolean), yX1_areDigits, 3)
theorem am_k14 : ∀ (pc : Nat) (x : Instr × Nat), am_c14 pc = some x → decode cX1_isOctal pc = .ok x ∧ (am_len x.1 = 0 ∨ x.2 = am_len x.1) := am_okOf am_c14_ok (fun pc h => by unfold am_c14; rw [h]; rfl)
def am_m14 : am_M := ((1, 3, false, 2, 46, am_c14), cX1_isOctal, (some .boolean), yX1_isOctal, 2)
theorem am_k15 : ∀ (pc : Nat) (x : Instr × Nat), am_c15 pc = some x → decode cX1_octal pc = .ok x ∧ (am_len x.1 = 0 ∨ x.2 = am_len x.1) := am_okOf am_c15_ok (fun pc h => by unfold am_c15; rw [h]; rfl)
def am_m15 : am_M := ((1, 6, false, 1, 21, am_c15), cX1_octal, (some .long), yX1_octal, 2)
theorem am_k16 : ∀ (pc : Nat) (x : Instr × Nat), am_c16 pc = some x → decode cX1_sumOf pc = .ok x ∧ (am_len x.1 = 0 ∨ x.2 = am_len x.1) := am_okOf am_c16_ok (fun pc h => by unfold am_c16; rw [h]; rfl)
def am_m16 : am_M := ((1, 4, false, 1, 21, am_c16), cX1_sumOf, (some .int), yX1_sumOf, 1)
theorem am_k17 : ∀ (pc : Nat) (x : Instr × Nat), am_c17 pc = some x → decode cX1_spell pc = .ok x ∧ (am_len x.1 = 0 ∨ x.2 = am_len x.1) := am_okOf am_c17_ok (fun pc h => by unfold am_c17; rw [h]; rfl)
def am_m17 : am_M := ((1, 4, false, 2, 44, am_c17), cX1_spell, none, yX1_spell, 2)
theorem am_k18 : ∀ (pc : Nat) (x : Instr × Nat), am_c18 pc = some x → decode cX1_addToPath pc = .ok x ∧ (am_len x.1 = 0 ∨ x.2 = am_len x.1) := am_okOf am_c18_ok (fun pc h => by unfold am_c18; rw [h]; rfl)
def am_m18 : am_M := ((1, 4, false, 1, 21, am_c18), cX1_addToPath, none, yX1_addToPath, 2)
theorem am_k19 : ∀ (pc : Nat) (x : Instr × Nat), am_c19 pc = some x → decode cX1_layOut pc = .ok x ∧ (am_len x.1 = 0 ∨ x.2 = am_len x.1) := am_okOf am_c19_ok (fun pc h => by unfold am_c19; rw [h]; rfl)
def am_m19 : am_M := ((1, 6, false, 7, 189, am_c19), cX1_layOut, none, yX1_layOut, 2)
theorem am_k20 : ∀ (pc : Nat) (x : Instr × Nat), am_c20 pc = some x → decode cX1_addHead pc = .ok x ∧ (am_len x.1 = 0 ∨ x.2 = am_len x.1) := am_okOf am_c20_ok (fun pc h => by unfold am_c20; rw [h]; rfl)
def am_m20 : am_M := ((1, 3, false, 6, 167, am_c20), cX1_addHead, none, yX1_addHead, 1)
theorem am_k21 : ∀ (pc : Nat) (x : Instr × Nat), am_c21 pc = some x → decode cX1_addOctal pc = .ok x ∧ (am_len x.1 = 0 ∨ x.2 = am_len x.1) := am_okOf am_c21_ok (fun pc h => by unfold am_c21; rw [h]; rfl)
def am_m21 : am_M := ((1, 4, false, 1, 21, am_c21), cX1_addOctal, none, yX1_addOctal, 2)
theorem am_k22 : ∀ (pc : Nat) (x : Instr × Nat), am_c22 pc = some x → decode cX1_setSum pc = .ok x ∧ (am_len x.1 = 0 ∨ x.2 = am_len x.1) := am_okOf am_c22_ok (fun pc h => by unfold am_c22; rw [h]; rfl)
def am_m22 : am_M := ((1, 4, false, 2, 44, am_c22), cX1_setSum, none, yX1_setSum, 1)
theorem am_k23 : ∀ (pc : Nat) (x : Instr × Nat), am_c23 pc = some x → decode cX2_init pc = .ok x ∧ (am_len x.1 = 0 ∨ x.2 = am_len x.1) := am_okOf am_c23_ok (fun pc h => by unfold am_c23; rw [h]; rfl)
def am_m23 : am_M := ((2, 2, true, 1, 20, am_c23), cX2_init, none, yX2_init, 1)
theorem am_k24 : ∀ (pc : Nat) (x : Instr × Nat), am_c24 pc = some x → decode cX2_size pc = .ok x ∧ (am_len x.1 = 0 ∨ x.2 = am_len x.1) := am_okOf am_c24_ok (fun pc h => by unfold am_c24; rw [h]; rfl)
def am_m24 : am_M := ((2, 1, false, 0, 0, am_c24), cX2_size, (some .int), yX2_size, 0)
theorem am_k25 : ∀ (pc : Nat) (x : Instr × Nat), am_c25 pc = some x → decode cX2_has pc = .ok x ∧ (am_len x.1 = 0 ∨ x.2 = am_len x.1) := am_okOf am_c25_ok (fun pc h => by unfold am_c25; rw [h]; rfl)
def am_m25 : am_M := ((2, 2, false, 0, 0, am_c25), cX2_has, (some .boolean), yX2_has, 1)
theorem am_k26 : ∀ (pc : Nat) (x : Instr × Nat), am_c26 pc = some x → decode cX2_get pc = .ok x ∧ (am_len x.1 = 0 ∨ x.2 = am_len x.1) := am_okOf am_c26_ok (fun pc h => by unfold am_c26; rw [h]; rfl)
def am_m26 : am_M := ((2, 2, false, 0, 0, am_c26), cX2_get, (some .int), yX2_get, 1)
theorem am_k27 : ∀ (pc : Nat) (x : Instr × Nat), am_c27 pc = some x → decode cX2_set pc = .ok x ∧ (am_len x.1 = 0 ∨ x.2 = am_len x.1) := am_okOf am_c27_ok (fun pc h => by unfold am_c27; rw [h]; rfl)
def am_m27 : am_M := ((2, 3, false, 0, 0, am_c27), cX2_set, none, yX2_set, 2)
theorem am_k28 : ∀ (pc : Nat) (x : Instr × Nat), am_c28 pc = some x → decode cX2_cutTo pc = .ok x ∧ (am_len x.1 = 0 ∨ x.2 = am_len x.1) := am_okOf am_c28_ok (fun pc h => by unfold am_c28; rw [h]; rfl)
def am_m28 : am_M := ((2, 2, false, 0, 0, am_c28), cX2_cutTo, none, yX2_cutTo, 1)
theorem am_k29 : ∀ (pc : Nat) (x : Instr × Nat), am_c29 pc = some x → decode cX2_add pc = .ok x ∧ (am_len x.1 = 0 ∨ x.2 = am_len x.1) := am_okOf am_c29_ok (fun pc h => by unfold am_c29; rw [h]; rfl)
def am_m29 : am_M := ((2, 2, false, 0, 0, am_c29), cX2_add, none, yX2_add, 1)
theorem am_k30 : ∀ (pc : Nat) (x : Instr × Nat), am_c30 pc = some x → decode cX2_addRow pc = .ok x ∧ (am_len x.1 = 0 ∨ x.2 = am_len x.1) := am_okOf am_c30_ok (fun pc h => by unfold am_c30; rw [h]; rfl)
def am_m30 : am_M := ((2, 5, false, 1, 21, am_c30), cX2_addRow, none, yX2_addRow, 3)
theorem am_k31 : ∀ (pc : Nat) (x : Instr × Nat), am_c31 pc = some x → decode cX2_addText pc = .ok x ∧ (am_len x.1 = 0 ∨ x.2 = am_len x.1) := am_okOf am_c31_ok (fun pc h => by unfold am_c31; rw [h]; rfl)
def am_m31 : am_M := ((2, 3, false, 5, 145, am_c31), cX2_addText, none, yX2_addText, 1)
theorem am_k32 : ∀ (pc : Nat) (x : Instr × Nat), am_c32 pc = some x → decode cX2_addMark pc = .ok x ∧ (am_len x.1 = 0 ∨ x.2 = am_len x.1) := am_okOf am_c32_ok (fun pc h => by unfold am_c32; rw [h]; rfl)
def am_m32 : am_M := ((2, 3, false, 1, 21, am_c32), cX2_addMark, none, yX2_addMark, 1)
theorem am_k33 : ∀ (pc : Nat) (x : Instr × Nat), am_c33 pc = some x → decode cX2_addZeros pc = .ok x ∧ (am_len x.1 = 0 ∨ x.2 = am_len x.1) := am_okOf am_c33_ok (fun pc h => by unfold am_c33; rw [h]; rfl)
def am_m33 : am_M := ((2, 3, false, 1, 21, am_c33), cX2_addZeros, none, yX2_addZeros, 1)
theorem am_k34 : ∀ (pc : Nat) (x : Instr × Nat), am_c34 pc = some x → decode cX2_addBig pc = .ok x ∧ (am_len x.1 = 0 ∨ x.2 = am_len x.1) := am_okOf am_c34_ok (fun pc h => by unfold am_c34; rw [h]; rfl)
def am_m34 : am_M := ((2, 5, false, 1, 21, am_c34), cX2_addBig, none, yX2_addBig, 2)
theorem am_k35 : ∀ (pc : Nat) (x : Instr × Nat), am_c35 pc = some x → decode cX2_addLittle pc = .ok x ∧ (am_len x.1 = 0 ∨ x.2 = am_len x.1) := am_okOf am_c35_ok (fun pc h => by unfold am_c35; rw [h]; rfl)
def am_m35 : am_M := ((2, 5, false, 1, 21, am_c35), cX2_addLittle, none, yX2_addLittle, 2)
theorem am_k36 : ∀ (pc : Nat) (x : Instr × Nat), am_c36 pc = some x → decode cX2_little pc = .ok x ∧ (am_len x.1 = 0 ∨ x.2 = am_len x.1) := am_okOf am_c36_ok (fun pc h => by unfold am_c36; rw [h]; rfl)
def am_m36 : am_M := ((2, 6, false, 1, 21, am_c36), cX2_little, (some .long), yX2_little, 2)
theorem am_k37 : ∀ (pc : Nat) (x : Instr × Nat), am_c37 pc = some x → decode cX2_beginsWith pc = .ok x ∧ (am_len x.1 = 0 ∨ x.2 = am_len x.1) := am_okOf am_c37_ok (fun pc h => by unfold am_c37; rw [h]; rfl)
def am_m37 : am_M := ((2, 3, false, 1, 21, am_c37), cX2_beginsWith, (some .boolean), yX2_beginsWith, 1)
theorem am_k38 : ∀ (pc : Nat) (x : Instr × Nat), am_c38 pc = some x → decode cX2_isText pc = .ok x ∧ (am_len x.1 = 0 ∨ x.2 = am_len x.1) := am_okOf am_c38_ok (fun pc h => by unfold am_c38; rw [h]; rfl)
def am_m38 : am_M := ((2, 3, false, 5, 145, am_c38), cX2_isText, (some .boolean), yX2_isText, 1)
theorem am_k39 : ∀ (pc : Nat) (x : Instr × Nat), am_c39 pc = some x → decode cX2_liesUnder pc = .ok x ∧ (am_len x.1 = 0 ∨ x.2 = am_len x.1) := am_okOf am_c39_ok (fun pc h => by unfold am_c39; rw [h]; rfl)
def am_m39 : am_M := ((2, 2, false, 2, 43, am_c39), cX2_liesUnder, (some .boolean), yX2_liesUnder, 1)
theorem am_k40 : ∀ (pc : Nat) (x : Instr × Nat), am_c40 pc = some x → decode cX3_init pc = .ok x ∧ (am_len x.1 = 0 ∨ x.2 = am_len x.1) := am_okOf am_c40_ok (fun pc h => by unfold am_c40; rw [h]; rfl)
def am_m40 : am_M := ((3, 2, true, 1, 20, am_c40), cX3_init, none, yX3_init, 1)
theorem am_k41 : ∀ (pc : Nat) (x : Instr × Nat), am_c41 pc = some x → decode cX3_longest pc = .ok x ∧ (am_len x.1 = 0 ∨ x.2 = am_len x.1) := am_okOf am_c41_ok (fun pc h => by unfold am_c41; rw [h]; rfl)
def am_m41 : am_M := ((3, 1, false, 0, 0, am_c41), cX3_longest, (some .int), yX3_longest, 0)
theorem am_k42 : ∀ (pc : Nat) (x : Instr × Nat), am_c42 pc = some x → decode cX3_amount pc = .ok x ∧ (am_len x.1 = 0 ∨ x.2 = am_len x.1) := am_okOf am_c42_ok (fun pc h => by unfold am_c42; rw [h]; rfl)
def am_m42 : am_M := ((3, 2, false, 0, 0, am_c42), cX3_amount, (some .int), yX3_amount, 1)
theorem am_k43 : ∀ (pc : Nat) (x : Instr × Nat), am_c43 pc = some x → decode cX3_symbol pc = .ok x ∧ (am_len x.1 = 0 ∨ x.2 = am_len x.1) := am_okOf am_c43_ok (fun pc h => by unfold am_c43; rw [h]; rfl)
def am_m43 : am_M := ((3, 2, false, 0, 0, am_c43), cX3_symbol, (some .int), yX3_symbol, 1)
theorem am_k44 : ∀ (pc : Nat) (x : Instr × Nat), am_c44 pc = some x → decode cX3_order pc = .ok x ∧ (am_len x.1 = 0 ∨ x.2 = am_len x.1) := am_okOf am_c44_ok (fun pc h => by unfold am_c44; rw [h]; rfl)
def am_m44 : am_M := ((3, 7, false, 1, 40, am_c44), cX3_order, none, yX3_order, 3)
theorem am_k45 : ∀ (pc : Nat) (x : Instr × Nat), am_c45 pc = some x → decode cX3_placeLengths pc = .ok x ∧ (am_len x.1 = 0 ∨ x.2 = am_len x.1) := am_okOf am_c45_ok (fun pc h => by unfold am_c45; rw [h]; rfl)
def am_m45 : am_M := ((3, 2, false, 0, 0, am_c45), cX3_placeLengths, none, yX3_placeLengths, 0)
theorem am_k46 : ∀ (pc : Nat) (x : Instr × Nat), am_c46 pc = some x → decode cX3_placeSymbol pc = .ok x ∧ (am_len x.1 = 0 ∨ x.2 = am_len x.1) := am_okOf am_c46_ok (fun pc h => by unfold am_c46; rw [h]; rfl)
def am_m46 : am_M := ((3, 4, false, 0, 0, am_c46), cX3_placeSymbol, none, yX3_placeSymbol, 2)
theorem am_k47 : ∀ (pc : Nat) (x : Instr × Nat), am_c47 pc = some x → decode cX3_areComplete pc = .ok x ∧ (am_len x.1 = 0 ∨ x.2 = am_len x.1) := am_okOf am_c47_ok (fun pc h => by unfold am_c47; rw [h]; rfl)
def am_m47 : am_M := ((3, 3, false, 0, 0, am_c47), cX3_areComplete, (some .boolean), yX3_areComplete, 0)
theorem am_k48 : ∀ (pc : Nat) (x : Instr × Nat), am_c48 pc = some x → decode cX3_areNoneOrOneBit pc = .ok x ∧ (am_len x.1 = 0 ∨ x.2 = am_len x.1) := am_okOf am_c48_ok (fun pc h => by unfold am_c48; rw [h]; rfl)
def am_m48 : am_M := ((3, 1, false, 0, 0, am_c48), cX3_areNoneOrOneBit, (some .boolean), yX3_areNoneOrOneBit, 0)
theorem am_k49 : ∀ (pc : Nat) (x : Instr × Nat), am_c49 pc = some x → decode cX4_init pc = .ok x ∧ (am_len x.1 = 0 ∨ x.2 = am_len x.1) := am_okOf am_c49_ok (fun pc h => by unfold am_c49; rw [h]; rfl)
def am_m49 : am_M := ((4, 4, true, 2, 43, am_c49), cX4_init, none, yX4_init, 3)
theorem am_k50 : ∀ (pc : Nat) (x : Instr × Nat), am_c50 pc = some x → decode cX4_takeIn pc = .ok x ∧ (am_len x.1 = 0 ∨ x.2 = am_len x.1) := am_okOf am_c50_ok (fun pc h => by unfold am_c50; rw [h]; rfl)
def am_m50 : am_M := ((4, 8, false, 6, 167, am_c50), cX4_takeIn, (some .boolean), yX4_takeIn, 1)
theorem am_k51 : ∀ (pc : Nat) (x : Instr × Nat), am_c51 pc = some x → decode cX4_isHead pc = .ok x ∧ (am_len x.1 = 0 ∨ x.2 = am_len x.1) := am_okOf am_c51_ok (fun pc h => by unfold am_c51; rw [h]; rfl)
def am_m51 : am_M := ((4, 3, false, 2, 46, am_c51), cX4_isHead, (some .boolean), yX4_isHead, 1)
theorem am_k52 : ∀ (pc : Nat) (x : Instr × Nat), am_c52 pc = some x → decode cX4_isSpelt pc = .ok x ∧ (am_len x.1 = 0 ∨ x.2 = am_len x.1) := am_okOf am_c52_ok (fun pc h => by unfold am_c52; rw [h]; rfl)
def am_m52 : am_M := ((4, 5, false, 2, 45, am_c52), cX4_isSpelt, (some .boolean), yX4_isSpelt, 1)
theorem am_k53 : ∀ (pc : Nat) (x : Instr × Nat), am_c53 pc = some x → decode cX4_isMember pc = .ok x ∧ (am_len x.1 = 0 ∨ x.2 = am_len x.1) := am_okOf am_c53_ok (fun pc h => by unfold am_c53; rw [h]; rfl)
def am_m53 : am_M := ((4, 3, false, 4, 88, am_c53), cX4_isMember, (some .boolean), yX4_isMember, 1)
theorem am_k54 : ∀ (pc : Nat) (x : Instr × Nat), am_c54 pc = some x → decode cX4_isSized pc = .ok x ∧ (am_len x.1 = 0 ∨ x.2 = am_len x.1) := am_okOf am_c54_ok (fun pc h => by unfold am_c54; rw [h]; rfl)
def am_m54 : am_M := ((4, 3, false, 2, 45, am_c54), cX4_isSized, (some .boolean), yX4_isSized, 2)
theorem am_k55 : ∀ (pc : Nat) (x : Instr × Nat), am_c55 pc = some x → decode cX4_isDirectory pc = .ok x ∧ (am_len x.1 = 0 ∨ x.2 = am_len x.1) := am_okOf am_c55_ok (fun pc h => by unfold am_c55; rw [h]; rfl)
def am_m55 : am_M := ((4, 2, false, 3, 66, am_c55), cX4_isDirectory, (some .boolean), yX4_isDirectory, 1)
theorem am_k56 : ∀ (pc : Nat) (x : Instr × Nat), am_c56 pc = some x → decode cX4_sortOf pc = .ok x ∧ (am_len x.1 = 0 ∨ x.2 = am_len x.1) := am_okOf am_c56_ok (fun pc h => by unfold am_c56; rw [h]; rfl)
def am_m56 : am_M := ((4, 2, false, 2, 45, am_c56), cX4_sortOf, (some .int), yX4_sortOf, 1)
theorem am_k57 : ∀ (pc : Nat) (x : Instr × Nat), am_c57 pc = some x → decode cX4_sortBits pc = .ok x ∧ (am_len x.1 = 0 ∨ x.2 = am_len x.1) := am_okOf am_c57_ok (fun pc h => by unfold am_c57; rw [h]; rfl)
def am_m57 : am_M := ((4, 2, false, 0, 0, am_c57), cX4_sortBits, (some .int), yX4_sortBits, 1)
theorem am_k58 : ∀ (pc : Nat) (x : Instr × Nat), am_c58 pc = some x → decode cX4_number pc = .ok x ∧ (am_len x.1 = 0 ∨ x.2 = am_len x.1) := am_okOf am_c58_ok (fun pc h => by unfold am_c58; rw [h]; rfl)
def am_m58 : am_M := ((4, 5, false, 1, 21, am_c58), cX4_number, (some .long), yX4_number, 1)
theorem am_k59 : ∀ (pc : Nat) (x : Instr × Nat), am_c59 pc = some x → decode cX4_digit pc = .ok x ∧ (am_len x.1 = 0 ∨ x.2 = am_len x.1) := am_okOf am_c59_ok (fun pc h => by unfold am_c59; rw [h]; rfl)
def am_m59 : am_M := ((4, 1, false, 0, 0, am_c59), cX4_digit, (some .int), yX4_digit, 1)
theorem am_k60 : ∀ (pc : Nat) (x : Instr × Nat), am_c60 pc = some x → decode cX4_layOut pc = .ok x ∧ (am_len x.1 = 0 ∨ x.2 = am_len x.1) := am_okOf am_c60_ok (fun pc h => by unfold am_c60; rw [h]; rfl)
def am_m60 : am_M := ((4, 7, false, 6, 167, am_c60), cX4_layOut, none, yX4_layOut, 2)
theorem am_k61 : ∀ (pc : Nat) (x : Instr × Nat), am_c61 pc = some x → decode cX4_addHead pc = .ok x ∧ (am_len x.1 = 0 ∨ x.2 = am_len x.1) := am_okOf am_c61_ok (fun pc h => by unfold am_c61; rw [h]; rfl)
def am_m61 : am_M := ((4, 6, false, 2, 44, am_c61), cX4_addHead, none, yX4_addHead, 4)
theorem am_k62 : ∀ (pc : Nat) (x : Instr × Nat), am_c62 pc = some x → decode cX4_addNumber pc = .ok x ∧ (am_len x.1 = 0 ∨ x.2 = am_len x.1) := am_okOf am_c62_ok (fun pc h => by unfold am_c62; rw [h]; rfl)
def am_m62 : am_M := ((4, 4, false, 1, 21, am_c62), cX4_addNumber, none, yX4_addNumber, 1)
theorem am_k63 : ∀ (pc : Nat) (x : Instr × Nat), am_c63 pc = some x → decode cX4_addRest pc = .ok x ∧ (am_len x.1 = 0 ∨ x.2 = am_len x.1) := am_okOf am_c63_ok (fun pc h => by unfold am_c63; rw [h]; rfl)
def am_m63 : am_M := ((4, 1, false, 2, 43, am_c63), cX4_addRest, none, yX4_addRest, 0)
theorem am_k64 : ∀ (pc : Nat) (x : Instr × Nat), am_c64 pc = some x → decode cX5_init pc = .ok x ∧ (am_len x.1 = 0 ∨ x.2 = am_len x.1) := am_okOf am_c64_ok (fun pc h => by unfold am_c64; rw [h]; rfl)
def am_m64 : am_M := ((5, 7, true, 2, 43, am_c64), cX5_init, none, yX5_init, 6)
theorem am_k65 : ∀ (pc : Nat) (x : Instr × Nat), am_c65 pc = some x → decode cX5_takeIn pc = .ok x ∧ (am_len x.1 = 0 ∨ x.2 = am_len x.1) := am_okOf am_c65_ok (fun pc h => by unfold am_c65; rw [h]; rfl)
def am_m65 : am_M := ((5, 5, false, 5, 137, am_c65), cX5_takeIn, (some .boolean), yX5_takeIn, 1)
theorem am_k66 : ∀ (pc : Nat) (x : Instr × Nat), am_c66 pc = some x → decode cX5_isClosing pc = .ok x ∧ (am_len x.1 = 0 ∨ x.2 = am_len x.1) := am_okOf am_c66_ok (fun pc h => by unfold am_c66; rw [h]; rfl)
def am_m66 : am_M := ((5, 3, false, 3, 69, am_c66), cX5_isClosing, (some .boolean), yX5_isClosing, 0)
theorem am_k67 : ∀ (pc : Nat) (x : Instr × Nat), am_c67 pc = some x → decode cX5_isZero pc = .ok x ∧ (am_len x.1 = 0 ∨ x.2 = am_len x.1) := am_okOf am_c67_ok (fun pc h => by unfold am_c67; rw [h]; rfl)
def am_m67 : am_M := ((5, 4, false, 2, 46, am_c67), cX5_isZero, (some .boolean), yX5_isZero, 3)
theorem am_k68 : ∀ (pc : Nat) (x : Instr × Nat), am_c68 pc = some x → decode cX5_isEntry pc = .ok x ∧ (am_len x.1 = 0 ∨ x.2 = am_len x.1) := am_okOf am_c68_ok (fun pc h => by unfold am_c68; rw [h]; rfl)
def am_m68 : am_M := ((5, 2, false, 3, 69, am_c68), cX5_isEntry, (some .boolean), yX5_isEntry, 1)
theorem am_k69 : ∀ (pc : Nat) (x : Instr × Nat), am_c69 pc = some x → decode cX5_isMember pc = .ok x ∧ (am_len x.1 = 0 ∨ x.2 = am_len x.1) := am_okOf am_c69_ok (fun pc h => by unfold am_c69; rw [h]; rfl)
def am_m69 : am_M := ((5, 5, false, 3, 69, am_c69), cX5_isMember, (some .boolean), yX5_isMember, 1)
theorem am_k70 : ∀ (pc : Nat) (x : Instr × Nat), am_c70 pc = some x → decode cX5_isLocal pc = .ok x ∧ (am_len x.1 = 0 ∨ x.2 = am_len x.1) := am_okOf am_c70_ok (fun pc h => by unfold am_c70; rw [h]; rfl)
def am_m70 : am_M := ((5, 6, false, 3, 70, am_c70), cX5_isLocal, (some .boolean), yX5_isLocal, 1)
theorem am_k71 : ∀ (pc : Nat) (x : Instr × Nat), am_c71 pc = some x → decode cX5_isSame pc = .ok x ∧ (am_len x.1 = 0 ∨ x.2 = am_len x.1) := am_okOf am_c71_ok (fun pc h => by unfold am_c71; rw [h]; rfl)
def am_m71 : am_M := ((5, 5, false, 2, 46, am_c71), cX5_isSame, (some .boolean), yX5_isSame, 1)
theorem am_k72 : ∀ (pc : Nat) (x : Instr × Nat), am_c72 pc = some x → decode cX5_isBody pc = .ok x ∧ (am_len x.1 = 0 ∨ x.2 = am_len x.1) := am_okOf am_c72_ok (fun pc h => by unfold am_c72; rw [h]; rfl)
def am_m72 : am_M := ((5, 2, false, 2, 46, am_c72), cX5_isBody, (some .boolean), yX5_isBody, 1)
theorem am_k73 : ∀ (pc : Nat) (x : Instr × Nat), am_c73 pc = some x → decode cX5_layOut pc = .ok x ∧ (am_len x.1 = 0 ∨ x.2 = am_len x.1) := am_okOf am_c73_ok (fun pc h => by unfold am_c73; rw [h]; rfl)
def am_m73 : am_M := ((5, 8, false, 5, 113, am_c73), cX5_layOut, none, yX5_layOut, 2)
theorem am_k74 : ∀ (pc : Nat) (x : Instr × Nat), am_c74 pc = some x → decode cX5_addLocal pc = .ok x ∧ (am_len x.1 = 0 ∨ x.2 = am_len x.1) := am_okOf am_c74_ok (fun pc h => by unfold am_c74; rw [h]; rfl)
def am_m74 : am_M := ((5, 3, false, 3, 67, am_c74), cX5_addLocal, none, yX5_addLocal, 2)
theorem am_k75 : ∀ (pc : Nat) (x : Instr × Nat), am_c75 pc = some x → decode cX5_titleBytes pc = .ok x ∧ (am_len x.1 = 0 ∨ x.2 = am_len x.1) := am_okOf am_c75_ok (fun pc h => by unfold am_c75; rw [h]; rfl)
def am_m75 : am_M := ((5, 1, false, 1, 20, am_c75), cX5_titleBytes, (some .int), yX5_titleBytes, 1)
theorem am_k76 : ∀ (pc : Nat) (x : Instr × Nat), am_c76 pc = some x → decode cX5_setSize pc = .ok x ∧ (am_len x.1 = 0 ∨ x.2 = am_len x.1) := am_okOf am_c76_ok (fun pc h => by unfold am_c76; rw [h]; rfl)
def am_m76 : am_M := ((5, 4, false, 1, 22, am_c76), cX5_setSize, none, yX5_setSize, 2)
theorem am_k77 : ∀ (pc : Nat) (x : Instr × Nat), am_c77 pc = some x → decode cX5_addEntries pc = .ok x ∧ (am_len x.1 = 0 ∨ x.2 = am_len x.1) := am_okOf am_c77_ok (fun pc h => by unfold am_c77; rw [h]; rfl)
def am_m77 : am_M := ((5, 6, false, 3, 67, am_c77), cX5_addEntries, none, yX5_addEntries, 1)
theorem am_k78 : ∀ (pc : Nat) (x : Instr × Nat), am_c78 pc = some x → decode cX6_init pc = .ok x ∧ (am_len x.1 = 0 ∨ x.2 = am_len x.1) := am_okOf am_c78_ok (fun pc h => by unfold am_c78; rw [h]; rfl)
def am_m78 : am_M := ((6, 1, true, 1, 20, am_c78), cX6_init, none, yX6_init, 0)
theorem am_k79 : ∀ (pc : Nat) (x : Instr × Nat), am_c79 pc = some x → decode cX6_number pc = .ok x ∧ (am_len x.1 = 0 ∨ x.2 = am_len x.1) := am_okOf am_c79_ok (fun pc h => by unfold am_c79; rw [h]; rfl)
def am_m79 : am_M := ((6, 1, false, 0, 0, am_c79), cX6_number, (some .int), yX6_number, 0)
theorem am_k80 : ∀ (pc : Nat) (x : Instr × Nat), am_c80 pc = some x → decode cX6_place pc = .ok x ∧ (am_len x.1 = 0 ∨ x.2 = am_len x.1) := am_okOf am_c80_ok (fun pc h => by unfold am_c80; rw [h]; rfl)
def am_m80 : am_M := ((6, 1, false, 0, 0, am_c80), cX6_place, (some .int), yX6_place, 0)
theorem am_k81 : ∀ (pc : Nat) (x : Instr × Nat), am_c81 pc = some x → decode cX6_clear pc = .ok x ∧ (am_len x.1 = 0 ∨ x.2 = am_len x.1) := am_okOf am_c81_ok (fun pc h => by unfold am_c81; rw [h]; rfl)
def am_m81 : am_M := ((6, 1, false, 0, 0, am_c81), cX6_clear, none, yX6_clear, 0)
theorem am_k82 : ∀ (pc : Nat) (x : Instr × Nat), am_c82 pc = some x → decode cX6_tell pc = .ok x ∧ (am_len x.1 = 0 ∨ x.2 = am_len x.1) := am_okOf am_c82_ok (fun pc h => by unfold am_c82; rw [h]; rfl)
def am_m82 : am_M := ((6, 3, false, 0, 0, am_c82), cX6_tell, (some .boolean), yX6_tell, 2)
theorem am_k83 : ∀ (pc : Nat) (x : Instr × Nat), am_c83 pc = some x → decode cX7_init pc = .ok x ∧ (am_len x.1 = 0 ∨ x.2 = am_len x.1) := am_okOf am_c83_ok (fun pc h => by unfold am_c83; rw [h]; rfl)
def am_m83 : am_M := ((7, 1, true, 2, 41, am_c83), cX7_init, none, yX7_init, 0)
theorem am_k84 : ∀ (pc : Nat) (x : Instr × Nat), am_c84 pc = some x → decode cX8_init pc = .ok x ∧ (am_len x.1 = 0 ∨ x.2 = am_len x.1) := am_okOf am_c84_ok (fun pc h => by unfold am_c84; rw [h]; rfl)
def am_m84 : am_M := ((8, 2, true, 1, 20, am_c84), cX8_init, none, yX8_init, 1)
theorem am_k85 : ∀ (pc : Nat) (x : Instr × Nat), am_c85 pc = some x → decode cX8_addPacked pc = .ok x ∧ (am_len x.1 = 0 ∨ x.2 = am_len x.1) := am_okOf am_c85_ok (fun pc h => by unfold am_c85; rw [h]; rfl)
def am_m85 : am_M := ((8, 6, false, 4, 88, am_c85), cX8_addPacked, none, yX8_addPacked, 1)
theorem am_k86 : ∀ (pc : Nat) (x : Instr × Nat), am_c86 pc = some x → decode cX8_longestBefore pc = .ok x ∧ (am_len x.1 = 0 ∨ x.2 = am_len x.1) := am_okOf am_c86_ok (fun pc h => by unfold am_c86; rw [h]; rfl)
def am_m86 : am_M := ((8, 7, false, 1, 40, am_c86), cX8_longestBefore, (some .int), yX8_longestBefore, 2)
theorem am_k87 : ∀ (pc : Nat) (x : Instr × Nat), am_c87 pc = some x → decode cX8_lengthStep pc = .ok x ∧ (am_len x.1 = 0 ∨ x.2 = am_len x.1) := am_okOf am_c87_ok (fun pc h => by unfold am_c87; rw [h]; rfl)
def am_m87 : am_M := ((8, 3, false, 2, 40, am_c87), cX8_lengthStep, (some .int), yX8_lengthStep, 1)
theorem am_k88 : ∀ (pc : Nat) (x : Instr × Nat), am_c88 pc = some x → decode cX8_distanceSymbol pc = .ok x ∧ (am_len x.1 = 0 ∨ x.2 = am_len x.1) := am_okOf am_c88_ok (fun pc h => by unfold am_c88; rw [h]; rfl)
def am_m88 : am_M := ((8, 2, false, 2, 40, am_c88), cX8_distanceSymbol, (some .int), yX8_distanceSymbol, 0)
theorem am_k89 : ∀ (pc : Nat) (x : Instr × Nat), am_c89 pc = some x → decode cX8_addSymbol pc = .ok x ∧ (am_len x.1 = 0 ∨ x.2 = am_len x.1) := am_okOf am_c89_ok (fun pc h => by unfold am_c89; rw [h]; rfl)
def am_m89 : am_M := ((8, 2, false, 3, 67, am_c89), cX8_addSymbol, none, yX8_addSymbol, 1)
theorem am_k90 : ∀ (pc : Nat) (x : Instr × Nat), am_c90 pc = some x → decode cX8_addCode pc = .ok x ∧ (am_len x.1 = 0 ∨ x.2 = am_len x.1) := am_okOf am_c90_ok (fun pc h => by unfold am_c90; rw [h]; rfl)
def am_m90 : am_M := ((8, 4, false, 2, 44, am_c90), cX8_addCode, none, yX8_addCode, 2)
theorem am_k91 : ∀ (pc : Nat) (x : Instr × Nat), am_c91 pc = some x → decode cX8_addBits pc = .ok x ∧ (am_len x.1 = 0 ∨ x.2 = am_len x.1) := am_okOf am_c91_ok (fun pc h => by unfold am_c91; rw [h]; rfl)
def am_m91 : am_M := ((8, 4, false, 1, 21, am_c91), cX8_addBits, none, yX8_addBits, 2)
theorem am_k92 : ∀ (pc : Nat) (x : Instr × Nat), am_c92 pc = some x → decode cX9_init pc = .ok x ∧ (am_len x.1 = 0 ∨ x.2 = am_len x.1) := am_okOf am_c92_ok (fun pc h => by unfold am_c92; rw [h]; rfl)
def am_m92 : am_M := ((9, 2, true, 3, 61, am_c92), cX9_init, none, yX9_init, 0)
theorem am_k93 : ∀ (pc : Nat) (x : Instr × Nat), am_c93 pc = some x → decode cX9_size pc = .ok x ∧ (am_len x.1 = 0 ∨ x.2 = am_len x.1) := am_okOf am_c93_ok (fun pc h => by unfold am_c93; rw [h]; rfl)
def am_m93 : am_M := ((9, 1, false, 0, 0, am_c93), cX9_size, (some .int), yX9_size, 0)
theorem am_k94 : ∀ (pc : Nat) (x : Instr × Nat), am_c94 pc = some x → decode cX9_clear pc = .ok x ∧ (am_len x.1 = 0 ∨ x.2 = am_len x.1) := am_okOf am_c94_ok (fun pc h => by unfold am_c94; rw [h]; rfl)
def am_m94 : am_M := ((9, 1, false, 0, 0, am_c94), cX9_clear, none, yX9_clear, 0)
theorem am_k95 : ∀ (pc : Nat) (x : Instr × Nat), am_c95 pc = some x → decode cX9_member pc = .ok x ∧ (am_len x.1 = 0 ∨ x.2 = am_len x.1) := am_okOf am_c95_ok (fun pc h => by unfold am_c95; rw [h]; rfl)
def am_m95 : am_M := ((9, 2, false, 0, 0, am_c95), cX9_member, (some (.object "ArchiveShelf$Member")), yX9_member, 1)
theorem am_k96 : ∀ (pc : Nat) (x : Instr × Nat), am_c96 pc = some x → decode cX9_find pc = .ok x ∧ (am_len x.1 = 0 ∨ x.2 = am_len x.1) := am_okOf am_c96_ok (fun pc h => by unfold am_c96; rw [h]; rfl)
def am_m96 : am_M := ((9, 4, false, 2, 43, am_c96), cX9_find, (some .int), yX9_find, 1)
theorem am_k97 : ∀ (pc : Nat) (x : Instr × Nat), am_c97 pc = some x → decode cX9_hasUnder pc = .ok x ∧ (am_len x.1 = 0 ∨ x.2 = am_len x.1) := am_okOf am_c97_ok (fun pc h => by unfold am_c97; rw [h]; rfl)
def am_m97 : am_M := ((9, 4, false, 3, 64, am_c97), cX9_hasUnder, (some .boolean), yX9_hasUnder, 1)
theorem am_k98 : ∀ (pc : Nat) (x : Instr × Nat), am_c98 pc = some x → decode cX9_isInTheWay pc = .ok x ∧ (am_len x.1 = 0 ∨ x.2 = am_len x.1) := am_okOf am_c98_ok (fun pc h => by unfold am_c98; rw [h]; rfl)
def am_m98 : am_M := ((9, 5, false, 3, 64, am_c98), cX9_isInTheWay, (some .boolean), yX9_isInTheWay, 2)
theorem am_k99 : ∀ (pc : Nat) (x : Instr × Nat), am_c99 pc = some x → decode cX9_hasRoomFor pc = .ok x ∧ (am_len x.1 = 0 ∨ x.2 = am_len x.1) := am_okOf am_c99_ok (fun pc h => by unfold am_c99; rw [h]; rfl)
def am_m99 : am_M := ((9, 2, false, 3, 66, am_c99), cX9_hasRoomFor, (some .boolean), yX9_hasRoomFor, 1)
theorem am_k100 : ∀ (pc : Nat) (x : Instr × Nat), am_c100 pc = some x → decode cX9_drop pc = .ok x ∧ (am_len x.1 = 0 ∨ x.2 = am_len x.1) := am_okOf am_c100_ok (fun pc h => by unfold am_c100; rw [h]; rfl)
def am_m100 : am_M := ((9, 4, false, 1, 21, am_c100), cX9_drop, none, yX9_drop, 1)
theorem am_k101 : ∀ (pc : Nat) (x : Instr × Nat), am_c101 pc = some x → decode cX9_take pc = .ok x ∧ (am_len x.1 = 0 ∨ x.2 = am_len x.1) := am_okOf am_c101_ok (fun pc h => by unfold am_c101; rw [h]; rfl)
def am_m101 : am_M := ((9, 7, false, 3, 66, am_c101), cX9_take, none, yX9_take, 5)
theorem am_k102 : ∀ (pc : Nat) (x : Instr × Nat), am_c102 pc = some x → decode cX9_children pc = .ok x ∧ (am_len x.1 = 0 ∨ x.2 = am_len x.1) := am_okOf am_c102_ok (fun pc h => by unfold am_c102; rw [h]; rfl)
def am_m102 : am_M := ((9, 4, false, 4, 92, am_c102), cX9_children, (some .int), yX9_children, 1)
theorem am_k103 : ∀ (pc : Nat) (x : Instr × Nat), am_c103 pc = some x → decode cX9_firstOfChild pc = .ok x ∧ (am_len x.1 = 0 ∨ x.2 = am_len x.1) := am_okOf am_c103_ok (fun pc h => by unfold am_c103; rw [h]; rfl)
def am_m103 : am_M := ((9, 5, false, 4, 92, am_c103), cX9_firstOfChild, (some .int), yX9_firstOfChild, 2)
theorem am_k104 : ∀ (pc : Nat) (x : Instr × Nat), am_c104 pc = some x → decode cX9_isFirstOfChild pc = .ok x ∧ (am_len x.1 = 0 ∨ x.2 = am_len x.1) := am_okOf am_c104_ok (fun pc h => by unfold am_c104; rw [h]; rfl)
def am_m104 : am_M := ((9, 6, false, 3, 67, am_c104), cX9_isFirstOfChild, (some .boolean), yX9_isFirstOfChild, 2)
theorem am_k105 : ∀ (pc : Nat) (x : Instr × Nat), am_c105 pc = some x → decode cX9_isSamePart pc = .ok x ∧ (am_len x.1 = 0 ∨ x.2 = am_len x.1) := am_okOf am_c105_ok (fun pc h => by unfold am_c105; rw [h]; rfl)
def am_m105 : am_M := ((9, 5, false, 2, 43, am_c105), cX9_isSamePart, (some .boolean), yX9_isSamePart, 3)
theorem am_k106 : ∀ (pc : Nat) (x : Instr × Nat), am_c106 pc = some x → decode cX10_init pc = .ok x ∧ (am_len x.1 = 0 ∨ x.2 = am_len x.1) := am_okOf am_c106_ok (fun pc h => by unfold am_c106; rw [h]; rfl)
def am_m106 : am_M := ((10, 4, true, 3, 86, am_c106), cX10_init, none, yX10_init, 3)
theorem am_k107 : ∀ (pc : Nat) (x : Instr × Nat), am_c107 pc = some x → decode cX10_open pc = .ok x ∧ (am_len x.1 = 0 ∨ x.2 = am_len x.1) := am_okOf am_c107_ok (fun pc h => by unfold am_c107; rw [h]; rfl)
def am_m107 : am_M := ((10, 8, false, 4, 110, am_c107), cX10_open, (some .boolean), yX10_open, 3)
theorem am_k108 : ∀ (pc : Nat) (x : Instr × Nat), am_c108 pc = some x → decode cX10_takeBits pc = .ok x ∧ (am_len x.1 = 0 ∨ x.2 = am_len x.1) := am_okOf am_c108_ok (fun pc h => by unfold am_c108; rw [h]; rfl)
def am_m108 : am_M := ((10, 4, false, 1, 22, am_c108), cX10_takeBits, (some .int), yX10_takeBits, 1)
theorem am_k109 : ∀ (pc : Nat) (x : Instr × Nat), am_c109 pc = some x → decode cX10_takeSymbol pc = .ok x ∧ (am_len x.1 = 0 ∨ x.2 = am_len x.1) := am_okOf am_c109_ok (fun pc h => by unfold am_c109; rw [h]; rfl)
def am_m109 : am_M := ((10, 8, false, 1, 22, am_c109), cX10_takeSymbol, (some .int), yX10_takeSymbol, 2)
theorem am_k110 : ∀ (pc : Nat) (x : Instr × Nat), am_c110 pc = some x → decode cX10_isStored pc = .ok x ∧ (am_len x.1 = 0 ∨ x.2 = am_len x.1) := am_okOf am_c110_ok (fun pc h => by unfold am_c110; rw [h]; rfl)
def am_m110 : am_M := ((10, 6, false, 2, 45, am_c110), cX10_isStored, (some .boolean), yX10_isStored, 0)
theorem am_k111 : ∀ (pc : Nat) (x : Instr × Nat), am_c111 pc = some x → decode cX10_orderFixed pc = .ok x ∧ (am_len x.1 = 0 ∨ x.2 = am_len x.1) := am_okOf am_c111_ok (fun pc h => by unfold am_c111; rw [h]; rfl)
def am_m111 : am_M := ((10, 1, false, 2, 66, am_c111), cX10_orderFixed, none, yX10_orderFixed, 0)
theorem am_k112 : ∀ (pc : Nat) (x : Instr × Nat), am_c112 pc = some x → decode cX10_fillLengths pc = .ok x ∧ (am_len x.1 = 0 ∨ x.2 = am_len x.1) := am_okOf am_c112_ok (fun pc h => by unfold am_c112; rw [h]; rfl)
def am_m112 : am_M := ((10, 5, false, 0, 0, am_c112), cX10_fillLengths, none, yX10_fillLengths, 3)
theorem am_k113 : ∀ (pc : Nat) (x : Instr × Nat), am_c113 pc = some x → decode cX10_areLengthCodes pc = .ok x ∧ (am_len x.1 = 0 ∨ x.2 = am_len x.1) := am_okOf am_c113_ok (fun pc h => by unfold am_c113; rw [h]; rfl)
def am_m113 : am_M := ((10, 6, false, 2, 66, am_c113), cX10_areLengthCodes, (some .boolean), yX10_areLengthCodes, 0)
theorem am_k114 : ∀ (pc : Nat) (x : Instr × Nat), am_c114 pc = some x → decode cX10_areLengths pc = .ok x ∧ (am_len x.1 = 0 ∨ x.2 = am_len x.1) := am_okOf am_c114_ok (fun pc h => by unfold am_c114; rw [h]; rfl)
def am_m114 : am_M := ((10, 4, false, 3, 87, am_c114), cX10_areLengths, (some .boolean), yX10_areLengths, 0)
theorem am_k115 : ∀ (pc : Nat) (x : Instr × Nat), am_c115 pc = some x → decode cX10_isRepeated pc = .ok x ∧ (am_len x.1 = 0 ∨ x.2 = am_len x.1) := am_okOf am_c115_ok (fun pc h => by unfold am_c115; rw [h]; rfl)
def am_m115 : am_M := ((10, 7, false, 2, 45, am_c115), cX10_isRepeated, (some .boolean), yX10_isRepeated, 1)
theorem am_k116 : ∀ (pc : Nat) (x : Instr × Nat), am_c116 pc = some x → decode cX10_lengthAt pc = .ok x ∧ (am_len x.1 = 0 ∨ x.2 = am_len x.1) := am_okOf am_c116_ok (fun pc h => by unfold am_c116; rw [h]; rfl)
def am_m116 : am_M := ((10, 2, false, 0, 0, am_c116), cX10_lengthAt, (some .int), yX10_lengthAt, 1)
theorem am_k117 : ∀ (pc : Nat) (x : Instr × Nat), am_c117 pc = some x → decode cX10_areSymbolLengths pc = .ok x ∧ (am_len x.1 = 0 ∨ x.2 = am_len x.1) := am_okOf am_c117_ok (fun pc h => by unfold am_c117; rw [h]; rfl)
def am_m117 : am_M := ((10, 2, false, 2, 66, am_c117), cX10_areSymbolLengths, (some .boolean), yX10_areSymbolLengths, 1)
theorem am_k118 : ∀ (pc : Nat) (x : Instr × Nat), am_c118 pc = some x → decode cX10_areSymbols pc = .ok x ∧ (am_len x.1 = 0 ∨ x.2 = am_len x.1) := am_okOf am_c118_ok (fun pc h => by unfold am_c118; rw [h]; rfl)
def am_m118 : am_M := ((10, 6, false, 3, 78, am_c118), cX10_areSymbols, (some .boolean), yX10_areSymbols, 2)
theorem am_k119 : ∀ (pc : Nat) (x : Instr × Nat), am_c119 pc = some x → decode cX10_isCopied pc = .ok x ∧ (am_len x.1 = 0 ∨ x.2 = am_len x.1) := am_okOf am_c119_ok (fun pc h => by unfold am_c119; rw [h]; rfl)
def am_m119 : am_M := ((10, 10, false, 2, 49, am_c119), cX10_isCopied, (some .boolean), yX10_isCopied, 3)
theorem am_k120 : ∀ (pc : Nat) (x : Instr × Nat), am_c120 pc = some x → decode cX11_init pc = .ok x ∧ (am_len x.1 = 0 ∨ x.2 = am_len x.1) := am_okOf am_c120_ok (fun pc h => by unfold am_c120; rw [h]; rfl)
def am_m120 : am_M := ((11, 1, true, 4, 109, am_c120), cX11_init, none, yX11_init, 0)
theorem am_k121 : ∀ (pc : Nat) (x : Instr × Nat), am_c121 pc = some x → decode cX11_type pc = .ok x ∧ (am_len x.1 = 0 ∨ x.2 = am_len x.1) := am_okOf am_c121_ok (fun pc h => by unfold am_c121; rw [h]; rfl)
def am_m121 : am_M := ((11, 4, false, 6, 82, am_c121), cX11_type, (some .int), yX11_type, 2)
theorem am_k122 : ∀ (pc : Nat) (x : Instr × Nat), am_c122 pc = some x → decode cX11_keep pc = .ok x ∧ (am_len x.1 = 0 ∨ x.2 = am_len x.1) := am_okOf am_c122_ok (fun pc h => by unfold am_c122; rw [h]; rfl)
def am_m122 : am_M := ((11, 2, false, 6, 82, am_c122), cX11_keep, none, yX11_keep, 1)
theorem am_k123 : ∀ (pc : Nat) (x : Instr × Nat), am_c123 pc = some x → decode cX11_typed pc = .ok x ∧ (am_len x.1 = 0 ∨ x.2 = am_len x.1) := am_okOf am_c123_ok (fun pc h => by unfold am_c123; rw [h]; rfl)
def am_m123 : am_M := ((11, 2, false, 6, 82, am_c123), cX11_typed, (some .int), yX11_typed, 1)
theorem am_k124 : ∀ (pc : Nat) (x : Instr × Nat), am_c124 pc = some x → decode cX11_come pc = .ok x ∧ (am_len x.1 = 0 ∨ x.2 = am_len x.1) := am_okOf am_c124_ok (fun pc h => by unfold am_c124; rw [h]; rfl)
def am_m124 : am_M := ((11, 3, false, 6, 92, am_c124), cX11_come, (some .int), yX11_come, 2)
theorem am_k125 : ∀ (pc : Nat) (x : Instr × Nat), am_c125 pc = some x → decode cX11_go pc = .ok x ∧ (am_len x.1 = 0 ∨ x.2 = am_len x.1) := am_okOf am_c125_ok (fun pc h => by unfold am_c125; rw [h]; rfl)
def am_m125 : am_M := ((11, 2, false, 6, 82, am_c125), cX11_go, (some .int), yX11_go, 1)
theorem am_k126 : ∀ (pc : Nat) (x : Instr × Nat), am_c126 pc = some x → decode cX11_name pc = .ok x ∧ (am_len x.1 = 0 ∨ x.2 = am_len x.1) := am_okOf am_c126_ok (fun pc h => by unfold am_c126; rw [h]; rfl)
def am_m126 : am_M := ((11, 4, false, 6, 82, am_c126), cX11_name, (some .int), yX11_name, 2)
theorem am_k127 : ∀ (pc : Nat) (x : Instr × Nat), am_c127 pc = some x → decode cX11_byteAt pc = .ok x ∧ (am_len x.1 = 0 ∨ x.2 = am_len x.1) := am_okOf am_c127_ok (fun pc h => by unfold am_c127; rw [h]; rfl)
def am_m127 : am_M := ((11, 4, false, 6, 82, am_c127), cX11_byteAt, (some .int), yX11_byteAt, 2)
theorem am_k128 : ∀ (pc : Nat) (x : Instr × Nat), am_c128 pc = some x → decode cX11_kind pc = .ok x ∧ (am_len x.1 = 0 ∨ x.2 = am_len x.1) := am_okOf am_c128_ok (fun pc h => by unfold am_c128; rw [h]; rfl)
def am_m128 : am_M := ((11, 2, false, 4, 87, am_c128), cX11_kind, (some .int), yX11_kind, 0)
theorem am_k129 : ∀ (pc : Nat) (x : Instr × Nat), am_c129 pc = some x → decode cX11_child pc = .ok x ∧ (am_len x.1 = 0 ∨ x.2 = am_len x.1) := am_okOf am_c129_ok (fun pc h => by unfold am_c129; rw [h]; rfl)
def am_m129 : am_M := ((11, 6, false, 6, 116, am_c129), cX11_child, (some .int), yX11_child, 2)
theorem am_k130 : ∀ (pc : Nat) (x : Instr × Nat), am_c130 pc = some x → decode cX11_write pc = .ok x ∧ (am_len x.1 = 0 ∨ x.2 = am_len x.1) := am_okOf am_c130_ok (fun pc h => by unfold am_c130; rw [h]; rfl)
def am_m130 : am_M := ((11, 4, false, 8, 214, am_c130), cX11_write, (some .int), yX11_write, 2)
theorem am_k131 : ∀ (pc : Nat) (x : Instr × Nat), am_c131 pc = some x → decode cX11_read pc = .ok x ∧ (am_len x.1 = 0 ∨ x.2 = am_len x.1) := am_okOf am_c131_ok (fun pc h => by unfold am_c131; rw [h]; rfl)
def am_m131 : am_M := ((11, 4, false, 7, 194, am_c131), cX11_read, (some .int), yX11_read, 1)
theorem am_k132 : ∀ (pc : Nat) (x : Instr × Nat), am_c132 pc = some x → decode cX11_fault pc = .ok x ∧ (am_len x.1 = 0 ∨ x.2 = am_len x.1) := am_okOf am_c132_ok (fun pc h => by unfold am_c132; rw [h]; rfl)
def am_m132 : am_M := ((11, 2, false, 6, 82, am_c132), cX11_fault, (some .int), yX11_fault, 1)
theorem am_k133 : ∀ (pc : Nat) (x : Instr × Nat), am_c133 pc = some x → decode cX11_pack pc = .ok x ∧ (am_len x.1 = 0 ∨ x.2 = am_len x.1) := am_okOf am_c133_ok (fun pc h => by unfold am_c133; rw [h]; rfl)
def am_m133 : am_M := ((11, 1, false, 5, 113, am_c133), cX11_pack, (some .int), yX11_pack, 0)
theorem am_k134 : ∀ (pc : Nat) (x : Instr × Nat), am_c134 pc = some x → decode cX11_unpack pc = .ok x ∧ (am_len x.1 = 0 ∨ x.2 = am_len x.1) := am_okOf am_c134_ok (fun pc h => by unfold am_c134; rw [h]; rfl)
def am_m134 : am_M := ((11, 1, false, 5, 137, am_c134), cX11_unpack, (some .int), yX11_unpack, 0)
theorem am_k135 : ∀ (pc : Nat) (x : Instr × Nat), am_c135 pc = some x → decode cX11_check pc = .ok x ∧ (am_len x.1 = 0 ∨ x.2 = am_len x.1) := am_okOf am_c135_ok (fun pc h => by unfold am_c135; rw [h]; rfl)
def am_m135 : am_M := ((11, 1, false, 2, 44, am_c135), cX11_check, (some .int), yX11_check, 0)
theorem am_k136 : ∀ (pc : Nat) (x : Instr × Nat), am_c136 pc = some x → decode cX11_feed pc = .ok x ∧ (am_len x.1 = 0 ∨ x.2 = am_len x.1) := am_okOf am_c136_ok (fun pc h => by unfold am_c136; rw [h]; rfl)
def am_m136 : am_M := ((11, 6, false, 6, 82, am_c136), cX11_feed, (some .int), yX11_feed, 5)
theorem am_k137 : ∀ (pc : Nat) (x : Instr × Nat), am_c137 pc = some x → decode cX11_end pc = .ok x ∧ (am_len x.1 = 0 ∨ x.2 = am_len x.1) := am_okOf am_c137_ok (fun pc h => by unfold am_c137; rw [h]; rfl)
def am_m137 : am_M := ((11, 2, false, 6, 82, am_c137), cX11_end, none, yX11_end, 1)
theorem am_k138 : ∀ (pc : Nat) (x : Instr × Nat), am_c138 pc = some x → decode cX11_poke pc = .ok x ∧ (am_len x.1 = 0 ∨ x.2 = am_len x.1) := am_okOf am_c138_ok (fun pc h => by unfold am_c138; rw [h]; rfl)
def am_m138 : am_M := ((11, 4, false, 6, 82, am_c138), cX11_poke, (some .int), yX11_poke, 2)
theorem am_k139 : ∀ (pc : Nat) (x : Instr × Nat), am_c139 pc = some x → decode cX11_at pc = .ok x ∧ (am_len x.1 = 0 ∨ x.2 = am_len x.1) := am_okOf am_c139_ok (fun pc h => by unfold am_c139; rw [h]; rfl)
def am_m139 : am_M := ((11, 6, false, 6, 82, am_c139), cX11_at, (some .long), yX11_at, 2)
theorem am_k140 : ∀ (pc : Nat) (x : Instr × Nat), am_c140 pc = some x → decode cX11_count pc = .ok x ∧ (am_len x.1 = 0 ∨ x.2 = am_len x.1) := am_okOf am_c140_ok (fun pc h => by unfold am_c140; rw [h]; rfl)
def am_m140 : am_M := ((11, 2, false, 6, 82, am_c140), cX11_count, (some .int), yX11_count, 1)
theorem am_k141 : ∀ (pc : Nat) (x : Instr × Nat), am_c141 pc = some x → decode cX11_archiveOf pc = .ok x ∧ (am_len x.1 = 0 ∨ x.2 = am_len x.1) := am_okOf am_c141_ok (fun pc h => by unfold am_c141; rw [h]; rfl)
def am_m141 : am_M := ((11, 2, false, 0, 0, am_c141), cX11_archiveOf, (some (.object "ArchiveShelf$Archive")), yX11_archiveOf, 1)
theorem am_k142 : ∀ (pc : Nat) (x : Instr × Nat), am_c142 pc = some x → decode cX11_isName pc = .ok x ∧ (am_len x.1 = 0 ∨ x.2 = am_len x.1) := am_okOf am_c142_ok (fun pc h => by unfold am_c142; rw [h]; rfl)
def am_m142 : am_M := ((11, 4, false, 2, 44, am_c142), cX11_isName, (some .boolean), yX11_isName, 1)
theorem am_k143 : ∀ (pc : Nat) (x : Instr × Nat), am_c143 pc = some x → decode cX11_isPart pc = .ok x ∧ (am_len x.1 = 0 ∨ x.2 = am_len x.1) := am_okOf am_c143_ok (fun pc h => by unfold am_c143; rw [h]; rfl)
def am_m143 : am_M := ((11, 4, false, 1, 21, am_c143), cX11_isPart, (some .boolean), yX11_isPart, 3)
theorem am_k144 : ∀ (pc : Nat) (x : Instr × Nat), am_c144 pc = some x → decode cX11_partBehind pc = .ok x ∧ (am_len x.1 = 0 ∨ x.2 = am_len x.1) := am_okOf am_c144_ok (fun pc h => by unfold am_c144; rw [h]; rfl)
def am_m144 : am_M := ((11, 1, false, 1, 20, am_c144), cX11_partBehind, (some .int), yX11_partBehind, 1)
theorem am_k145 : ∀ (pc : Nat) (x : Instr × Nat), am_c145 pc = some x → decode cX11_partLength pc = .ok x ∧ (am_len x.1 = 0 ∨ x.2 = am_len x.1) := am_okOf am_c145_ok (fun pc h => by unfold am_c145; rw [h]; rfl)
def am_m145 : am_M := ((11, 3, false, 1, 21, am_c145), cX11_partLength, (some .int), yX11_partLength, 2)
theorem am_k146 : ∀ (pc : Nat) (x : Instr × Nat), am_c146 pc = some x → decode cX11_checkOf pc = .ok x ∧ (am_len x.1 = 0 ∨ x.2 = am_len x.1) := am_okOf am_c146_ok (fun pc h => by unfold am_c146; rw [h]; rfl)
def am_m146 : am_M := ((11, 4, false, 1, 21, am_c146), cX11_checkOf, (some .int), yX11_checkOf, 1)
theorem am_k147 : ∀ (pc : Nat) (x : Instr × Nat), am_c147 pc = some x → decode cX11_roundedUp pc = .ok x ∧ (am_len x.1 = 0 ∨ x.2 = am_len x.1) := am_okOf am_c147_ok (fun pc h => by unfold am_c147; rw [h]; rfl)
def am_m147 : am_M := ((11, 3, false, 0, 0, am_c147), cX11_roundedUp, (some .int), yX11_roundedUp, 2)
theorem am_k148 : ∀ (pc : Nat) (x : Instr × Nat), am_c148 pc = some x → decode cX11_lengthBits pc = .ok x ∧ (am_len x.1 = 0 ∨ x.2 = am_len x.1) := am_okOf am_c148_ok (fun pc h => by unfold am_c148; rw [h]; rfl)
def am_m148 : am_M := ((11, 1, false, 0, 0, am_c148), cX11_lengthBits, (some .int), yX11_lengthBits, 1)
theorem am_k149 : ∀ (pc : Nat) (x : Instr × Nat), am_c149 pc = some x → decode cX11_lengthBase pc = .ok x ∧ (am_len x.1 = 0 ∨ x.2 = am_len x.1) := am_okOf am_c149_ok (fun pc h => by unfold am_c149; rw [h]; rfl)
def am_m149 : am_M := ((11, 1, false, 1, 20, am_c149), cX11_lengthBase, (some .int), yX11_lengthBase, 1)
theorem am_k150 : ∀ (pc : Nat) (x : Instr × Nat), am_c150 pc = some x → decode cX11_distanceBits pc = .ok x ∧ (am_len x.1 = 0 ∨ x.2 = am_len x.1) := am_okOf am_c150_ok (fun pc h => by unfold am_c150; rw [h]; rfl)
def am_m150 : am_M := ((11, 1, false, 0, 0, am_c150), cX11_distanceBits, (some .int), yX11_distanceBits, 1)
theorem am_k151 : ∀ (pc : Nat) (x : Instr × Nat), am_c151 pc = some x → decode cX11_distanceBase pc = .ok x ∧ (am_len x.1 = 0 ∨ x.2 = am_len x.1) := am_okOf am_c151_ok (fun pc h => by unfold am_c151; rw [h]; rfl)
def am_m151 : am_M := ((11, 1, false, 1, 20, am_c151), cX11_distanceBase, (some .int), yX11_distanceBase, 1)
theorem am_k152 : ∀ (pc : Nat) (x : Instr × Nat), am_c152 pc = some x → decode cX12_init pc = .ok x ∧ (am_len x.1 = 0 ∨ x.2 = am_len x.1) := am_okOf am_c152_ok (fun pc h => by unfold am_c152; rw [h]; rfl)
def am_m152 : am_M := ((12, 1, true, 1, 20, am_c152), cX12_init, none, yX12_init, 0)
theorem am_k153 : ∀ (pc : Nat) (x : Instr × Nat), am_c153 pc = some x → decode cX12_thrown pc = .ok x ∧ (am_len x.1 = 0 ∨ x.2 = am_len x.1) := am_okOf am_c153_ok (fun pc h => by unfold am_c153; rw [h]; rfl)
def am_m153 : am_M := ((12, 1, false, 0, 0, am_c153), cX12_thrown, (some .int), yX12_thrown, 0)
theorem am_k154 : ∀ (pc : Nat) (x : Instr × Nat), am_c154 pc = some x → decode cX12_in pc = .ok x ∧ (am_len x.1 = 0 ∨ x.2 = am_len x.1) := am_okOf am_c154_ok (fun pc h => by unfold am_c154; rw [h]; rfl)
def am_m154 : am_M := ((12, 6, false, 0, 0, am_c154), cX12_in, (some .boolean), yX12_in, 3)
theorem am_k155 : ∀ (pc : Nat) (x : Instr × Nat), am_c155 pc = some x → decode cX12_refuses pc = .ok x ∧ (am_len x.1 = 0 ∨ x.2 = am_len x.1) := am_okOf am_c155_ok (fun pc h => by unfold am_c155; rw [h]; rfl)
def am_m155 : am_M := ((12, 3, false, 0, 0, am_c155), cX12_refuses, (some .boolean), yX12_refuses, 2)
theorem am_k156 : ∀ (pc : Nat) (x : Instr × Nat), am_c156 pc = some x → decode cX12_fails pc = .ok x ∧ (am_len x.1 = 0 ∨ x.2 = am_len x.1) := am_okOf am_c156_ok (fun pc h => by unfold am_c156; rw [h]; rfl)
def am_m156 : am_M := ((12, 3, false, 0, 0, am_c156), cX12_fails, (some .boolean), yX12_fails, 2)
theorem am_k157 : ∀ (pc : Nat) (x : Instr × Nat), am_c157 pc = some x → decode cX12_type pc = .ok x ∧ (am_len x.1 = 0 ∨ x.2 = am_len x.1) := am_okOf am_c157_ok (fun pc h => by unfold am_c157; rw [h]; rfl)
def am_m157 : am_M := ((12, 5, false, 1, 25, am_c157), cX12_type, (some .int), yX12_type, 2)
theorem am_k158 : ∀ (pc : Nat) (x : Instr × Nat), am_c158 pc = some x → decode cX12_keep pc = .ok x ∧ (am_len x.1 = 0 ∨ x.2 = am_len x.1) := am_okOf am_c158_ok (fun pc h => by unfold am_c158; rw [h]; rfl)
def am_m158 : am_M := ((12, 2, false, 1, 25, am_c158), cX12_keep, none, yX12_keep, 1)
theorem am_k159 : ∀ (pc : Nat) (x : Instr × Nat), am_c159 pc = some x → decode cX12_typed pc = .ok x ∧ (am_len x.1 = 0 ∨ x.2 = am_len x.1) := am_okOf am_c159_ok (fun pc h => by unfold am_c159; rw [h]; rfl)
def am_m159 : am_M := ((12, 2, false, 1, 25, am_c159), cX12_typed, (some .int), yX12_typed, 1)
theorem am_k160 : ∀ (pc : Nat) (x : Instr × Nat), am_c160 pc = some x → decode cX12_put pc = .ok x ∧ (am_len x.1 = 0 ∨ x.2 = am_len x.1) := am_okOf am_c160_ok (fun pc h => by unfold am_c160; rw [h]; rfl)
def am_m160 : am_M := ((12, 2, false, 0, 0, am_c160), cX12_put, none, yX12_put, 1)
theorem am_k161 : ∀ (pc : Nat) (x : Instr × Nat), am_c161 pc = some x → decode cX12_feed pc = .ok x ∧ (am_len x.1 = 0 ∨ x.2 = am_len x.1) := am_okOf am_c161_ok (fun pc h => by unfold am_c161; rw [h]; rfl)
def am_m161 : am_M := ((12, 8, false, 1, 22, am_c161), cX12_feed, (some .int), yX12_feed, 5)
theorem am_k162 : ∀ (pc : Nat) (x : Instr × Nat), am_c162 pc = some x → decode cX12_end pc = .ok x ∧ (am_len x.1 = 0 ∨ x.2 = am_len x.1) := am_okOf am_c162_ok (fun pc h => by unfold am_c162; rw [h]; rfl)
def am_m162 : am_M := ((12, 2, false, 1, 25, am_c162), cX12_end, none, yX12_end, 1)
theorem am_k163 : ∀ (pc : Nat) (x : Instr × Nat), am_c163 pc = some x → decode cX12_poke pc = .ok x ∧ (am_len x.1 = 0 ∨ x.2 = am_len x.1) := am_okOf am_c163_ok (fun pc h => by unfold am_c163; rw [h]; rfl)
def am_m163 : am_M := ((12, 4, false, 1, 25, am_c163), cX12_poke, (some .int), yX12_poke, 2)
theorem am_k164 : ∀ (pc : Nat) (x : Instr × Nat), am_c164 pc = some x → decode cX12_at pc = .ok x ∧ (am_len x.1 = 0 ∨ x.2 = am_len x.1) := am_okOf am_c164_ok (fun pc h => by unfold am_c164; rw [h]; rfl)
def am_m164 : am_M := ((12, 6, false, 1, 25, am_c164), cX12_at, (some .long), yX12_at, 2)
theorem am_k165 : ∀ (pc : Nat) (x : Instr × Nat), am_c165 pc = some x → decode cX12_count pc = .ok x ∧ (am_len x.1 = 0 ∨ x.2 = am_len x.1) := am_okOf am_c165_ok (fun pc h => by unfold am_c165; rw [h]; rfl)
def am_m165 : am_M := ((12, 2, false, 1, 25, am_c165), cX12_count, (some .int), yX12_count, 1)
theorem am_k166 : ∀ (pc : Nat) (x : Instr × Nat), am_c166 pc = some x → decode cX12_fault pc = .ok x ∧ (am_len x.1 = 0 ∨ x.2 = am_len x.1) := am_okOf am_c166_ok (fun pc h => by unfold am_c166; rw [h]; rfl)
def am_m166 : am_M := ((12, 2, false, 1, 25, am_c166), cX12_fault, (some .int), yX12_fault, 1)
theorem am_k167 : ∀ (pc : Nat) (x : Instr × Nat), am_c167 pc = some x → decode cX12_nameAt pc = .ok x ∧ (am_len x.1 = 0 ∨ x.2 = am_len x.1) := am_okOf am_c167_ok (fun pc h => by unfold am_c167; rw [h]; rfl)
def am_m167 : am_M := ((12, 3, false, 0, 0, am_c167), cX12_nameAt, (some .int), yX12_nameAt, 2)
theorem am_k168 : ∀ (pc : Nat) (x : Instr × Nat), am_c168 pc = some x → decode cX12_isName pc = .ok x ∧ (am_len x.1 = 0 ∨ x.2 = am_len x.1) := am_okOf am_c168_ok (fun pc h => by unfold am_c168; rw [h]; rfl)
def am_m168 : am_M := ((12, 5, false, 1, 25, am_c168), cX12_isName, (some .boolean), yX12_isName, 0)
theorem am_k169 : ∀ (pc : Nat) (x : Instr × Nat), am_c169 pc = some x → decode cX12_isNamed pc = .ok x ∧ (am_len x.1 = 0 ∨ x.2 = am_len x.1) := am_okOf am_c169_ok (fun pc h => by unfold am_c169; rw [h]; rfl)
def am_m169 : am_M := ((12, 4, false, 1, 22, am_c169), cX12_isNamed, (some .boolean), yX12_isNamed, 1)
theorem am_k170 : ∀ (pc : Nat) (x : Instr × Nat), am_c170 pc = some x → decode cX12_isUnderNew pc = .ok x ∧ (am_len x.1 = 0 ∨ x.2 = am_len x.1) := am_okOf am_c170_ok (fun pc h => by unfold am_c170; rw [h]; rfl)
def am_m170 : am_M := ((12, 4, false, 1, 22, am_c170), cX12_isUnderNew, (some .boolean), yX12_isUnderNew, 1)
theorem am_k171 : ∀ (pc : Nat) (x : Instr × Nat), am_c171 pc = some x → decode cX12_isNewUnder pc = .ok x ∧ (am_len x.1 = 0 ∨ x.2 = am_len x.1) := am_okOf am_c171_ok (fun pc h => by unfold am_c171; rw [h]; rfl)
def am_m171 : am_M := ((12, 5, false, 1, 22, am_c171), cX12_isNewUnder, (some .boolean), yX12_isNewUnder, 1)
theorem am_k172 : ∀ (pc : Nat) (x : Instr × Nat), am_c172 pc = some x → decode cX12_seek pc = .ok x ∧ (am_len x.1 = 0 ∨ x.2 = am_len x.1) := am_okOf am_c172_ok (fun pc h => by unfold am_c172; rw [h]; rfl)
def am_m172 : am_M := ((12, 4, false, 2, 45, am_c172), cX12_seek, (some .int), yX12_seek, 2)
theorem am_k173 : ∀ (pc : Nat) (x : Instr × Nat), am_c173 pc = some x → decode cX12_isInTheWay pc = .ok x ∧ (am_len x.1 = 0 ∨ x.2 = am_len x.1) := am_okOf am_c173_ok (fun pc h => by unfold am_c173; rw [h]; rfl)
def am_m173 : am_M := ((12, 6, false, 2, 46, am_c173), cX12_isInTheWay, (some .boolean), yX12_isInTheWay, 2)
theorem am_k174 : ∀ (pc : Nat) (x : Instr × Nat), am_c174 pc = some x → decode cX12_move pc = .ok x ∧ (am_len x.1 = 0 ∨ x.2 = am_len x.1) := am_okOf am_c174_ok (fun pc h => by unfold am_c174; rw [h]; rfl)
def am_m174 : am_M := ((12, 4, false, 0, 0, am_c174), cX12_move, none, yX12_move, 2)
theorem am_k175 : ∀ (pc : Nat) (x : Instr × Nat), am_c175 pc = some x → decode cX12_stand pc = .ok x ∧ (am_len x.1 = 0 ∨ x.2 = am_len x.1) := am_okOf am_c175_ok (fun pc h => by unfold am_c175; rw [h]; rfl)
def am_m175 : am_M := ((12, 7, false, 3, 68, am_c175), cX12_stand, (some .int), yX12_stand, 2)
theorem am_k176 : ∀ (pc : Nat) (x : Instr × Nat), am_c176 pc = some x → decode cX12_come pc = .ok x ∧ (am_len x.1 = 0 ∨ x.2 = am_len x.1) := am_okOf am_c176_ok (fun pc h => by unfold am_c176; rw [h]; rfl)
def am_m176 : am_M := ((12, 4, false, 4, 94, am_c176), cX12_come, (some .int), yX12_come, 2)
theorem am_k177 : ∀ (pc : Nat) (x : Instr × Nat), am_c177 pc = some x → decode cX12_go pc = .ok x ∧ (am_len x.1 = 0 ∨ x.2 = am_len x.1) := am_okOf am_c177_ok (fun pc h => by unfold am_c177; rw [h]; rfl)
def am_m177 : am_M := ((12, 3, false, 1, 25, am_c177), cX12_go, (some .int), yX12_go, 1)
theorem am_k178 : ∀ (pc : Nat) (x : Instr × Nat), am_c178 pc = some x → decode cX12_name pc = .ok x ∧ (am_len x.1 = 0 ∨ x.2 = am_len x.1) := am_okOf am_c178_ok (fun pc h => by unfold am_c178; rw [h]; rfl)
def am_m178 : am_M := ((12, 3, false, 1, 25, am_c178), cX12_name, (some .int), yX12_name, 2)
theorem am_k179 : ∀ (pc : Nat) (x : Instr × Nat), am_c179 pc = some x → decode cX12_byteAt pc = .ok x ∧ (am_len x.1 = 0 ∨ x.2 = am_len x.1) := am_okOf am_c179_ok (fun pc h => by unfold am_c179; rw [h]; rfl)
def am_m179 : am_M := ((12, 3, false, 1, 25, am_c179), cX12_byteAt, (some .int), yX12_byteAt, 2)
theorem am_k180 : ∀ (pc : Nat) (x : Instr × Nat), am_c180 pc = some x → decode cX12_takePath pc = .ok x ∧ (am_len x.1 = 0 ∨ x.2 = am_len x.1) := am_okOf am_c180_ok (fun pc h => by unfold am_c180; rw [h]; rfl)
def am_m180 : am_M := ((12, 2, false, 0, 0, am_c180), cX12_takePath, none, yX12_takePath, 0)
theorem am_k181 : ∀ (pc : Nat) (x : Instr × Nat), am_c181 pc = some x → decode cX12_kind pc = .ok x ∧ (am_len x.1 = 0 ∨ x.2 = am_len x.1) := am_okOf am_c181_ok (fun pc h => by unfold am_c181; rw [h]; rfl)
def am_m181 : am_M := ((12, 3, false, 3, 68, am_c181), cX12_kind, (some .int), yX12_kind, 0)
theorem am_k182 : ∀ (pc : Nat) (x : Instr × Nat), am_c182 pc = some x → decode cX12_findPart pc = .ok x ∧ (am_len x.1 = 0 ∨ x.2 = am_len x.1) := am_okOf am_c182_ok (fun pc h => by unfold am_c182; rw [h]; rfl)
def am_m182 : am_M := ((12, 2, false, 2, 45, am_c182), cX12_findPart, none, yX12_findPart, 1)
theorem am_k183 : ∀ (pc : Nat) (x : Instr × Nat), am_c183 pc = some x → decode cX12_isSamePart pc = .ok x ∧ (am_len x.1 = 0 ∨ x.2 = am_len x.1) := am_okOf am_c183_ok (fun pc h => by unfold am_c183; rw [h]; rfl)
def am_m183 : am_M := ((12, 7, false, 3, 66, am_c183), cX12_isSamePart, (some .boolean), yX12_isSamePart, 4)
theorem am_k184 : ∀ (pc : Nat) (x : Instr × Nat), am_c184 pc = some x → decode cX12_isFresh pc = .ok x ∧ (am_len x.1 = 0 ∨ x.2 = am_len x.1) := am_okOf am_c184_ok (fun pc h => by unfold am_c184; rw [h]; rfl)
def am_m184 : am_M := ((12, 6, false, 4, 92, am_c184), cX12_isFresh, (some .boolean), yX12_isFresh, 1)
theorem am_k185 : ∀ (pc : Nat) (x : Instr × Nat), am_c185 pc = some x → decode cX12_child pc = .ok x ∧ (am_len x.1 = 0 ∨ x.2 = am_len x.1) := am_okOf am_c185_ok (fun pc h => by unfold am_c185; rw [h]; rfl)
def am_m185 : am_M := ((12, 5, false, 5, 117, am_c185), cX12_child, (some .int), yX12_child, 2)
theorem am_k186 : ∀ (pc : Nat) (x : Instr × Nat), am_c186 pc = some x → decode cX12_isRow pc = .ok x ∧ (am_len x.1 = 0 ∨ x.2 = am_len x.1) := am_okOf am_c186_ok (fun pc h => by unfold am_c186; rw [h]; rfl)
def am_m186 : am_M := ((12, 9, false, 1, 22, am_c186), cX12_isRow, (some .boolean), yX12_isRow, 6)
theorem am_k187 : ∀ (pc : Nat) (x : Instr × Nat), am_c187 pc = some x → decode cX12_reaches pc = .ok x ∧ (am_len x.1 = 0 ∨ x.2 = am_len x.1) := am_okOf am_c187_ok (fun pc h => by unfold am_c187; rw [h]; rfl)
def am_m187 : am_M := ((12, 3, false, 1, 22, am_c187), cX12_reaches, (some .boolean), yX12_reaches, 1)
theorem am_k188 : ∀ (pc : Nat) (x : Instr × Nat), am_c188 pc = some x → decode cX12_areZeros pc = .ok x ∧ (am_len x.1 = 0 ∨ x.2 = am_len x.1) := am_okOf am_c188_ok (fun pc h => by unfold am_c188; rw [h]; rfl)
def am_m188 : am_M := ((12, 3, false, 1, 22, am_c188), cX12_areZeros, (some .boolean), yX12_areZeros, 1)
theorem am_k189 : ∀ (pc : Nat) (x : Instr × Nat), am_c189 pc = some x → decode cX12_comes pc = .ok x ∧ (am_len x.1 = 0 ∨ x.2 = am_len x.1) := am_okOf am_c189_ok (fun pc h => by unfold am_c189; rw [h]; rfl)
def am_m189 : am_M := ((12, 2, false, 4, 94, am_c189), cX12_comes, (some .boolean), yX12_comes, 1)
theorem am_k190 : ∀ (pc : Nat) (x : Instr × Nat), am_c190 pc = some x → decode cX12_takeBytes pc = .ok x ∧ (am_len x.1 = 0 ∨ x.2 = am_len x.1) := am_okOf am_c190_ok (fun pc h => by unfold am_c190; rw [h]; rfl)
def am_m190 : am_M := ((12, 4, false, 0, 0, am_c190), cX12_takeBytes, none, yX12_takeBytes, 2)
theorem am_k191 : ∀ (pc : Nat) (x : Instr × Nat), am_c191 pc = some x → decode cX12_readOctal pc = .ok x ∧ (am_len x.1 = 0 ∨ x.2 = am_len x.1) := am_okOf am_c191_ok (fun pc h => by unfold am_c191; rw [h]; rfl)
def am_m191 : am_M := ((12, 4, false, 1, 25, am_c191), cX12_readOctal, (some .boolean), yX12_readOctal, 2)
theorem am_k192 : ∀ (pc : Nat) (x : Instr × Nat), am_c192 pc = some x → decode cX12_readSum pc = .ok x ∧ (am_len x.1 = 0 ∨ x.2 = am_len x.1) := am_okOf am_c192_ok (fun pc h => by unfold am_c192; rw [h]; rfl)
def am_m192 : am_M := ((12, 5, false, 1, 25, am_c192), cX12_readSum, (some .boolean), yX12_readSum, 1)
theorem am_k193 : ∀ (pc : Nat) (x : Instr × Nat), am_c193 pc = some x → decode cX12_readMark pc = .ok x ∧ (am_len x.1 = 0 ∨ x.2 = am_len x.1) := am_okOf am_c193_ok (fun pc h => by unfold am_c193; rw [h]; rfl)
def am_m193 : am_M := ((12, 4, false, 1, 22, am_c193), cX12_readMark, (some .boolean), yX12_readMark, 1)
theorem am_k194 : ∀ (pc : Nat) (x : Instr × Nat), am_c194 pc = some x → decode cX12_addName pc = .ok x ∧ (am_len x.1 = 0 ∨ x.2 = am_len x.1) := am_okOf am_c194_ok (fun pc h => by unfold am_c194; rw [h]; rfl)
def am_m194 : am_M := ((12, 4, false, 0, 0, am_c194), cX12_addName, none, yX12_addName, 2)
theorem am_k195 : ∀ (pc : Nat) (x : Instr × Nat), am_c195 pc = some x → decode cX12_readBlockHead pc = .ok x ∧ (am_len x.1 = 0 ∨ x.2 = am_len x.1) := am_okOf am_c195_ok (fun pc h => by unfold am_c195; rw [h]; rfl)
def am_m195 : am_M := ((12, 5, false, 2, 49, am_c195), cX12_readBlockHead, (some .boolean), yX12_readBlockHead, 1)
theorem am_k196 : ∀ (pc : Nat) (x : Instr × Nat), am_c196 pc = some x → decode cX12_isBlank pc = .ok x ∧ (am_len x.1 = 0 ∨ x.2 = am_len x.1) := am_okOf am_c196_ok (fun pc h => by unfold am_c196; rw [h]; rfl)
def am_m196 : am_M := ((12, 4, false, 0, 0, am_c196), cX12_isBlank, (some .boolean), yX12_isBlank, 1)
theorem am_k197 : ∀ (pc : Nat) (x : Instr × Nat), am_c197 pc = some x → decode cX12_readBlocks pc = .ok x ∧ (am_len x.1 = 0 ∨ x.2 = am_len x.1) := am_okOf am_c197_ok (fun pc h => by unfold am_c197; rw [h]; rfl)
def am_m197 : am_M := ((12, 3, false, 5, 115, am_c197), cX12_readBlocks, (some .boolean), yX12_readBlocks, 0)
theorem am_k198 : ∀ (pc : Nat) (x : Instr × Nat), am_c198 pc = some x → decode cX12_digitOf pc = .ok x ∧ (am_len x.1 = 0 ∨ x.2 = am_len x.1) := am_okOf am_c198_ok (fun pc h => by unfold am_c198; rw [h]; rfl)
def am_m198 : am_M := ((12, 1, false, 1, 25, am_c198), cX12_digitOf, (some .int), yX12_digitOf, 1)
theorem am_k199 : ∀ (pc : Nat) (x : Instr × Nat), am_c199 pc = some x → decode cX12_hexAt pc = .ok x ∧ (am_len x.1 = 0 ∨ x.2 = am_len x.1) := am_okOf am_c199_ok (fun pc h => by unfold am_c199; rw [h]; rfl)
def am_m199 : am_M := ((12, 5, false, 2, 45, am_c199), cX12_hexAt, (some .long), yX12_hexAt, 1)
theorem am_k200 : ∀ (pc : Nat) (x : Instr × Nat), am_c200 pc = some x → decode cX12_readDigitsHead pc = .ok x ∧ (am_len x.1 = 0 ∨ x.2 = am_len x.1) := am_okOf am_c200_ok (fun pc h => by unfold am_c200; rw [h]; rfl)
def am_m200 : am_M := ((12, 5, false, 3, 69, am_c200), cX12_readDigitsHead, (some .boolean), yX12_readDigitsHead, 1)
theorem am_k201 : ∀ (pc : Nat) (x : Instr × Nat), am_c201 pc = some x → decode cX12_trailerAt pc = .ok x ∧ (am_len x.1 = 0 ∨ x.2 = am_len x.1) := am_okOf am_c201_ok (fun pc h => by unfold am_c201; rw [h]; rfl)
def am_m201 : am_M := ((12, 1, false, 0, 0, am_c201), cX12_trailerAt, (some .int), yX12_trailerAt, 1)
theorem am_k202 : ∀ (pc : Nat) (x : Instr × Nat), am_c202 pc = some x → decode cX12_isTrailer pc = .ok x ∧ (am_len x.1 = 0 ∨ x.2 = am_len x.1) := am_okOf am_c202_ok (fun pc h => by unfold am_c202; rw [h]; rfl)
def am_m202 : am_M := ((12, 3, false, 1, 20, am_c202), cX12_isTrailer, (some .boolean), yX12_isTrailer, 0)
theorem am_k203 : ∀ (pc : Nat) (x : Instr × Nat), am_c203 pc = some x → decode cX12_upToFour pc = .ok x ∧ (am_len x.1 = 0 ∨ x.2 = am_len x.1) := am_okOf am_c203_ok (fun pc h => by unfold am_c203; rw [h]; rfl)
def am_m203 : am_M := ((12, 1, false, 0, 0, am_c203), cX12_upToFour, (some .int), yX12_upToFour, 1)
theorem am_k204 : ∀ (pc : Nat) (x : Instr × Nat), am_c204 pc = some x → decode cX12_readDigits pc = .ok x ∧ (am_len x.1 = 0 ∨ x.2 = am_len x.1) := am_okOf am_c204_ok (fun pc h => by unfold am_c204; rw [h]; rfl)
def am_m204 : am_M := ((12, 8, false, 5, 115, am_c204), cX12_readDigits, (some .boolean), yX12_readDigits, 0)
theorem am_k205 : ∀ (pc : Nat) (x : Instr × Nat), am_c205 pc = some x → decode cX12_twoAt pc = .ok x ∧ (am_len x.1 = 0 ∨ x.2 = am_len x.1) := am_okOf am_c205_ok (fun pc h => by unfold am_c205; rw [h]; rfl)
def am_m205 : am_M := ((12, 2, false, 0, 0, am_c205), cX12_twoAt, (some .int), yX12_twoAt, 1)
theorem am_k206 : ∀ (pc : Nat) (x : Instr × Nat), am_c206 pc = some x → decode cX12_fourAt pc = .ok x ∧ (am_len x.1 = 0 ∨ x.2 = am_len x.1) := am_okOf am_c206_ok (fun pc h => by unfold am_c206; rw [h]; rfl)
def am_m206 : am_M := ((12, 2, false, 1, 21, am_c206), cX12_fourAt, (some .long), yX12_fourAt, 1)
theorem am_k207 : ∀ (pc : Nat) (x : Instr × Nat), am_c207 pc = some x → decode cX12_isZeroAt pc = .ok x ∧ (am_len x.1 = 0 ∨ x.2 = am_len x.1) := am_okOf am_c207_ok (fun pc h => by unfold am_c207; rw [h]; rfl)
def am_m207 : am_M := ((12, 4, false, 2, 42, am_c207), cX12_isZeroAt, (some .boolean), yX12_isZeroAt, 3)
theorem am_k208 : ∀ (pc : Nat) (x : Instr × Nat), am_c208 pc = some x → decode cX12_readEnd pc = .ok x ∧ (am_len x.1 = 0 ∨ x.2 = am_len x.1) := am_okOf am_c208_ok (fun pc h => by unfold am_c208; rw [h]; rfl)
def am_m208 : am_M := ((12, 2, false, 3, 65, am_c208), cX12_readEnd, (some .boolean), yX12_readEnd, 1)
theorem am_k209 : ∀ (pc : Nat) (x : Instr × Nat), am_c209 pc = some x → decode cX12_readEntryHead pc = .ok x ∧ (am_len x.1 = 0 ∨ x.2 = am_len x.1) := am_okOf am_c209_ok (fun pc h => by unfold am_c209; rw [h]; rfl)
def am_m209 : am_M := ((12, 6, false, 3, 65, am_c209), cX12_readEntryHead, (some .boolean), yX12_readEntryHead, 2)
theorem am_k210 : ∀ (pc : Nat) (x : Instr × Nat), am_c210 pc = some x → decode cX12_isAsThere pc = .ok x ∧ (am_len x.1 = 0 ∨ x.2 = am_len x.1) := am_okOf am_c210_ok (fun pc h => by unfold am_c210; rw [h]; rfl)
def am_m210 : am_M := ((12, 4, false, 2, 42, am_c210), cX12_isAsThere, (some .boolean), yX12_isAsThere, 3)
theorem am_k211 : ∀ (pc : Nat) (x : Instr × Nat), am_c211 pc = some x → decode cX12_readLocal pc = .ok x ∧ (am_len x.1 = 0 ∨ x.2 = am_len x.1) := am_okOf am_c211_ok (fun pc h => by unfold am_c211; rw [h]; rfl)
def am_m211 : am_M := ((12, 11, false, 7, 176, am_c211), cX12_readLocal, (some .boolean), yX12_readLocal, 2)
theorem am_k212 : ∀ (pc : Nat) (x : Instr × Nat), am_c212 pc = some x → decode cX12_readContent pc = .ok x ∧ (am_len x.1 = 0 ∨ x.2 = am_len x.1) := am_okOf am_c212_ok (fun pc h => by unfold am_c212; rw [h]; rfl)
def am_m212 : am_M := ((12, 7, false, 6, 150, am_c212), cX12_readContent, (some .boolean), yX12_readContent, 3)
theorem am_k213 : ∀ (pc : Nat) (x : Instr × Nat), am_c213 pc = some x → decode cX12_readDirectory pc = .ok x ∧ (am_len x.1 = 0 ∨ x.2 = am_len x.1) := am_okOf am_c213_ok (fun pc h => by unfold am_c213; rw [h]; rfl)
def am_m213 : am_M := ((12, 5, false, 8, 206, am_c213), cX12_readDirectory, (some .boolean), yX12_readDirectory, 0)
theorem am_k214 : ∀ (pc : Nat) (x : Instr × Nat), am_c214 pc = some x → decode cX12_read pc = .ok x ∧ (am_len x.1 = 0 ∨ x.2 = am_len x.1) := am_okOf am_c214_ok (fun pc h => by unfold am_c214; rw [h]; rfl)
def am_m214 : am_M := ((12, 4, false, 9, 230, am_c214), cX12_read, (some .int), yX12_read, 1)
theorem am_k215 : ∀ (pc : Nat) (x : Instr × Nat), am_c215 pc = some x → decode cX12_order pc = .ok x ∧ (am_len x.1 = 0 ∨ x.2 = am_len x.1) := am_okOf am_c215_ok (fun pc h => by unfold am_c215; rw [h]; rfl)
def am_m215 : am_M := ((12, 2, false, 0, 0, am_c215), cX12_order, (some .int), yX12_order, 1)
theorem am_k216 : ∀ (pc : Nat) (x : Instr × Nat), am_c216 pc = some x → decode cX12_bit pc = .ok x ∧ (am_len x.1 = 0 ∨ x.2 = am_len x.1) := am_okOf am_c216_ok (fun pc h => by unfold am_c216; rw [h]; rfl)
def am_m216 : am_M := ((12, 2, false, 1, 22, am_c216), cX12_bit, (some .int), yX12_bit, 0)
theorem am_k217 : ∀ (pc : Nat) (x : Instr × Nat), am_c217 pc = some x → decode cX12_bits pc = .ok x ∧ (am_len x.1 = 0 ∨ x.2 = am_len x.1) := am_okOf am_c217_ok (fun pc h => by unfold am_c217; rw [h]; rfl)
def am_m217 : am_M := ((12, 4, false, 2, 43, am_c217), cX12_bits, (some .int), yX12_bits, 1)
theorem am_k218 : ∀ (pc : Nat) (x : Instr × Nat), am_c218 pc = some x → decode cX12_layCodes pc = .ok x ∧ (am_len x.1 = 0 ∨ x.2 = am_len x.1) := am_okOf am_c218_ok (fun pc h => by unfold am_c218; rw [h]; rfl)
def am_m218 : am_M := ((12, 6, false, 0, 0, am_c218), cX12_layCodes, none, yX12_layCodes, 2)
theorem am_k219 : ∀ (pc : Nat) (x : Instr × Nat), am_c219 pc = some x → decode cX12_fullness pc = .ok x ∧ (am_len x.1 = 0 ∨ x.2 = am_len x.1) := am_okOf am_c219_ok (fun pc h => by unfold am_c219; rw [h]; rfl)
def am_m219 : am_M := ((12, 5, false, 0, 0, am_c219), cX12_fullness, (some .int), yX12_fullness, 2)
theorem am_k220 : ∀ (pc : Nat) (x : Instr × Nat), am_c220 pc = some x → decode cX12_symbol pc = .ok x ∧ (am_len x.1 = 0 ∨ x.2 = am_len x.1) := am_okOf am_c220_ok (fun pc h => by unfold am_c220; rw [h]; rfl)
def am_m220 : am_M := ((12, 7, false, 2, 43, am_c220), cX12_symbol, (some .int), yX12_symbol, 2)
theorem am_k221 : ∀ (pc : Nat) (x : Instr × Nat), am_c221 pc = some x → decode cX12_add pc = .ok x ∧ (am_len x.1 = 0 ∨ x.2 = am_len x.1) := am_okOf am_c221_ok (fun pc h => by unfold am_c221; rw [h]; rfl)
def am_m221 : am_M := ((12, 3, false, 1, 22, am_c221), cX12_add, (some .boolean), yX12_add, 2)
theorem am_k222 : ∀ (pc : Nat) (x : Instr × Nat), am_c222 pc = some x → decode cX12_plain pc = .ok x ∧ (am_len x.1 = 0 ∨ x.2 = am_len x.1) := am_okOf am_c222_ok (fun pc h => by unfold am_c222; rw [h]; rfl)
def am_m222 : am_M := ((12, 7, false, 3, 66, am_c222), cX12_plain, (some .boolean), yX12_plain, 1)
theorem am_k223 : ∀ (pc : Nat) (x : Instr × Nat), am_c223 pc = some x → decode cX12_layFixed pc = .ok x ∧ (am_len x.1 = 0 ∨ x.2 = am_len x.1) := am_okOf am_c223_ok (fun pc h => by unfold am_c223; rw [h]; rfl)
def am_m223 : am_M := ((12, 2, false, 1, 25, am_c223), cX12_layFixed, none, yX12_layFixed, 0)
theorem am_k224 : ∀ (pc : Nat) (x : Instr × Nat), am_c224 pc = some x → decode cX12_readRow pc = .ok x ∧ (am_len x.1 = 0 ∨ x.2 = am_len x.1) := am_okOf am_c224_ok (fun pc h => by unfold am_c224; rw [h]; rfl)
def am_m224 : am_M := ((12, 8, false, 3, 69, am_c224), cX12_readRow, (some .boolean), yX12_readRow, 2)
theorem am_k225 : ∀ (pc : Nat) (x : Instr × Nat), am_c225 pc = some x → decode cX12_readCodes pc = .ok x ∧ (am_len x.1 = 0 ∨ x.2 = am_len x.1) := am_okOf am_c225_ok (fun pc h => by unfold am_c225; rw [h]; rfl)
def am_m225 : am_M := ((12, 8, false, 4, 96, am_c225), cX12_readCodes, (some .boolean), yX12_readCodes, 1)
theorem am_k226 : ∀ (pc : Nat) (x : Instr × Nat), am_c226 pc = some x → decode cX12_lengthOf pc = .ok x ∧ (am_len x.1 = 0 ∨ x.2 = am_len x.1) := am_okOf am_c226_ok (fun pc h => by unfold am_c226; rw [h]; rfl)
def am_m226 : am_M := ((12, 2, false, 0, 0, am_c226), cX12_lengthOf, (some .int), yX12_lengthOf, 1)
theorem am_k227 : ∀ (pc : Nat) (x : Instr × Nat), am_c227 pc = some x → decode cX12_distanceOf pc = .ok x ∧ (am_len x.1 = 0 ∨ x.2 = am_len x.1) := am_okOf am_c227_ok (fun pc h => by unfold am_c227; rw [h]; rfl)
def am_m227 : am_M := ((12, 2, false, 0, 0, am_c227), cX12_distanceOf, (some .int), yX12_distanceOf, 1)
theorem am_k228 : ∀ (pc : Nat) (x : Instr × Nat), am_c228 pc = some x → decode cX12_readSymbols pc = .ok x ∧ (am_len x.1 = 0 ∨ x.2 = am_len x.1) := am_okOf am_c228_ok (fun pc h => by unfold am_c228; rw [h]; rfl)
def am_m228 : am_M := ((12, 7, false, 3, 69, am_c228), cX12_readSymbols, (some .boolean), yX12_readSymbols, 0)
theorem am_k229 : ∀ (pc : Nat) (x : Instr × Nat), am_c229 pc = some x → decode cX12_unpackFrom pc = .ok x ∧ (am_len x.1 = 0 ∨ x.2 = am_len x.1) := am_okOf am_c229_ok (fun pc h => by unfold am_c229; rw [h]; rfl)
def am_m229 : am_M := ((12, 8, false, 5, 123, am_c229), cX12_unpackFrom, (some .boolean), yX12_unpackFrom, 3)
theorem am_k230 : ∀ (pc : Nat) (x : Instr × Nat), am_c230 pc = some x → decode cX12_unpack pc = .ok x ∧ (am_len x.1 = 0 ∨ x.2 = am_len x.1) := am_okOf am_c230_ok (fun pc h => by unfold am_c230; rw [h]; rfl)
def am_m230 : am_M := ((12, 2, false, 6, 150, am_c230), cX12_unpack, (some .int), yX12_unpack, 0)
theorem am_k231 : ∀ (pc : Nat) (x : Instr × Nat), am_c231 pc = some x → decode cX12_checkMore pc = .ok x ∧ (am_len x.1 = 0 ∨ x.2 = am_len x.1) := am_okOf am_c231_ok (fun pc h => by unfold am_c231; rw [h]; rfl)
def am_m231 : am_M := ((12, 4, false, 0, 0, am_c231), cX12_checkMore, (some .int), yX12_checkMore, 2)
theorem am_k232 : ∀ (pc : Nat) (x : Instr × Nat), am_c232 pc = some x → decode cX12_check pc = .ok x ∧ (am_len x.1 = 0 ∨ x.2 = am_len x.1) := am_okOf am_c232_ok (fun pc h => by unfold am_c232; rw [h]; rfl)
def am_m232 : am_M := ((12, 3, false, 1, 23, am_c232), cX12_check, (some .int), yX12_check, 0)
theorem am_k233 : ∀ (pc : Nat) (x : Instr × Nat), am_c233 pc = some x → decode cX12_putBit pc = .ok x ∧ (am_len x.1 = 0 ∨ x.2 = am_len x.1) := am_okOf am_c233_ok (fun pc h => by unfold am_c233; rw [h]; rfl)
def am_m233 : am_M := ((12, 2, false, 1, 21, am_c233), cX12_putBit, none, yX12_putBit, 1)
theorem am_k234 : ∀ (pc : Nat) (x : Instr × Nat), am_c234 pc = some x → decode cX12_putBits pc = .ok x ∧ (am_len x.1 = 0 ∨ x.2 = am_len x.1) := am_okOf am_c234_ok (fun pc h => by unfold am_c234; rw [h]; rfl)
def am_m234 : am_M := ((12, 4, false, 2, 42, am_c234), cX12_putBits, none, yX12_putBits, 2)
theorem am_k235 : ∀ (pc : Nat) (x : Instr × Nat), am_c235 pc = some x → decode cX12_putCode pc = .ok x ∧ (am_len x.1 = 0 ∨ x.2 = am_len x.1) := am_okOf am_c235_ok (fun pc h => by unfold am_c235; rw [h]; rfl)
def am_m235 : am_M := ((12, 3, false, 2, 42, am_c235), cX12_putCode, none, yX12_putCode, 1)
theorem am_k236 : ∀ (pc : Nat) (x : Instr × Nat), am_c236 pc = some x → decode cX12_match pc = .ok x ∧ (am_len x.1 = 0 ∨ x.2 = am_len x.1) := am_okOf am_c236_ok (fun pc h => by unfold am_c236; rw [h]; rfl)
def am_m236 : am_M := ((12, 5, false, 0, 0, am_c236), cX12_match, (some .int), yX12_match, 1)
theorem am_k237 : ∀ (pc : Nat) (x : Instr × Nat), am_c237 pc = some x → decode cX12_putMatch pc = .ok x ∧ (am_len x.1 = 0 ∨ x.2 = am_len x.1) := am_okOf am_c237_ok (fun pc h => by unfold am_c237; rw [h]; rfl)
def am_m237 : am_M := ((12, 6, false, 3, 65, am_c237), cX12_putMatch, none, yX12_putMatch, 2)
theorem am_k238 : ∀ (pc : Nat) (x : Instr × Nat), am_c238 pc = some x → decode cX12_putPacked pc = .ok x ∧ (am_len x.1 = 0 ∨ x.2 = am_len x.1) := am_okOf am_c238_ok (fun pc h => by unfold am_c238; rw [h]; rfl)
def am_m238 : am_M := ((12, 3, false, 4, 90, am_c238), cX12_putPacked, none, yX12_putPacked, 0)
theorem am_k239 : ∀ (pc : Nat) (x : Instr × Nat), am_c239 pc = some x → decode cX12_pack pc = .ok x ∧ (am_len x.1 = 0 ∨ x.2 = am_len x.1) := am_okOf am_c239_ok (fun pc h => by unfold am_c239; rw [h]; rfl)
def am_m239 : am_M := ((12, 2, false, 5, 112, am_c239), cX12_pack, (some .int), yX12_pack, 0)
theorem am_k240 : ∀ (pc : Nat) (x : Instr × Nat), am_c240 pc = some x → decode cX12_putZeros pc = .ok x ∧ (am_len x.1 = 0 ∨ x.2 = am_len x.1) := am_okOf am_c240_ok (fun pc h => by unfold am_c240; rw [h]; rfl)
def am_m240 : am_M := ((12, 2, false, 1, 21, am_c240), cX12_putZeros, none, yX12_putZeros, 1)
theorem am_k241 : ∀ (pc : Nat) (x : Instr × Nat), am_c241 pc = some x → decode cX12_putName pc = .ok x ∧ (am_len x.1 = 0 ∨ x.2 = am_len x.1) := am_okOf am_c241_ok (fun pc h => by unfold am_c241; rw [h]; rfl)
def am_m241 : am_M := ((12, 4, false, 1, 22, am_c241), cX12_putName, none, yX12_putName, 2)
theorem am_k242 : ∀ (pc : Nat) (x : Instr × Nat), am_c242 pc = some x → decode cX12_putBytes pc = .ok x ∧ (am_len x.1 = 0 ∨ x.2 = am_len x.1) := am_okOf am_c242_ok (fun pc h => by unfold am_c242; rw [h]; rfl)
def am_m242 : am_M := ((12, 3, false, 1, 21, am_c242), cX12_putBytes, none, yX12_putBytes, 1)
theorem am_k243 : ∀ (pc : Nat) (x : Instr × Nat), am_c243 pc = some x → decode cX12_octalAt pc = .ok x ∧ (am_len x.1 = 0 ∨ x.2 = am_len x.1) := am_okOf am_c243_ok (fun pc h => by unfold am_c243; rw [h]; rfl)
def am_m243 : am_M := ((12, 6, false, 0, 0, am_c243), cX12_octalAt, none, yX12_octalAt, 3)
theorem am_k244 : ∀ (pc : Nat) (x : Instr × Nat), am_c244 pc = some x → decode cX12_writeBlock pc = .ok x ∧ (am_len x.1 = 0 ∨ x.2 = am_len x.1) := am_okOf am_c244_ok (fun pc h => by unfold am_c244; rw [h]; rfl)
def am_m244 : am_M := ((12, 5, false, 2, 45, am_c244), cX12_writeBlock, none, yX12_writeBlock, 1)
theorem am_k245 : ∀ (pc : Nat) (x : Instr × Nat), am_c245 pc = some x → decode cX12_putHex pc = .ok x ∧ (am_len x.1 = 0 ∨ x.2 = am_len x.1) := am_okOf am_c245_ok (fun pc h => by unfold am_c245; rw [h]; rfl)
def am_m245 : am_M := ((12, 4, false, 1, 21, am_c245), cX12_putHex, none, yX12_putHex, 1)
theorem am_k246 : ∀ (pc : Nat) (x : Instr × Nat), am_c246 pc = some x → decode cX12_putDigitsHead pc = .ok x ∧ (am_len x.1 = 0 ∨ x.2 = am_len x.1) := am_okOf am_c246_ok (fun pc h => by unfold am_c246; rw [h]; rfl)
def am_m246 : am_M := ((12, 6, false, 2, 44, am_c246), cX12_putDigitsHead, none, yX12_putDigitsHead, 4)
theorem am_k247 : ∀ (pc : Nat) (x : Instr × Nat), am_c247 pc = some x → decode cX12_writeDigits pc = .ok x ∧ (am_len x.1 = 0 ∨ x.2 = am_len x.1) := am_okOf am_c247_ok (fun pc h => by unfold am_c247; rw [h]; rfl)
def am_m247 : am_M := ((12, 2, false, 3, 69, am_c247), cX12_writeDigits, none, yX12_writeDigits, 0)
theorem am_k248 : ∀ (pc : Nat) (x : Instr × Nat), am_c248 pc = some x → decode cX12_putTwo pc = .ok x ∧ (am_len x.1 = 0 ∨ x.2 = am_len x.1) := am_okOf am_c248_ok (fun pc h => by unfold am_c248; rw [h]; rfl)
def am_m248 : am_M := ((12, 2, false, 1, 21, am_c248), cX12_putTwo, none, yX12_putTwo, 1)
theorem am_k249 : ∀ (pc : Nat) (x : Instr × Nat), am_c249 pc = some x → decode cX12_putFour pc = .ok x ∧ (am_len x.1 = 0 ∨ x.2 = am_len x.1) := am_okOf am_c249_ok (fun pc h => by unfold am_c249; rw [h]; rfl)
def am_m249 : am_M := ((12, 2, false, 2, 42, am_c249), cX12_putFour, none, yX12_putFour, 1)
theorem am_k250 : ∀ (pc : Nat) (x : Instr × Nat), am_c250 pc = some x → decode cX12_checkOf pc = .ok x ∧ (am_len x.1 = 0 ∨ x.2 = am_len x.1) := am_okOf am_c250_ok (fun pc h => by unfold am_c250; rw [h]; rfl)
def am_m250 : am_M := ((12, 4, false, 1, 23, am_c250), cX12_checkOf, (some .int), yX12_checkOf, 1)
theorem am_k251 : ∀ (pc : Nat) (x : Instr × Nat), am_c251 pc = some x → decode cX12_namedSize pc = .ok x ∧ (am_len x.1 = 0 ∨ x.2 = am_len x.1) := am_okOf am_c251_ok (fun pc h => by unfold am_c251; rw [h]; rfl)
def am_m251 : am_M := ((12, 2, false, 0, 0, am_c251), cX12_namedSize, (some .int), yX12_namedSize, 1)
theorem am_k252 : ∀ (pc : Nat) (x : Instr × Nat), am_c252 pc = some x → decode cX12_fourInto pc = .ok x ∧ (am_len x.1 = 0 ∨ x.2 = am_len x.1) := am_okOf am_c252_ok (fun pc h => by unfold am_c252; rw [h]; rfl)
def am_m252 : am_M := ((12, 4, false, 0, 0, am_c252), cX12_fourInto, none, yX12_fourInto, 2)
theorem am_k253 : ∀ (pc : Nat) (x : Instr × Nat), am_c253 pc = some x → decode cX12_writeLocal pc = .ok x ∧ (am_len x.1 = 0 ∨ x.2 = am_len x.1) := am_okOf am_c253_ok (fun pc h => by unfold am_c253; rw [h]; rfl)
def am_m253 : am_M := ((12, 6, false, 5, 112, am_c253), cX12_writeLocal, none, yX12_writeLocal, 2)
theorem am_k254 : ∀ (pc : Nat) (x : Instr × Nat), am_c254 pc = some x → decode cX12_writeEntry pc = .ok x ∧ (am_len x.1 = 0 ∨ x.2 = am_len x.1) := am_okOf am_c254_ok (fun pc h => by unfold am_c254; rw [h]; rfl)
def am_m254 : am_M := ((12, 3, false, 3, 63, am_c254), cX12_writeEntry, none, yX12_writeEntry, 1)
theorem am_k255 : ∀ (pc : Nat) (x : Instr × Nat), am_c255 pc = some x → decode cX12_writeDirectory pc = .ok x ∧ (am_len x.1 = 0 ∨ x.2 = am_len x.1) := am_okOf am_c255_ok (fun pc h => by unfold am_c255; rw [h]; rfl)
def am_m255 : am_M := ((12, 4, false, 6, 137, am_c255), cX12_writeDirectory, none, yX12_writeDirectory, 1)
theorem am_k256 : ∀ (pc : Nat) (x : Instr × Nat), am_c256 pc = some x → decode cX12_write pc = .ok x ∧ (am_len x.1 = 0 ∨ x.2 = am_len x.1) := am_okOf am_c256_ok (fun pc h => by unfold am_c256; rw [h]; rfl)
def am_m256 : am_M := ((12, 4, false, 7, 160, am_c256), cX12_write, (some .int), yX12_write, 2)
theorem am_k257 : ∀ (pc : Nat) (x : Instr × Nat), am_c257 pc = some x → decode cJ9_max_7cf53 pc = .ok x ∧ (am_len x.1 = 0 ∨ x.2 = am_len x.1) := am_okOf am_c257_ok (fun pc h => by unfold am_c257; rw [h]; rfl)
def am_m257 : am_M := ((14, 2, false, 0, 0, am_c257), cJ9_max_7cf53, (some .int), yJ9_max_7cf53, 2)
theorem am_k258 : ∀ (pc : Nat) (x : Instr × Nat), am_c258 pc = some x → decode cJ9_min_7cf53 pc = .ok x ∧ (am_len x.1 = 0 ∨ x.2 = am_len x.1) := am_okOf am_c258_ok (fun pc h => by unfold am_c258; rw [h]; rfl)
def am_m258 : am_M := ((14, 2, false, 0, 0, am_c258), cJ9_min_7cf53, (some .int), yJ9_min_7cf53, 2)
theorem am_k259 : ∀ (pc : Nat) (x : Instr × Nat), am_c259 pc = some x → decode cL_type pc = .ok x ∧ (am_len x.1 = 0 ∨ x.2 = am_len x.1) := am_okOf am_c259_ok (fun pc h => by unfold am_c259; rw [h]; rfl)
def am_m259 : am_M := ((13, 6, false, 7, 105, am_c259), cL_type, (some .int), yL_type, 4)
theorem am_k260 : ∀ (pc : Nat) (x : Instr × Nat), am_c260 pc = some x → decode cL_keep pc = .ok x ∧ (am_len x.1 = 0 ∨ x.2 = am_len x.1) := am_okOf am_c260_ok (fun pc h => by unfold am_c260; rw [h]; rfl)
def am_m260 : am_M := ((13, 3, false, 7, 103, am_c260), cL_keep, (some .int), yL_keep, 2)
theorem am_k261 : ∀ (pc : Nat) (x : Instr × Nat), am_c261 pc = some x → decode cL_typed pc = .ok x ∧ (am_len x.1 = 0 ∨ x.2 = am_len x.1) := am_okOf am_c261_ok (fun pc h => by unfold am_c261; rw [h]; rfl)
def am_m261 : am_M := ((13, 4, false, 7, 103, am_c261), cL_typed, (some .int), yL_typed, 3)
theorem am_k262 : ∀ (pc : Nat) (x : Instr × Nat), am_c262 pc = some x → decode cL_come pc = .ok x ∧ (am_len x.1 = 0 ∨ x.2 = am_len x.1) := am_okOf am_c262_ok (fun pc h => by unfold am_c262; rw [h]; rfl)
def am_m262 : am_M := ((13, 5, false, 7, 114, am_c262), cL_come, (some .int), yL_come, 4)
theorem am_k263 : ∀ (pc : Nat) (x : Instr × Nat), am_c263 pc = some x → decode cL_go pc = .ok x ∧ (am_len x.1 = 0 ∨ x.2 = am_len x.1) := am_okOf am_c263_ok (fun pc h => by unfold am_c263; rw [h]; rfl)
def am_m263 : am_M := ((13, 4, false, 7, 103, am_c263), cL_go, (some .int), yL_go, 3)
theorem am_k264 : ∀ (pc : Nat) (x : Instr × Nat), am_c264 pc = some x → decode cL_name pc = .ok x ∧ (am_len x.1 = 0 ∨ x.2 = am_len x.1) := am_okOf am_c264_ok (fun pc h => by unfold am_c264; rw [h]; rfl)
def am_m264 : am_M := ((13, 5, false, 7, 105, am_c264), cL_name, (some .int), yL_name, 4)
theorem am_k265 : ∀ (pc : Nat) (x : Instr × Nat), am_c265 pc = some x → decode cL_byteAt pc = .ok x ∧ (am_len x.1 = 0 ∨ x.2 = am_len x.1) := am_okOf am_c265_ok (fun pc h => by unfold am_c265; rw [h]; rfl)
def am_m265 : am_M := ((13, 5, false, 7, 105, am_c265), cL_byteAt, (some .int), yL_byteAt, 4)
theorem am_k266 : ∀ (pc : Nat) (x : Instr × Nat), am_c266 pc = some x → decode cL_child pc = .ok x ∧ (am_len x.1 = 0 ∨ x.2 = am_len x.1) := am_okOf am_c266_ok (fun pc h => by unfold am_c266; rw [h]; rfl)
def am_m266 : am_M := ((13, 5, false, 7, 141, am_c266), cL_child, (some .int), yL_child, 4)
theorem am_k267 : ∀ (pc : Nat) (x : Instr × Nat), am_c267 pc = some x → decode cL_write pc = .ok x ∧ (am_len x.1 = 0 ∨ x.2 = am_len x.1) := am_okOf am_c267_ok (fun pc h => by unfold am_c267; rw [h]; rfl)
def am_m267 : am_M := ((13, 5, false, 9, 237, am_c267), cL_write, (some .int), yL_write, 4)
theorem am_k268 : ∀ (pc : Nat) (x : Instr × Nat), am_c268 pc = some x → decode cL_read pc = .ok x ∧ (am_len x.1 = 0 ∨ x.2 = am_len x.1) := am_okOf am_c268_ok (fun pc h => by unfold am_c268; rw [h]; rfl)
def am_m268 : am_M := ((13, 4, false, 8, 217, am_c268), cL_read, (some .int), yL_read, 3)
theorem am_k269 : ∀ (pc : Nat) (x : Instr × Nat), am_c269 pc = some x → decode cL_fault pc = .ok x ∧ (am_len x.1 = 0 ∨ x.2 = am_len x.1) := am_okOf am_c269_ok (fun pc h => by unfold am_c269; rw [h]; rfl)
def am_m269 : am_M := ((13, 4, false, 7, 103, am_c269), cL_fault, (some .int), yL_fault, 3)
theorem am_k270 : ∀ (pc : Nat) (x : Instr × Nat), am_c270 pc = some x → decode cL_feed pc = .ok x ∧ (am_len x.1 = 0 ∨ x.2 = am_len x.1) := am_okOf am_c270_ok (fun pc h => by unfold am_c270; rw [h]; rfl)
def am_m270 : am_M := ((13, 8, false, 7, 107, am_c270), cL_feed, (some .int), yL_feed, 7)
theorem am_k271 : ∀ (pc : Nat) (x : Instr × Nat), am_c271 pc = some x → decode cL_end pc = .ok x ∧ (am_len x.1 = 0 ∨ x.2 = am_len x.1) := am_okOf am_c271_ok (fun pc h => by unfold am_c271; rw [h]; rfl)
def am_m271 : am_M := ((13, 3, false, 7, 103, am_c271), cL_end, (some .int), yL_end, 2)
theorem am_k272 : ∀ (pc : Nat) (x : Instr × Nat), am_c272 pc = some x → decode cL_poke pc = .ok x ∧ (am_len x.1 = 0 ∨ x.2 = am_len x.1) := am_okOf am_c272_ok (fun pc h => by unfold am_c272; rw [h]; rfl)
def am_m272 : am_M := ((13, 5, false, 7, 105, am_c272), cL_poke, (some .int), yL_poke, 4)
theorem am_k273 : ∀ (pc : Nat) (x : Instr × Nat), am_c273 pc = some x → decode cL_at pc = .ok x ∧ (am_len x.1 = 0 ∨ x.2 = am_len x.1) := am_okOf am_c273_ok (fun pc h => by unfold am_c273; rw [h]; rfl)
def am_m273 : am_M := ((13, 5, false, 7, 107, am_c273), cL_at, (some .int), yL_at, 4)
theorem am_k274 : ∀ (pc : Nat) (x : Instr × Nat), am_c274 pc = some x → decode cL_count pc = .ok x ∧ (am_len x.1 = 0 ∨ x.2 = am_len x.1) := am_okOf am_c274_ok (fun pc h => by unfold am_c274; rw [h]; rfl)
def am_m274 : am_M := ((13, 4, false, 7, 103, am_c274), cL_count, (some .int), yL_count, 3)
theorem am_k275 : ∀ (pc : Nat) (x : Instr × Nat), am_c275 pc = some x → decode cL_law pc = .ok x ∧ (am_len x.1 = 0 ∨ x.2 = am_len x.1) := am_okOf am_c275_ok (fun pc h => by unfold am_c275; rw [h]; rfl)
def am_m275 : am_M := ((13, 8, false, 10, 261, am_c275), cL_law, (some .boolean), yL_law, 1)
def am_tab0 : List am_M := [am_m0, am_m1, am_m2, am_m3, am_m4, am_m5, am_m6, am_m7, am_m8, am_m9, am_m10, am_m11, am_m12, am_m13, am_m14, am_m15, am_m16, am_m17, am_m18, am_m19, am_m20, am_m21, am_m22]
theorem am_tab0_ok : ∀ M ∈ am_tab0, am_ok M := List.forall_mem_cons.mpr ⟨am_k0, List.forall_mem_cons.mpr ⟨am_k1, List.forall_mem_cons.mpr ⟨am_k2, List.forall_mem_cons.mpr ⟨am_k3, List.forall_mem_cons.mpr ⟨am_k4, List.forall_mem_cons.mpr ⟨am_k5, List.forall_mem_cons.mpr ⟨am_k6, List.forall_mem_cons.mpr ⟨am_k7, List.forall_mem_cons.mpr ⟨am_k8, List.forall_mem_cons.mpr ⟨am_k9, List.forall_mem_cons.mpr ⟨am_k10, List.forall_mem_cons.mpr ⟨am_k11, List.forall_mem_cons.mpr ⟨am_k12, List.forall_mem_cons.mpr ⟨am_k13, List.forall_mem_cons.mpr ⟨am_k14, List.forall_mem_cons.mpr ⟨am_k15, List.forall_mem_cons.mpr ⟨am_k16, List.forall_mem_cons.mpr ⟨am_k17, List.forall_mem_cons.mpr ⟨am_k18, List.forall_mem_cons.mpr ⟨am_k19, List.forall_mem_cons.mpr ⟨am_k20, List.forall_mem_cons.mpr ⟨am_k21, List.forall_mem_cons.mpr ⟨am_k22, fun _ h => absurd h List.not_mem_nil⟩⟩⟩⟩⟩⟩⟩⟩⟩⟩⟩⟩⟩⟩⟩⟩⟩⟩⟩⟩⟩⟩⟩
def am_tab1 : List am_M := [am_m23, am_m24, am_m25, am_m26, am_m27, am_m28, am_m29, am_m30, am_m31, am_m32, am_m33, am_m34, am_m35, am_m36, am_m37, am_m38, am_m39, am_m40, am_m41, am_m42, am_m43, am_m44, am_m45]
theorem am_tab1_ok : ∀ M ∈ am_tab1, am_ok M := List.forall_mem_cons.mpr ⟨am_k23, List.forall_mem_cons.mpr ⟨am_k24, List.forall_mem_cons.mpr ⟨am_k25, List.forall_mem_cons.mpr ⟨am_k26, List.forall_mem_cons.mpr ⟨am_k27, List.forall_mem_cons.mpr ⟨am_k28, List.forall_mem_cons.mpr ⟨am_k29, List.forall_mem_cons.mpr ⟨am_k30, List.forall_mem_cons.mpr ⟨am_k31, List.forall_mem_cons.mpr ⟨am_k32, List.forall_mem_cons.mpr ⟨am_k33, List.forall_mem_cons.mpr ⟨am_k34, List.forall_mem_cons.mpr ⟨am_k35, List.forall_mem_cons.mpr ⟨am_k36, List.forall_mem_cons.mpr ⟨am_k37, List.forall_mem_cons.mpr ⟨am_k38, List.forall_mem_cons.mpr ⟨am_k39, List.forall_mem_cons.mpr ⟨am_k40, List.forall_mem_cons.mpr ⟨am_k41, List.forall_mem_cons.mpr ⟨am_k42, List.forall_mem_cons.mpr ⟨am_k43, List.forall_mem_cons.mpr ⟨am_k44, List.forall_mem_cons.mpr ⟨am_k45, fun _ h => absurd h List.not_mem_nil⟩⟩⟩⟩⟩⟩⟩⟩⟩⟩⟩⟩⟩⟩⟩⟩⟩⟩⟩⟩⟩⟩⟩
def am_tab2 : List am_M := [am_m46, am_m47, am_m48, am_m49, am_m50, am_m51, am_m52, am_m53, am_m54, am_m55, am_m56, am_m57, am_m58, am_m59, am_m60, am_m61, am_m62, am_m63, am_m64, am_m65, am_m66, am_m67, am_m68]
theorem am_tab2_ok : ∀ M ∈ am_tab2, am_ok M := List.forall_mem_cons.mpr ⟨am_k46, List.forall_mem_cons.mpr ⟨am_k47, List.forall_mem_cons.mpr ⟨am_k48, List.forall_mem_cons.mpr ⟨am_k49, List.forall_mem_cons.mpr ⟨am_k50, List.forall_mem_cons.mpr ⟨am_k51, List.forall_mem_cons.mpr ⟨am_k52, List.forall_mem_cons.mpr ⟨am_k53, List.forall_mem_cons.mpr ⟨am_k54, List.forall_mem_cons.mpr ⟨am_k55, List.forall_mem_cons.mpr ⟨am_k56, List.forall_mem_cons.mpr ⟨am_k57, List.forall_mem_cons.mpr ⟨am_k58, List.forall_mem_cons.mpr ⟨am_k59, List.forall_mem_cons.mpr ⟨am_k60, List.forall_mem_cons.mpr ⟨am_k61, List.forall_mem_cons.mpr ⟨am_k62, List.forall_mem_cons.mpr ⟨am_k63, List.forall_mem_cons.mpr ⟨am_k64, List.forall_mem_cons.mpr ⟨am_k65, List.forall_mem_cons.mpr ⟨am_k66, List.forall_mem_cons.mpr ⟨am_k67, List.forall_mem_cons.mpr ⟨am_k68, fun _ h => absurd h List.not_mem_nil⟩⟩⟩⟩⟩⟩⟩⟩⟩⟩⟩⟩⟩⟩⟩⟩⟩⟩⟩⟩⟩⟩⟩
def am_tab3 : List am_M := [am_m69, am_m70, am_m71, am_m72, am_m73, am_m74, am_m75, am_m76, am_m77, am_m78, am_m79, am_m80, am_m81, am_m82, am_m83, am_m84, am_m85, am_m86, am_m87, am_m88, am_m89, am_m90, am_m91]
theorem am_tab3_ok : ∀ M ∈ am_tab3, am_ok M := List.forall_mem_cons.mpr ⟨am_k69, List.forall_mem_cons.mpr ⟨am_k70, List.forall_mem_cons.mpr ⟨am_k71, List.forall_mem_cons.mpr ⟨am_k72, List.forall_mem_cons.mpr ⟨am_k73, List.forall_mem_cons.mpr ⟨am_k74, List.forall_mem_cons.mpr ⟨am_k75, List.forall_mem_cons.mpr ⟨am_k76, List.forall_mem_cons.mpr ⟨am_k77, List.forall_mem_cons.mpr ⟨am_k78, List.forall_mem_cons.mpr ⟨am_k79, List.forall_mem_cons.mpr ⟨am_k80, List.forall_mem_cons.mpr ⟨am_k81, List.forall_mem_cons.mpr ⟨am_k82, List.forall_mem_cons.mpr ⟨am_k83, List.forall_mem_cons.mpr ⟨am_k84, List.forall_mem_cons.mpr ⟨am_k85, List.forall_mem_cons.mpr ⟨am_k86, List.forall_mem_cons.mpr ⟨am_k87, List.forall_mem_cons.mpr ⟨am_k88, List.forall_mem_cons.mpr ⟨am_k89, List.forall_mem_cons.mpr ⟨am_k90, List.forall_mem_cons.mpr ⟨am_k91, fun _ h => absurd h List.not_mem_nil⟩⟩⟩⟩⟩⟩⟩⟩⟩⟩⟩⟩⟩⟩⟩⟩⟩⟩⟩⟩⟩⟩⟩
def am_tab4 : List am_M := [am_m92, am_m93, am_m94, am_m95, am_m96, am_m97, am_m98, am_m99, am_m100, am_m101, am_m102, am_m103, am_m104, am_m105, am_m106, am_m107, am_m108, am_m109, am_m110, am_m111, am_m112, am_m113, am_m114]
theorem am_tab4_ok : ∀ M ∈ am_tab4, am_ok M := List.forall_mem_cons.mpr ⟨am_k92, List.forall_mem_cons.mpr ⟨am_k93, List.forall_mem_cons.mpr ⟨am_k94, List.forall_mem_cons.mpr ⟨am_k95, List.forall_mem_cons.mpr ⟨am_k96, List.forall_mem_cons.mpr ⟨am_k97, List.forall_mem_cons.mpr ⟨am_k98, List.forall_mem_cons.mpr ⟨am_k99, List.forall_mem_cons.mpr ⟨am_k100, List.forall_mem_cons.mpr ⟨am_k101, List.forall_mem_cons.mpr ⟨am_k102, List.forall_mem_cons.mpr ⟨am_k103, List.forall_mem_cons.mpr ⟨am_k104, List.forall_mem_cons.mpr ⟨am_k105, List.forall_mem_cons.mpr ⟨am_k106, List.forall_mem_cons.mpr ⟨am_k107, List.forall_mem_cons.mpr ⟨am_k108, List.forall_mem_cons.mpr ⟨am_k109, List.forall_mem_cons.mpr ⟨am_k110, List.forall_mem_cons.mpr ⟨am_k111, List.forall_mem_cons.mpr ⟨am_k112, List.forall_mem_cons.mpr ⟨am_k113, List.forall_mem_cons.mpr ⟨am_k114, fun _ h => absurd h List.not_mem_nil⟩⟩⟩⟩⟩⟩⟩⟩⟩⟩⟩⟩⟩⟩⟩⟩⟩⟩⟩⟩⟩⟩⟩
def am_tab5 : List am_M := [am_m115, am_m116, am_m117, am_m118, am_m119, am_m120, am_m121, am_m122, am_m123, am_m124, am_m125, am_m126, am_m127, am_m128, am_m129, am_m130, am_m131, am_m132, am_m133, am_m134, am_m135, am_m136, am_m137]
theorem am_tab5_ok : ∀ M ∈ am_tab5, am_ok M := List.forall_mem_cons.mpr ⟨am_k115, List.forall_mem_cons.mpr ⟨am_k116, List.forall_mem_cons.mpr ⟨am_k117, List.forall_mem_cons.mpr ⟨am_k118, List.forall_mem_cons.mpr ⟨am_k119, List.forall_mem_cons.mpr ⟨am_k120, List.forall_mem_cons.mpr ⟨am_k121, List.forall_mem_cons.mpr ⟨am_k122, List.forall_mem_cons.mpr ⟨am_k123, List.forall_mem_cons.mpr ⟨am_k124, List.forall_mem_cons.mpr ⟨am_k125, List.forall_mem_cons.mpr ⟨am_k126, List.forall_mem_cons.mpr ⟨am_k127, List.forall_mem_cons.mpr ⟨am_k128, List.forall_mem_cons.mpr ⟨am_k129, List.forall_mem_cons.mpr ⟨am_k130, List.forall_mem_cons.mpr ⟨am_k131, List.forall_mem_cons.mpr ⟨am_k132, List.forall_mem_cons.mpr ⟨am_k133, List.forall_mem_cons.mpr ⟨am_k134, List.forall_mem_cons.mpr ⟨am_k135, List.forall_mem_cons.mpr ⟨am_k136, List.forall_mem_cons.mpr ⟨am_k137, fun _ h => absurd h List.not_mem_nil⟩⟩⟩⟩⟩⟩⟩⟩⟩⟩⟩⟩⟩⟩⟩⟩⟩⟩⟩⟩⟩⟩⟩
def am_tab6 : List am_M := [am_m138, am_m139, am_m140, am_m141, am_m142, am_m143, am_m144, am_m145, am_m146, am_m147, am_m148, am_m149, am_m150, am_m151, am_m152, am_m153, am_m154, am_m155, am_m156, am_m157, am_m158, am_m159, am_m160]
theorem am_tab6_ok : ∀ M ∈ am_tab6, am_ok M := List.forall_mem_cons.mpr ⟨am_k138, List.forall_mem_cons.mpr ⟨am_k139, List.forall_mem_cons.mpr ⟨am_k140, List.forall_mem_cons.mpr ⟨am_k141, List.forall_mem_cons.mpr ⟨am_k142, List.forall_mem_cons.mpr ⟨am_k143, List.forall_mem_cons.mpr ⟨am_k144, List.forall_mem_cons.mpr ⟨am_k145, List.forall_mem_cons.mpr ⟨am_k146, List.forall_mem_cons.mpr ⟨am_k147, List.forall_mem_cons.mpr ⟨am_k148, List.forall_mem_cons.mpr ⟨am_k149, List.forall_mem_cons.mpr ⟨am_k150, List.forall_mem_cons.mpr ⟨am_k151, List.forall_mem_cons.mpr ⟨am_k152, List.forall_mem_cons.mpr ⟨am_k153, List.forall_mem_cons.mpr ⟨am_k154, List.forall_mem_cons.mpr ⟨am_k155, List.forall_mem_cons.mpr ⟨am_k156, List.forall_mem_cons.mpr ⟨am_k157, List.forall_mem_cons.mpr ⟨am_k158, List.forall_mem_cons.mpr ⟨am_k159, List.forall_mem_cons.mpr ⟨am_k160, fun _ h => absurd h List.not_mem_nil⟩⟩⟩⟩⟩⟩⟩⟩⟩⟩⟩⟩⟩⟩⟩⟩⟩⟩⟩⟩⟩⟩⟩
def am_tab7 : List am_M := [am_m161, am_m162, am_m163, am_m164, am_m165, am_m166, am_m167, am_m168, am_m169, am_m170, am_m171, am_m172, am_m173, am_m174, am_m175, am_m176, am_m177, am_m178, am_m179, am_m180, am_m181, am_m182, am_m183]
theorem am_tab7_ok : ∀ M ∈ am_tab7, am_ok M := List.forall_mem_cons.mpr ⟨am_k161, List.forall_mem_cons.mpr ⟨am_k162, List.forall_mem_cons.mpr ⟨am_k163, List.forall_mem_cons.mpr ⟨am_k164, List.forall_mem_cons.mpr ⟨am_k165, List.forall_mem_cons.mpr ⟨am_k166, List.forall_mem_cons.mpr ⟨am_k167, List.forall_mem_cons.mpr ⟨am_k168, List.forall_mem_cons.mpr ⟨am_k169, List.forall_mem_cons.mpr ⟨am_k170, List.forall_mem_cons.mpr ⟨am_k171, List.forall_mem_cons.mpr ⟨am_k172, List.forall_mem_cons.mpr ⟨am_k173, List.forall_mem_cons.mpr ⟨am_k174, List.forall_mem_cons.mpr ⟨am_k175, List.forall_mem_cons.mpr ⟨am_k176, List.forall_mem_cons.mpr ⟨am_k177, List.forall_mem_cons.mpr ⟨am_k178, List.forall_mem_cons.mpr ⟨am_k179, List.forall_mem_cons.mpr ⟨am_k180, List.forall_mem_cons.mpr ⟨am_k181, List.forall_mem_cons.mpr ⟨am_k182, List.forall_mem_cons.mpr ⟨am_k183, fun _ h => absurd h List.not_mem_nil⟩⟩⟩⟩⟩⟩⟩⟩⟩⟩⟩⟩⟩⟩⟩⟩⟩⟩⟩⟩⟩⟩⟩
def am_tab8 : List am_M := [am_m184, am_m185, am_m186, am_m187, am_m188, am_m189, am_m190, am_m191, am_m192, am_m193, am_m194, am_m195, am_m196, am_m197, am_m198, am_m199, am_m200, am_m201, am_m202, am_m203, am_m204, am_m205, am_m206]
theorem am_tab8_ok : ∀ M ∈ am_tab8, am_ok M := List.forall_mem_cons.mpr ⟨am_k184, List.forall_mem_cons.mpr ⟨am_k185, List.forall_mem_cons.mpr ⟨am_k186, List.forall_mem_cons.mpr ⟨am_k187, List.forall_mem_cons.mpr ⟨am_k188, List.forall_mem_cons.mpr ⟨am_k189, List.forall_mem_cons.mpr ⟨am_k190, List.forall_mem_cons.mpr ⟨am_k191, List.forall_mem_cons.mpr ⟨am_k192, List.forall_mem_cons.mpr ⟨am_k193, List.forall_mem_cons.mpr ⟨am_k194, List.forall_mem_cons.mpr ⟨am_k195, List.forall_mem_cons.mpr ⟨am_k196, List.forall_mem_cons.mpr ⟨am_k197, List.forall_mem_cons.mpr ⟨am_k198, List.forall_mem_cons.mpr ⟨am_k199, List.forall_mem_cons.mpr ⟨am_k200, List.forall_mem_cons.mpr ⟨am_k201, List.forall_mem_cons.mpr ⟨am_k202, List.forall_mem_cons.mpr ⟨am_k203, List.forall_mem_cons.mpr ⟨am_k204, List.forall_mem_cons.mpr ⟨am_k205, List.forall_mem_cons.mpr ⟨am_k206, fun _ h => absurd h List.not_mem_nil⟩⟩⟩⟩⟩⟩⟩⟩⟩⟩⟩⟩⟩⟩⟩⟩⟩⟩⟩⟩⟩⟩⟩
def am_tab9 : List am_M := [am_m207, am_m208, am_m209, am_m210, am_m211, am_m212, am_m213, am_m214, am_m215, am_m216, am_m217, am_m218, am_m219, am_m220, am_m221, am_m222, am_m223, am_m224, am_m225, am_m226, am_m227, am_m228, am_m229]
theorem am_tab9_ok : ∀ M ∈ am_tab9, am_ok M := List.forall_mem_cons.mpr ⟨am_k207, List.forall_mem_cons.mpr ⟨am_k208, List.forall_mem_cons.mpr ⟨am_k209, List.forall_mem_cons.mpr ⟨am_k210, List.forall_mem_cons.mpr ⟨am_k211, List.forall_mem_cons.mpr ⟨am_k212, List.forall_mem_cons.mpr ⟨am_k213, List.forall_mem_cons.mpr ⟨am_k214, List.forall_mem_cons.mpr ⟨am_k215, List.forall_mem_cons.mpr ⟨am_k216, List.forall_mem_cons.mpr ⟨am_k217, List.forall_mem_cons.mpr ⟨am_k218, List.forall_mem_cons.mpr ⟨am_k219, List.forall_mem_cons.mpr ⟨am_k220, List.forall_mem_cons.mpr ⟨am_k221, List.forall_mem_cons.mpr ⟨am_k222, List.forall_mem_cons.mpr ⟨am_k223, List.forall_mem_cons.mpr ⟨am_k224, List.forall_mem_cons.mpr ⟨am_k225, List.forall_mem_cons.mpr ⟨am_k226, List.forall_mem_cons.mpr ⟨am_k227, List.forall_mem_cons.mpr ⟨am_k228, List.forall_mem_cons.mpr ⟨am_k229, fun _ h => absurd h List.not_mem_nil⟩⟩⟩⟩⟩⟩⟩⟩⟩⟩⟩⟩⟩⟩⟩⟩⟩⟩⟩⟩⟩⟩⟩
def am_tab10 : List am_M := [am_m230, am_m231, am_m232, am_m233, am_m234, am_m235, am_m236, am_m237, am_m238, am_m239, am_m240, am_m241, am_m242, am_m243, am_m244, am_m245, am_m246, am_m247, am_m248, am_m249, am_m250, am_m251, am_m252]
theorem am_tab10_ok : ∀ M ∈ am_tab10, am_ok M := List.forall_mem_cons.mpr ⟨am_k230, List.forall_mem_cons.mpr ⟨am_k231, List.forall_mem_cons.mpr ⟨am_k232, List.forall_mem_cons.mpr ⟨am_k233, List.forall_mem_cons.mpr ⟨am_k234, List.forall_mem_cons.mpr ⟨am_k235, List.forall_mem_cons.mpr ⟨am_k236, List.forall_mem_cons.mpr ⟨am_k237, List.forall_mem_cons.mpr ⟨am_k238, List.forall_mem_cons.mpr ⟨am_k239, List.forall_mem_cons.mpr ⟨am_k240, List.forall_mem_cons.mpr ⟨am_k241, List.forall_mem_cons.mpr ⟨am_k242, List.forall_mem_cons.mpr ⟨am_k243, List.forall_mem_cons.mpr ⟨am_k244, List.forall_mem_cons.mpr ⟨am_k245, List.forall_mem_cons.mpr ⟨am_k246, List.forall_mem_cons.mpr ⟨am_k247, List.forall_mem_cons.mpr ⟨am_k248, List.forall_mem_cons.mpr ⟨am_k249, List.forall_mem_cons.mpr ⟨am_k250, List.forall_mem_cons.mpr ⟨am_k251, List.forall_mem_cons.mpr ⟨am_k252, fun _ h => absurd h List.not_mem_nil⟩⟩⟩⟩⟩⟩⟩⟩⟩⟩⟩⟩⟩⟩⟩⟩⟩⟩⟩⟩⟩⟩⟩
def am_tab11 : List am_M := [am_m253, am_m254, am_m255, am_m256, am_m257, am_m258, am_m259, am_m260, am_m261, am_m262, am_m263, am_m264, am_m265, am_m266, am_m267, am_m268, am_m269, am_m270, am_m271, am_m272, am_m273, am_m274, am_m275]
theorem am_tab11_ok : ∀ M ∈ am_tab11, am_ok M := List.forall_mem_cons.mpr ⟨am_k253, List.forall_mem_cons.mpr ⟨am_k254, List.forall_mem_cons.mpr ⟨am_k255, List.forall_mem_cons.mpr ⟨am_k256, List.forall_mem_cons.mpr ⟨am_k257, List.forall_mem_cons.mpr ⟨am_k258, List.forall_mem_cons.mpr ⟨am_k259, List.forall_mem_cons.mpr ⟨am_k260, List.forall_mem_cons.mpr ⟨am_k261, List.forall_mem_cons.mpr ⟨am_k262, List.forall_mem_cons.mpr ⟨am_k263, List.forall_mem_cons.mpr ⟨am_k264, List.forall_mem_cons.mpr ⟨am_k265, List.forall_mem_cons.mpr ⟨am_k266, List.forall_mem_cons.mpr ⟨am_k267, List.forall_mem_cons.mpr ⟨am_k268, List.forall_mem_cons.mpr ⟨am_k269, List.forall_mem_cons.mpr ⟨am_k270, List.forall_mem_cons.mpr ⟨am_k271, List.forall_mem_cons.mpr ⟨am_k272, List.forall_mem_cons.mpr ⟨am_k273, List.forall_mem_cons.mpr ⟨am_k274, List.forall_mem_cons.mpr ⟨am_k275, fun _ h => absurd h List.not_mem_nil⟩⟩⟩⟩⟩⟩⟩⟩⟩⟩⟩⟩⟩⟩⟩⟩⟩⟩⟩⟩⟩⟩⟩
def am_tab : List am_M := am_tab0 ++ (am_tab1 ++ (am_tab2 ++ (am_tab3 ++ (am_tab4 ++ (am_tab5 ++ (am_tab6 ++ (am_tab7 ++ (am_tab8 ++ (am_tab9 ++ (am_tab10 ++ (am_tab11)))))))))))
theorem am_tab_ok : ∀ M ∈ am_tab, am_ok M := List.forall_mem_append.mpr ⟨am_tab0_ok, List.forall_mem_append.mpr ⟨am_tab1_ok, List.forall_mem_append.mpr ⟨am_tab2_ok, List.forall_mem_append.mpr ⟨am_tab3_ok, List.forall_mem_append.mpr ⟨am_tab4_ok, List.forall_mem_append.mpr ⟨am_tab5_ok, List.forall_mem_append.mpr ⟨am_tab6_ok, List.forall_mem_append.mpr ⟨am_tab7_ok, List.forall_mem_append.mpr ⟨am_tab8_ok, List.forall_mem_append.mpr ⟨am_tab9_ok, List.forall_mem_append.mpr ⟨am_tab10_ok, am_tab11_ok⟩⟩⟩⟩⟩⟩⟩⟩⟩⟩⟩
theorem am_tab_own : am_tab.all (fun M => Nat.blt M.1.1 17 && (!M.1.2.2.1 || decide (M.2.2.2.1.name = "<init>")) && decide (M.2.2.2.1.cls = am_cn M.1.1)) = true := by decide +kernel
def am_vt (o : Nat) : List (Nat × Nat × Nat × Nat) := match o with
  | 0 => [(22, 1, 24, 0), (28, 5, 82, 0), (34, 1, 26, 0), (42, 8, 98, 0), (48, 8, 99, 0), (51, 8, 101, 0), (60, 1, 30, 0), (68, 1, 29, 0)]
  | 1 => [(15, 1, 24, 0), (21, 0, 9, 0), (25, 0, 1, 1), (28, 0, 3, 1), (31, 0, 10, 0), (34, 1, 26, 0), (38, 0, 15, 0), (46, 0, 17, 0), (50, 0, 4, 1), (53, 0, 5, 1), (61, 5, 82, 0), (67, 0, 11, 0), (74, 0, 2, 1), (78, 0, 14, 0), (81, 0, 12, 0), (84, 0, 13, 0), (88, 0, 16, 0), (94, 1, 28, 0), (98, 0, 18, 0), (102, 1, 29, 0), (105, 8, 93, 0), (108, 8, 95, 0), (112, 0, 20, 0), (121, 1, 30, 0), (125, 1, 33, 0), (128, 0, 6, 1), (140, 1, 31, 0), (146, 0, 21, 0), (151, 1, 32, 0), (155, 0, 22, 0), (158, 1, 27, 0)]
  | 2 => [(19, 1, 26, 0), (23, 1, 29, 0), (37, 1, 37, 0)]
  | 3 => [(37, 2, 45, 0), (40, 2, 46, 0)]
  | 4 => [(15, 1, 24, 0), (21, 3, 51, 0), (25, 3, 52, 0), (33, 1, 38, 0), (37, 3, 54, 0), (41, 3, 3, 1), (44, 3, 53, 0), (51, 3, 58, 0), (55, 3, 1, 1), (58, 3, 55, 0), (61, 3, 5, 1), (69, 5, 82, 0), (78, 3, 2, 1), (82, 1, 26, 0), (91, 1, 28, 0), (95, 1, 30, 0), (99, 3, 56, 0), (110, 3, 4, 1), (115, 8, 93, 0), (118, 8, 95, 0), (135, 3, 61, 0), (139, 3, 6, 1), (143, 1, 29, 0), (146, 3, 63, 0), (155, 1, 31, 0), (159, 1, 32, 0), (163, 3, 62, 0), (166, 1, 33, 0)]
  | 5 => [(23, 4, 66, 0), (34, 1, 36, 0), (43, 4, 68, 0), (47, 4, 69, 0), (50, 4, 4, 1), (53, 4, 70, 0), (59, 1, 28, 0), (69, 1, 30, 0), (76, 9, 107, 0), (82, 4, 72, 0), (89, 1, 24, 0), (93, 4, 5, 1), (104, 5, 82, 0), (114, 4, 2, 1), (118, 4, 67, 0), (131, 1, 26, 0), (148, 4, 71, 0), (161, 8, 93, 0), (164, 8, 95, 0), (171, 4, 74, 0), (175, 7, 85, 0), (181, 4, 76, 0), (185, 4, 77, 0), (189, 1, 32, 0), (193, 1, 35, 0), (203, 4, 6, 1), (211, 1, 27, 0), (214, 1, 33, 0)]
  | 8 => [(20, 7, 91, 0), (24, 1, 24, 0), (30, 7, 86, 0), (34, 7, 87, 0), (38, 7, 89, 0), (50, 7, 88, 0), (53, 7, 90, 0), (65, 1, 26, 0), (68, 1, 29, 0)]
  | 9 => [(22, 8, 95, 0), (30, 1, 24, 0), (35, 1, 37, 0), (39, 1, 39, 0), (46, 8, 96, 0), (50, 8, 100, 0), (54, 1, 28, 0), (57, 1, 30, 0), (64, 8, 104, 0), (79, 1, 26, 0)]
  | 10 => [(50, 9, 111, 0), (63, 1, 28, 0), (72, 9, 108, 0), (76, 5, 82, 0), (82, 9, 110, 0), (86, 9, 118, 0), (90, 9, 113, 0), (93, 9, 114, 0), (96, 1, 26, 0), (99, 2, 42, 0), (102, 2, 43, 0), (105, 2, 41, 0), (110, 1, 24, 0), (113, 1, 29, 0), (116, 9, 112, 0), (120, 2, 44, 0), (130, 2, 47, 0), (136, 9, 109, 0), (140, 9, 115, 0), (144, 9, 117, 0), (147, 2, 48, 0), (150, 9, 116, 0), (153, 9, 119, 0)]
  | 11 => [(86, 1, 24, 0), (95, 1, 34, 0), (101, 1, 28, 0), (104, 1, 25, 0), (113, 1, 26, 0), (117, 1, 30, 0), (129, 8, 98, 0), (138, 8, 99, 0), (143, 8, 101, 0), (147, 8, 93, 0), (148, 8, 95, 0), (154, 8, 100, 0), (171, 8, 96, 0), (175, 8, 97, 0), (180, 8, 102, 0), (183, 8, 103, 0), (197, 10, 141, 0), (203, 0, 19, 3), (203, 3, 60, 3), (203, 4, 73, 3), (207, 5, 81, 0), (210, 8, 94, 0), (211, 0, 8, 3), (211, 3, 50, 3), (211, 4, 65, 3), (215, 5, 79, 0), (218, 5, 80, 0), (223, 7, 85, 0), (226, 9, 107, 0), (241, 1, 27, 0)]
  | 12 => [(78, 11, 155, 0), (90, 11, 160, 0), (108, 11, 167, 0), (112, 11, 169, 0), (120, 11, 170, 0), (123, 11, 171, 0), (126, 11, 172, 0), (129, 11, 174, 0), (136, 11, 168, 0), (140, 11, 173, 0), (144, 11, 175, 0), (149, 11, 180, 0), (158, 11, 182, 0), (161, 11, 183, 0), (165, 11, 184, 0), (170, 11, 156, 0), (188, 11, 192, 0), (191, 11, 193, 0), (194, 11, 191, 0), (197, 11, 194, 0), (200, 11, 187, 0), (204, 11, 196, 0), (207, 11, 188, 0), (210, 11, 195, 0), (213, 11, 190, 0), (216, 11, 189, 0), (235, 11, 199, 0), (244, 11, 200, 0), (247, 11, 202, 0), (257, 11, 205, 0), (260, 11, 206, 0), (263, 11, 186, 0), (267, 11, 207, 0), (273, 11, 210, 0), (276, 11, 212, 0), (279, 11, 229, 0), (288, 11, 208, 0), (291, 11, 209, 0), (294, 11, 211, 0), (297, 11, 197, 0), (300, 11, 204, 0), (303, 11, 213, 0), (312, 11, 216, 0), (320, 11, 217, 0), (324, 11, 221, 0), (327, 11, 218, 0), (330, 11, 220, 0), (333, 11, 215, 0), (336, 11, 219, 0), (339, 11, 224, 0), (345, 11, 226, 0), (348, 11, 227, 0), (351, 11, 222, 0), (354, 11, 223, 0), (357, 11, 225, 0), (360, 11, 228, 0), (370, 11, 233, 0), (379, 11, 235, 0), (382, 11, 234, 0), (385, 11, 236, 0), (388, 11, 237, 0), (391, 11, 238, 0), (394, 11, 241, 0), (398, 11, 240, 0), (401, 11, 243, 0), (405, 11, 242, 0), (408, 11, 245, 0), (412, 11, 246, 0), (416, 11, 248, 0), (419, 11, 250, 0), (422, 11, 249, 0), (425, 11, 251, 0), (428, 11, 252, 0), (431, 11, 253, 0), (434, 11, 254, 0), (437, 11, 244, 0), (440, 11, 247, 0), (443, 11, 255, 0)]
  | 13 => [(7, 10, 121, 0), (17, 10, 122, 0), (21, 10, 123, 0), (27, 10, 124, 0), (33, 10, 125, 0), (36, 10, 126, 0), (40, 10, 127, 0), (43, 10, 129, 0), (46, 10, 130, 0), (49, 10, 131, 0), (52, 10, 132, 0), (55, 10, 136, 0), (59, 10, 137, 0), (62, 10, 138, 0), (65, 10, 139, 0), (69, 10, 140, 0), (83, 11, 157, 0), (84, 11, 153, 0), (91, 11, 158, 0), (95, 11, 159, 0), (99, 11, 176, 0), (102, 11, 177, 0), (106, 11, 178, 0), (109, 11, 179, 0), (110, 10, 128, 0), (113, 11, 181, 0), (116, 11, 185, 0), (119, 11, 256, 0), (122, 11, 214, 0), (125, 11, 166, 0), (126, 10, 133, 0), (129, 11, 239, 0), (130, 10, 134, 0), (133, 11, 230, 0), (134, 10, 135, 0), (137, 11, 232, 0), (141, 11, 161, 0), (144, 11, 162, 0), (147, 11, 163, 0), (150, 11, 164, 0), (153, 11, 165, 0)]
  | _ => []
def am_vn (o : Nat) : List (Nat × Nat) := match o with
  | 0 => [(22, 0), (28, 2), (34, 1), (42, 2), (48, 1), (51, 5), (60, 3), (68, 1)]
  | 1 => [(15, 0), (21, 1), (25, 1), (28, 1), (31, 1), (34, 1), (38, 2), (46, 2), (50, 1), (53, 6), (61, 2), (67, 1), (74, 3), (78, 2), (81, 1), (84, 3), (88, 1), (94, 1), (98, 2), (102, 1), (105, 0), (108, 1), (112, 1), (121, 3), (125, 1), (128, 2), (140, 1), (146, 2), (151, 1), (155, 1), (158, 2)]
  | 2 => [(19, 1), (23, 1), (37, 1)]
  | 3 => [(37, 0), (40, 2)]
  | 4 => [(15, 0), (21, 1), (25, 1), (33, 1), (37, 2), (41, 1), (44, 1), (51, 1), (55, 1), (58, 1), (61, 6), (69, 2), (78, 3), (82, 1), (91, 1), (95, 3), (99, 1), (110, 1), (115, 0), (118, 1), (135, 4), (139, 2), (143, 1), (146, 0), (155, 1), (159, 1), (163, 1), (166, 1)]
  | 5 => [(23, 0), (34, 2), (43, 1), (47, 1), (50, 1), (53, 1), (59, 1), (69, 3), (76, 3), (82, 1), (89, 0), (93, 6), (104, 2), (114, 3), (118, 3), (131, 1), (148, 1), (161, 0), (164, 1), (171, 2), (175, 1), (181, 2), (185, 1), (189, 1), (193, 2), (203, 2), (211, 2), (214, 1)]
  | 8 => [(20, 2), (24, 0), (30, 2), (34, 1), (38, 1), (50, 0), (53, 2), (65, 1), (68, 1)]
  | 9 => [(22, 1), (30, 0), (35, 1), (39, 1), (46, 1), (50, 1), (54, 1), (57, 3), (64, 2), (79, 1)]
  | 10 => [(50, 0), (63, 1), (72, 1), (76, 2), (82, 0), (86, 2), (90, 0), (93, 0), (96, 1), (99, 1), (102, 1), (105, 0), (110, 0), (113, 1), (116, 3), (120, 3), (130, 0), (136, 2), (140, 1), (144, 1), (147, 0), (150, 1), (153, 3)]
  | 11 => [(86, 0), (95, 2), (101, 1), (104, 1), (113, 1), (117, 3), (129, 2), (138, 1), (143, 5), (147, 0), (148, 1), (154, 1), (171, 1), (175, 1), (180, 1), (183, 2), (197, 1), (203, 2), (207, 0), (210, 0), (211, 1), (215, 0), (218, 0), (223, 1), (226, 3), (241, 2)]
  | 12 => [(78, 2), (90, 1), (108, 2), (112, 1), (120, 1), (123, 1), (126, 2), (129, 2), (136, 0), (140, 2), (144, 2), (149, 0), (158, 1), (161, 4), (165, 1), (170, 2), (188, 1), (191, 1), (194, 2), (197, 2), (200, 1), (204, 1), (207, 1), (210, 1), (213, 2), (216, 1), (235, 1), (244, 1), (247, 0), (257, 1), (260, 1), (263, 6), (267, 3), (273, 3), (276, 3), (279, 3), (288, 1), (291, 2), (294, 2), (297, 0), (300, 0), (303, 0), (312, 0), (320, 1), (324, 2), (327, 2), (330, 2), (333, 1), (336, 2), (339, 2), (345, 1), (348, 1), (351, 1), (354, 0), (357, 1), (360, 0), (370, 1), (379, 1), (382, 2), (385, 1), (388, 2), (391, 0), (394, 2), (398, 1), (401, 3), (405, 1), (408, 1), (412, 4), (416, 1), (419, 1), (422, 1), (425, 1), (428, 2), (431, 2), (434, 1), (437, 1), (440, 0), (443, 1)]
  | 13 => [(7, 2), (17, 1), (21, 1), (27, 2), (33, 1), (36, 2), (40, 2), (43, 2), (46, 2), (49, 1), (52, 1), (55, 5), (59, 1), (62, 2), (65, 2), (69, 1), (83, 2), (84, 0), (91, 1), (95, 1), (99, 2), (102, 1), (106, 2), (109, 2), (110, 0), (113, 0), (116, 2), (119, 2), (122, 1), (125, 1), (126, 0), (129, 0), (130, 0), (133, 0), (134, 0), (137, 0), (141, 5), (144, 1), (147, 2), (150, 2), (153, 1)]
  | _ => []
def am_sst (o : Nat) : List (Nat × Nat × Nat) := match o with
  | 0 => [(38, 142, 1)]
  | 1 => [(42, 147, 1)]
  | 4 => [(47, 147, 1), (86, 59, 0), (104, 57, 0)]
  | 5 => [(157, 146, 1), (199, 75, 0)]
  | 8 => [(42, 149, 1), (47, 148, 1), (59, 151, 1), (62, 150, 1)]
  | 9 => [(68, 144, 1), (71, 105, 0), (75, 145, 1)]
  | 10 => [(157, 148, 1), (160, 150, 1), (163, 149, 1), (166, 151, 1)]
  | 11 => [(121, 142, 0), (189, 144, 0), (192, 145, 0), (230, 146, 0), (247, 143, 0), (252, 148, 0), (255, 150, 0)]
  | 12 => [(74, 154, 0), (231, 198, 0), (241, 201, 0), (254, 203, 0), (285, 231, 0)]
  | _ => []
def am_spt (o : Nat) : List (Nat × Nat × Nat) := match o with
  | 1 => [(3, 0, 0)]
  | 4 => [(3, 0, 0)]
  | 5 => [(3, 0, 0)]
  | 7 => [(11, 23, 0)]
  | 9 => [(17, 83, 1)]
  | 10 => [(24, 40, 0)]
  | 11 => [(11, 23, 0), (29, 78, 0), (36, 84, 0), (45, 106, 0), (56, 7, 0), (59, 49, 0), (62, 64, 0), (71, 92, 0)]
  | 13 => [(72, 120, 0), (75, 152, 0)]
  | _ => []
def am_oi (o : Nat) : List Nat := match o with
  | 0 => [3]
  | 2 => [3]
  | 3 => [3]
  | 6 => [3]
  | 7 => [3]
  | 8 => [1]
  | 9 => [3]
  | 10 => [3]
  | 11 => [1]
  | 12 => [1]
  | _ => []
def am_lst : List (Nat × Nat × Nat) := [(78, 259, 2), (88, 260, 2), (92, 261, 2), (96, 262, 2), (100, 263, 2), (103, 264, 2), (107, 265, 2), (114, 266, 2), (117, 267, 2), (120, 268, 2), (123, 269, 2), (138, 270, 2), (142, 271, 2), (145, 272, 2), (148, 273, 2), (151, 274, 2)]
/-- a method's own words, plain: its code stands, its class is ready -/
def am_mok (M : am_M) : Prop := Cond.code M.2.2.2.1 M.2.1 M.1.2.1 M.2.2.1 ∈ lw_tbl ∧ Cond.initialized M.2.2.2.1.cls ∈ lw_tbl ∧ plainName M.2.2.2.1.cls = true ∧ (M.2.2.2.1.cls ≠ "java/lang/invoke/MethodHandle" ∧ M.2.2.2.1.cls ≠ "java/lang/invoke/VarHandle" ∧ (parseMethodDescriptor M.2.2.2.1.desc).map (fun d => d.parameters.length) = some M.2.2.2.2)
/-- the class of an object's kind -/
def am_kn (ci : Nat) : String := match am_cl[ci]? with
  | some q => q.1
  | none => ""
def am_vtok (own : String) (e : Nat × Nat × Nat × Nat) : Prop := ∃ M, am_tab[e.2.2.1]? = some M ∧ e.2.1 < 12 ∧ am_mok M ∧ Cond.instanceMethod M.2.2.2.1 ∈ lw_tbl ∧ (match e.2.2.2 with
    | 0 => Cond.methodLink own e.1 M.2.2.2.1 ∈ lw_tbl ∧ M.2.2.2.1.cls = am_kn e.2.1 ∧ Cond.selects (am_kn e.2.1) M.2.2.2.1 M.2.2.2.1 ∈ lw_tbl
    | 1 => Cond.methodLink own e.1 ⟨am_kn e.2.1, M.2.2.2.1.name, M.2.2.2.1.desc⟩ ∈ lw_tbl ∧ Cond.sameMethod (am_kn e.2.1) M.2.2.2.1.cls M.2.2.2.1.name M.2.2.2.1.desc ∈ lw_tbl ∧ Cond.selects (am_kn e.2.1) ⟨am_kn e.2.1, M.2.2.2.1.name, M.2.2.2.1.desc⟩ M.2.2.2.1 ∈ lw_tbl
    | 3 => Cond.methodLink own e.1 ⟨"ArchiveShelf$Archive", M.2.2.2.1.name, M.2.2.2.1.desc⟩ ∈ lw_tbl ∧ Cond.sameMethod "ArchiveShelf$Archive" "ArchiveShelf$Archive" M.2.2.2.1.name M.2.2.2.1.desc ∈ lw_tbl ∧ Cond.selects (am_kn e.2.1) ⟨"ArchiveShelf$Archive", M.2.2.2.1.name, M.2.2.2.1.desc⟩ M.2.2.2.1 ∈ lw_tbl ∧ Cond.declares ⟨"ArchiveShelf$Archive", M.2.2.2.1.name, M.2.2.2.1.desc⟩ ∈ lw_tbl
    | _ => False)
def am_sstok (own : String) (e : Nat × Nat × Nat) : Prop := ∃ M, am_tab[e.2.1]? = some M ∧ am_mok M ∧ Cond.static M.2.2.2.1 ∈ lw_tbl ∧ (match e.2.2 with
    | 0 => Cond.methodLink own e.1 M.2.2.2.1 ∈ lw_tbl
    | _ => Cond.methodLinkNest own e.1 M.2.2.2.1 "ArchiveShelf" ∈ lw_tbl)
def am_sptok (own : String) (e : Nat × Nat × Nat) : Prop := ∃ M, am_tab[e.2.1]? = some M ∧ am_mok M ∧ Cond.instanceMethod M.2.2.2.1 ∈ lw_tbl ∧ (M.2.2.2.1.name = "<init>" ∧ M.2.2.1 = none) ∧ (match e.2.2 with
    | 0 => Cond.methodLink own e.1 M.2.2.2.1 ∈ lw_tbl
    | _ => Cond.methodLinkNest own e.1 M.2.2.2.1 "ArchiveShelf" ∈ lw_tbl)
def am_oiok (own : String) (e : Nat) : Bool := decide (Cond.methodLink own e objectInit ∈ lw_tbl)
theorem am_q0 : am_mok am_m0 := ⟨am_tb1 (List.mem_of_getElem? (i := 194) rfl), am_tb1 (List.mem_of_getElem? (i := 8) rfl), by decide +kernel, by decide +kernel⟩
theorem am_q1 : am_mok am_m1 := ⟨am_tb5 (List.mem_of_getElem? (i := 69) rfl), am_tb1 (List.mem_of_getElem? (i := 8) rfl), by decide +kernel, by decide +kernel⟩
theorem am_q2 : am_mok am_m2 := ⟨am_tb5 (List.mem_of_getElem? (i := 100) rfl), am_tb1 (List.mem_of_getElem? (i := 8) rfl), by decide +kernel, by decide +kernel⟩
theorem am_q3 : am_mok am_m3 := ⟨am_tb5 (List.mem_of_getElem? (i := 76) rfl), am_tb1 (List.mem_of_getElem? (i := 8) rfl), by decide +kernel, by decide +kernel⟩
theorem am_q4 : am_mok am_m4 := ⟨am_tb5 (List.mem_of_getElem? (i := 123) rfl), am_tb1 (List.mem_of_getElem? (i := 8) rfl), by decide +kernel, by decide +kernel⟩
theorem am_q5 : am_mok am_m5 := ⟨am_tb5 (List.mem_of_getElem? (i := 130) rfl), am_tb1 (List.mem_of_getElem? (i := 8) rfl), by decide +kernel, by decide +kernel⟩
theorem am_q6 : am_mok am_m6 := ⟨am_tb4 (List.mem_of_getElem? (i := 113) rfl), am_tb1 (List.mem_of_getElem? (i := 8) rfl), by decide +kernel, by decide +kernel⟩
theorem am_q7 : am_mok am_m7 := ⟨am_tb1 (List.mem_of_getElem? (i := 191) rfl), am_tb1 (List.mem_of_getElem? (i := 9) rfl), by decide +kernel, by decide +kernel⟩
theorem am_q8 : am_mok am_m8 := ⟨am_tb5 (List.mem_of_getElem? (i := 59) rfl), am_tb1 (List.mem_of_getElem? (i := 9) rfl), by decide +kernel, by decide +kernel⟩
theorem am_q9 : am_mok am_m9 := ⟨am_tb5 (List.mem_of_getElem? (i := 63) rfl), am_tb1 (List.mem_of_getElem? (i := 9) rfl), by decide +kernel, by decide +kernel⟩
theorem am_q10 : am_mok am_m10 := ⟨am_tb5 (List.mem_of_getElem? (i := 81) rfl), am_tb1 (List.mem_of_getElem? (i := 9) rfl), by decide +kernel, by decide +kernel⟩
theorem am_q11 : am_mok am_m11 := ⟨am_tb5 (List.mem_of_getElem? (i := 85) rfl), am_tb1 (List.mem_of_getElem? (i := 9) rfl), by decide +kernel, by decide +kernel⟩
theorem am_q12 : am_mok am_m12 := ⟨am_tb5 (List.mem_of_getElem? (i := 108) rfl), am_tb1 (List.mem_of_getElem? (i := 9) rfl), by decide +kernel, by decide +kernel⟩
theorem am_q13 : am_mok am_m13 := ⟨am_tb5 (List.mem_of_getElem? (i := 89) rfl), am_tb1 (List.mem_of_getElem? (i := 9) rfl), by decide +kernel, by decide +kernel⟩
theorem am_q14 : am_mok am_m14 := ⟨am_tb5 (List.mem_of_getElem? (i := 104) rfl), am_tb1 (List.mem_of_getElem? (i := 9) rfl), by decide +kernel, by decide +kernel⟩
theorem am_q15 : am_mok am_m15 := ⟨am_tb5 (List.mem_of_getElem? (i := 94) rfl), am_tb1 (List.mem_of_getElem? (i := 9) rfl), by decide +kernel, by decide +kernel⟩
theorem am_q16 : am_mok am_m16 := ⟨am_tb4 (List.mem_of_getElem? (i := 195) rfl), am_tb1 (List.mem_of_getElem? (i := 9) rfl), by decide +kernel, by decide +kernel⟩
theorem am_q17 : am_mok am_m17 := ⟨am_tb5 (List.mem_of_getElem? (i := 112) rfl), am_tb1 (List.mem_of_getElem? (i := 9) rfl), by decide +kernel, by decide +kernel⟩
theorem am_q18 : am_mok am_m18 := ⟨am_tb5 (List.mem_of_getElem? (i := 117) rfl), am_tb1 (List.mem_of_getElem? (i := 9) rfl), by decide +kernel, by decide +kernel⟩
theorem am_q19 : am_mok am_m19 := ⟨am_tb4 (List.mem_of_getElem? (i := 100) rfl), am_tb1 (List.mem_of_getElem? (i := 9) rfl), by decide +kernel, by decide +kernel⟩
theorem am_q20 : am_mok am_m20 := ⟨am_tb4 (List.mem_of_getElem? (i := 106) rfl), am_tb1 (List.mem_of_getElem? (i := 9) rfl), by decide +kernel, by decide +kernel⟩
theorem am_q21 : am_mok am_m21 := ⟨am_tb4 (List.mem_of_getElem? (i := 180) rfl), am_tb1 (List.mem_of_getElem? (i := 9) rfl), by decide +kernel, by decide +kernel⟩
theorem am_q22 : am_mok am_m22 := ⟨am_tb4 (List.mem_of_getElem? (i := 191) rfl), am_tb1 (List.mem_of_getElem? (i := 9) rfl), by decide +kernel, by decide +kernel⟩
theorem am_q23 : am_mok am_m23 := ⟨am_tb1 (List.mem_of_getElem? (i := 38) rfl), am_tb1 (List.mem_of_getElem? (i := 2) rfl), by decide +kernel, by decide +kernel⟩
theorem am_q24 : am_mok am_m24 := ⟨am_tb2 (List.mem_of_getElem? (i := 128) rfl), am_tb1 (List.mem_of_getElem? (i := 2) rfl), by decide +kernel, by decide +kernel⟩
theorem am_q25 : am_mok am_m25 := ⟨am_tb3 (List.mem_of_getElem? (i := 191) rfl), am_tb1 (List.mem_of_getElem? (i := 2) rfl), by decide +kernel, by decide +kernel⟩
theorem am_q26 : am_mok am_m26 := ⟨am_tb2 (List.mem_of_getElem? (i := 145) rfl), am_tb1 (List.mem_of_getElem? (i := 2) rfl), by decide +kernel, by decide +kernel⟩
theorem am_q27 : am_mok am_m27 := ⟨am_tb4 (List.mem_of_getElem? (i := 200) rfl), am_tb1 (List.mem_of_getElem? (i := 2) rfl), by decide +kernel, by decide +kernel⟩
theorem am_q28 : am_mok am_m28 := ⟨am_tb2 (List.mem_of_getElem? (i := 163) rfl), am_tb1 (List.mem_of_getElem? (i := 2) rfl), by decide +kernel, by decide +kernel⟩
theorem am_q29 : am_mok am_m29 := ⟨am_tb2 (List.mem_of_getElem? (i := 175) rfl), am_tb1 (List.mem_of_getElem? (i := 2) rfl), by decide +kernel, by decide +kernel⟩
theorem am_q30 : am_mok am_m30 := ⟨am_tb3 (List.mem_of_getElem? (i := 63) rfl), am_tb1 (List.mem_of_getElem? (i := 2) rfl), by decide +kernel, by decide +kernel⟩
theorem am_q31 : am_mok am_m31 := ⟨am_tb4 (List.mem_of_getElem? (i := 126) rfl), am_tb1 (List.mem_of_getElem? (i := 2) rfl), by decide +kernel, by decide +kernel⟩
theorem am_q32 : am_mok am_m32 := ⟨am_tb4 (List.mem_of_getElem? (i := 187) rfl), am_tb1 (List.mem_of_getElem? (i := 2) rfl), by decide +kernel, by decide +kernel⟩
theorem am_q33 : am_mok am_m33 := ⟨am_tb4 (List.mem_of_getElem? (i := 120) rfl), am_tb1 (List.mem_of_getElem? (i := 2) rfl), by decide +kernel, by decide +kernel⟩
theorem am_q34 : am_mok am_m34 := ⟨am_tb3 (List.mem_of_getElem? (i := 171) rfl), am_tb1 (List.mem_of_getElem? (i := 2) rfl), by decide +kernel, by decide +kernel⟩
theorem am_q35 : am_mok am_m35 := ⟨am_tb5 (List.mem_of_getElem? (i := 14) rfl), am_tb1 (List.mem_of_getElem? (i := 2) rfl), by decide +kernel, by decide +kernel⟩
theorem am_q36 : am_mok am_m36 := ⟨am_tb5 (List.mem_of_getElem? (i := 40) rfl), am_tb1 (List.mem_of_getElem? (i := 2) rfl), by decide +kernel, by decide +kernel⟩
theorem am_q37 : am_mok am_m37 := ⟨am_tb2 (List.mem_of_getElem? (i := 141) rfl), am_tb1 (List.mem_of_getElem? (i := 2) rfl), by decide +kernel, by decide +kernel⟩
theorem am_q38 : am_mok am_m38 := ⟨am_tb5 (List.mem_of_getElem? (i := 165) rfl), am_tb1 (List.mem_of_getElem? (i := 2) rfl), by decide +kernel, by decide +kernel⟩
theorem am_q39 : am_mok am_m39 := ⟨am_tb2 (List.mem_of_getElem? (i := 154) rfl), am_tb1 (List.mem_of_getElem? (i := 2) rfl), by decide +kernel, by decide +kernel⟩
theorem am_q40 : am_mok am_m40 := ⟨am_tb1 (List.mem_of_getElem? (i := 90) rfl), am_tb1 (List.mem_of_getElem? (i := 6) rfl), by decide +kernel, by decide +kernel⟩
theorem am_q41 : am_mok am_m41 := ⟨am_tb3 (List.mem_of_getElem? (i := 22) rfl), am_tb1 (List.mem_of_getElem? (i := 6) rfl), by decide +kernel, by decide +kernel⟩
theorem am_q42 : am_mok am_m42 := ⟨am_tb3 (List.mem_of_getElem? (i := 14) rfl), am_tb1 (List.mem_of_getElem? (i := 6) rfl), by decide +kernel, by decide +kernel⟩
theorem am_q43 : am_mok am_m43 := ⟨am_tb3 (List.mem_of_getElem? (i := 18) rfl), am_tb1 (List.mem_of_getElem? (i := 6) rfl), by decide +kernel, by decide +kernel⟩
theorem am_q44 : am_mok am_m44 := ⟨am_tb1 (List.mem_of_getElem? (i := 121) rfl), am_tb1 (List.mem_of_getElem? (i := 6) rfl), by decide +kernel, by decide +kernel⟩
theorem am_q45 : am_mok am_m45 := ⟨am_tb1 (List.mem_of_getElem? (i := 131) rfl), am_tb1 (List.mem_of_getElem? (i := 6) rfl), by decide +kernel, by decide +kernel⟩
theorem am_q46 : am_mok am_m46 := ⟨am_tb1 (List.mem_of_getElem? (i := 135) rfl), am_tb1 (List.mem_of_getElem? (i := 6) rfl), by decide +kernel, by decide +kernel⟩
theorem am_q47 : am_mok am_m47 := ⟨am_tb3 (List.mem_of_getElem? (i := 38) rfl), am_tb1 (List.mem_of_getElem? (i := 6) rfl), by decide +kernel, by decide +kernel⟩
theorem am_q48 : am_mok am_m48 := ⟨am_tb3 (List.mem_of_getElem? (i := 59) rfl), am_tb1 (List.mem_of_getElem? (i := 6) rfl), by decide +kernel, by decide +kernel⟩
theorem am_q49 : am_mok am_m49 := ⟨am_tb1 (List.mem_of_getElem? (i := 228) rfl), am_tb1 (List.mem_of_getElem? (i := 10) rfl), by decide +kernel, by decide +kernel⟩
theorem am_q50 : am_mok am_m50 := ⟨am_tb5 (List.mem_of_getElem? (i := 136) rfl), am_tb1 (List.mem_of_getElem? (i := 10) rfl), by decide +kernel, by decide +kernel⟩
theorem am_q51 : am_mok am_m51 := ⟨am_tb5 (List.mem_of_getElem? (i := 140) rfl), am_tb1 (List.mem_of_getElem? (i := 10) rfl), by decide +kernel, by decide +kernel⟩
theorem am_q52 : am_mok am_m52 := ⟨am_tb5 (List.mem_of_getElem? (i := 152) rfl), am_tb1 (List.mem_of_getElem? (i := 10) rfl), by decide +kernel, by decide +kernel⟩
theorem am_q53 : am_mok am_m53 := ⟨am_tb5 (List.mem_of_getElem? (i := 176) rfl), am_tb1 (List.mem_of_getElem? (i := 10) rfl), by decide +kernel, by decide +kernel⟩
theorem am_q54 : am_mok am_m54 := ⟨am_tb5 (List.mem_of_getElem? (i := 169) rfl), am_tb1 (List.mem_of_getElem? (i := 10) rfl), by decide +kernel, by decide +kernel⟩
theorem am_q55 : am_mok am_m55 := ⟨am_tb5 (List.mem_of_getElem? (i := 190) rfl), am_tb1 (List.mem_of_getElem? (i := 10) rfl), by decide +kernel, by decide +kernel⟩
theorem am_q56 : am_mok am_m56 := ⟨am_tb5 (List.mem_of_getElem? (i := 180) rfl), am_tb1 (List.mem_of_getElem? (i := 10) rfl), by decide +kernel, by decide +kernel⟩
theorem am_q57 : am_mok am_m57 := ⟨am_tb5 (List.mem_of_getElem? (i := 183) rfl), am_tb1 (List.mem_of_getElem? (i := 10) rfl), by decide +kernel, by decide +kernel⟩
theorem am_q58 : am_mok am_m58 := ⟨am_tb5 (List.mem_of_getElem? (i := 156) rfl), am_tb1 (List.mem_of_getElem? (i := 10) rfl), by decide +kernel, by decide +kernel⟩
theorem am_q59 : am_mok am_m59 := ⟨am_tb5 (List.mem_of_getElem? (i := 147) rfl), am_tb1 (List.mem_of_getElem? (i := 10) rfl), by decide +kernel, by decide +kernel⟩
theorem am_q60 : am_mok am_m60 := ⟨am_tb4 (List.mem_of_getElem? (i := 207) rfl), am_tb1 (List.mem_of_getElem? (i := 10) rfl), by decide +kernel, by decide +kernel⟩
theorem am_q61 : am_mok am_m61 := ⟨am_tb4 (List.mem_of_getElem? (i := 215) rfl), am_tb1 (List.mem_of_getElem? (i := 10) rfl), by decide +kernel, by decide +kernel⟩
theorem am_q62 : am_mok am_m62 := ⟨am_tb4 (List.mem_of_getElem? (i := 222) rfl), am_tb1 (List.mem_of_getElem? (i := 10) rfl), by decide +kernel, by decide +kernel⟩
theorem am_q63 : am_mok am_m63 := ⟨am_tb4 (List.mem_of_getElem? (i := 230) rfl), am_tb1 (List.mem_of_getElem? (i := 10) rfl), by decide +kernel, by decide +kernel⟩
theorem am_q64 : am_mok am_m64 := ⟨am_tb1 (List.mem_of_getElem? (i := 238) rfl), am_tb1 (List.mem_of_getElem? (i := 11) rfl), by decide +kernel, by decide +kernel⟩
theorem am_q65 : am_mok am_m65 := ⟨am_tb5 (List.mem_of_getElem? (i := 199) rfl), am_tb1 (List.mem_of_getElem? (i := 11) rfl), by decide +kernel, by decide +kernel⟩
theorem am_q66 : am_mok am_m66 := ⟨am_tb5 (List.mem_of_getElem? (i := 203) rfl), am_tb1 (List.mem_of_getElem? (i := 11) rfl), by decide +kernel, by decide +kernel⟩
theorem am_q67 : am_mok am_m67 := ⟨am_tb5 (List.mem_of_getElem? (i := 211) rfl), am_tb1 (List.mem_of_getElem? (i := 11) rfl), by decide +kernel, by decide +kernel⟩
theorem am_q68 : am_mok am_m68 := ⟨am_tb5 (List.mem_of_getElem? (i := 216) rfl), am_tb1 (List.mem_of_getElem? (i := 11) rfl), by decide +kernel, by decide +kernel⟩
theorem am_q69 : am_mok am_m69 := ⟨am_tb5 (List.mem_of_getElem? (i := 220) rfl), am_tb1 (List.mem_of_getElem? (i := 11) rfl), by decide +kernel, by decide +kernel⟩
theorem am_q70 : am_mok am_m70 := ⟨am_tb5 (List.mem_of_getElem? (i := 230) rfl), am_tb1 (List.mem_of_getElem? (i := 11) rfl), by decide +kernel, by decide +kernel⟩
theorem am_q71 : am_mok am_m71 := ⟨am_tb5 (List.mem_of_getElem? (i := 235) rfl), am_tb1 (List.mem_of_getElem? (i := 11) rfl), by decide +kernel, by decide +kernel⟩
theorem am_q72 : am_mok am_m72 := ⟨am_tb6 (List.mem_of_getElem? (i := 4) rfl), am_tb1 (List.mem_of_getElem? (i := 11) rfl), by decide +kernel, by decide +kernel⟩
theorem am_q73 : am_mok am_m73 := ⟨am_tb4 (List.mem_of_getElem? (i := 239) rfl), am_tb1 (List.mem_of_getElem? (i := 11) rfl), by decide +kernel, by decide +kernel⟩
theorem am_q74 : am_mok am_m74 := ⟨am_tb5 (List.mem_of_getElem? (i := 6) rfl), am_tb1 (List.mem_of_getElem? (i := 11) rfl), by decide +kernel, by decide +kernel⟩
theorem am_q75 : am_mok am_m75 := ⟨am_tb5 (List.mem_of_getElem? (i := 19) rfl), am_tb1 (List.mem_of_getElem? (i := 11) rfl), by decide +kernel, by decide +kernel⟩
theorem am_q76 : am_mok am_m76 := ⟨am_tb5 (List.mem_of_getElem? (i := 28) rfl), am_tb1 (List.mem_of_getElem? (i := 11) rfl), by decide +kernel, by decide +kernel⟩
theorem am_q77 : am_mok am_m77 := ⟨am_tb5 (List.mem_of_getElem? (i := 33) rfl), am_tb1 (List.mem_of_getElem? (i := 11) rfl), by decide +kernel, by decide +kernel⟩
theorem am_q78 : am_mok am_m78 := ⟨am_tb1 (List.mem_of_getElem? (i := 52) rfl), am_tb1 (List.mem_of_getElem? (i := 3) rfl), by decide +kernel, by decide +kernel⟩
theorem am_q79 : am_mok am_m79 := ⟨am_tb6 (List.mem_of_getElem? (i := 18) rfl), am_tb1 (List.mem_of_getElem? (i := 3) rfl), by decide +kernel, by decide +kernel⟩
theorem am_q80 : am_mok am_m80 := ⟨am_tb6 (List.mem_of_getElem? (i := 22) rfl), am_tb1 (List.mem_of_getElem? (i := 3) rfl), by decide +kernel, by decide +kernel⟩
theorem am_q81 : am_mok am_m81 := ⟨am_tb2 (List.mem_of_getElem? (i := 220) rfl), am_tb1 (List.mem_of_getElem? (i := 3) rfl), by decide +kernel, by decide +kernel⟩
theorem am_q82 : am_mok am_m82 := ⟨am_tb2 (List.mem_of_getElem? (i := 234) rfl), am_tb1 (List.mem_of_getElem? (i := 3) rfl), by decide +kernel, by decide +kernel⟩
theorem am_q83 : am_mok am_m83 := ⟨am_tb2 (List.mem_of_getElem? (i := 54) rfl), am_tb1 (List.mem_of_getElem? (i := 13) rfl), by decide +kernel, by decide +kernel⟩
theorem am_q84 : am_mok am_m84 := ⟨am_tb1 (List.mem_of_getElem? (i := 65) rfl), am_tb1 (List.mem_of_getElem? (i := 4) rfl), by decide +kernel, by decide +kernel⟩
theorem am_q85 : am_mok am_m85 := ⟨am_tb2 (List.mem_of_getElem? (i := 167) rfl), am_tb1 (List.mem_of_getElem? (i := 4) rfl), by decide +kernel, by decide +kernel⟩
theorem am_q86 : am_mok am_m86 := ⟨am_tb2 (List.mem_of_getElem? (i := 180) rfl), am_tb1 (List.mem_of_getElem? (i := 4) rfl), by decide +kernel, by decide +kernel⟩
theorem am_q87 : am_mok am_m87 := ⟨am_tb2 (List.mem_of_getElem? (i := 186) rfl), am_tb1 (List.mem_of_getElem? (i := 4) rfl), by decide +kernel, by decide +kernel⟩
theorem am_q88 : am_mok am_m88 := ⟨am_tb2 (List.mem_of_getElem? (i := 205) rfl), am_tb1 (List.mem_of_getElem? (i := 4) rfl), by decide +kernel, by decide +kernel⟩
theorem am_q89 : am_mok am_m89 := ⟨am_tb2 (List.mem_of_getElem? (i := 196) rfl), am_tb1 (List.mem_of_getElem? (i := 4) rfl), by decide +kernel, by decide +kernel⟩
theorem am_q90 : am_mok am_m90 := ⟨am_tb2 (List.mem_of_getElem? (i := 200) rfl), am_tb1 (List.mem_of_getElem? (i := 4) rfl), by decide +kernel, by decide +kernel⟩
theorem am_q91 : am_mok am_m91 := ⟨am_tb2 (List.mem_of_getElem? (i := 171) rfl), am_tb1 (List.mem_of_getElem? (i := 4) rfl), by decide +kernel, by decide +kernel⟩
theorem am_q92 : am_mok am_m92 := ⟨am_tb2 (List.mem_of_getElem? (i := 47) rfl), am_tb1 (List.mem_of_getElem? (i := 12) rfl), by decide +kernel, by decide +kernel⟩
theorem am_q93 : am_mok am_m93 := ⟨am_tb4 (List.mem_of_getElem? (i := 23) rfl), am_tb1 (List.mem_of_getElem? (i := 12) rfl), by decide +kernel, by decide +kernel⟩
theorem am_q94 : am_mok am_m94 := ⟨am_tb5 (List.mem_of_getElem? (i := 53) rfl), am_tb1 (List.mem_of_getElem? (i := 12) rfl), by decide +kernel, by decide +kernel⟩
theorem am_q95 : am_mok am_m95 := ⟨am_tb2 (List.mem_of_getElem? (i := 136) rfl), am_tb1 (List.mem_of_getElem? (i := 12) rfl), by decide +kernel, by decide +kernel⟩
theorem am_q96 : am_mok am_m96 := ⟨am_tb2 (List.mem_of_getElem? (i := 132) rfl), am_tb1 (List.mem_of_getElem? (i := 12) rfl), by decide +kernel, by decide +kernel⟩
theorem am_q97 : am_mok am_m97 := ⟨am_tb2 (List.mem_of_getElem? (i := 150) rfl), am_tb1 (List.mem_of_getElem? (i := 12) rfl), by decide +kernel, by decide +kernel⟩
theorem am_q98 : am_mok am_m98 := ⟨am_tb3 (List.mem_of_getElem? (i := 227) rfl), am_tb1 (List.mem_of_getElem? (i := 12) rfl), by decide +kernel, by decide +kernel⟩
theorem am_q99 : am_mok am_m99 := ⟨am_tb4 (List.mem_of_getElem? (i := 7) rfl), am_tb1 (List.mem_of_getElem? (i := 12) rfl), by decide +kernel, by decide +kernel⟩
theorem am_q100 : am_mok am_m100 := ⟨am_tb4 (List.mem_of_getElem? (i := 17) rfl), am_tb1 (List.mem_of_getElem? (i := 12) rfl), by decide +kernel, by decide +kernel⟩
theorem am_q101 : am_mok am_m101 := ⟨am_tb4 (List.mem_of_getElem? (i := 13) rfl), am_tb1 (List.mem_of_getElem? (i := 12) rfl), by decide +kernel, by decide +kernel⟩
theorem am_q102 : am_mok am_m102 := ⟨am_tb4 (List.mem_of_getElem? (i := 60) rfl), am_tb1 (List.mem_of_getElem? (i := 12) rfl), by decide +kernel, by decide +kernel⟩
theorem am_q103 : am_mok am_m103 := ⟨am_tb4 (List.mem_of_getElem? (i := 78) rfl), am_tb1 (List.mem_of_getElem? (i := 12) rfl), by decide +kernel, by decide +kernel⟩
theorem am_q104 : am_mok am_m104 := ⟨am_tb4 (List.mem_of_getElem? (i := 64) rfl), am_tb1 (List.mem_of_getElem? (i := 12) rfl), by decide +kernel, by decide +kernel⟩
theorem am_q105 : am_mok am_m105 := ⟨am_tb4 (List.mem_of_getElem? (i := 70) rfl), am_tb1 (List.mem_of_getElem? (i := 12) rfl), by decide +kernel, by decide +kernel⟩
theorem am_q106 : am_mok am_m106 := ⟨am_tb1 (List.mem_of_getElem? (i := 84) rfl), am_tb1 (List.mem_of_getElem? (i := 5) rfl), by decide +kernel, by decide +kernel⟩
theorem am_q107 : am_mok am_m107 := ⟨am_tb2 (List.mem_of_getElem? (i := 224) rfl), am_tb1 (List.mem_of_getElem? (i := 5) rfl), by decide +kernel, by decide +kernel⟩
theorem am_q108 : am_mok am_m108 := ⟨am_tb2 (List.mem_of_getElem? (i := 230) rfl), am_tb1 (List.mem_of_getElem? (i := 5) rfl), by decide +kernel, by decide +kernel⟩
theorem am_q109 : am_mok am_m109 := ⟨am_tb3 (List.mem_of_getElem? (i := 10) rfl), am_tb1 (List.mem_of_getElem? (i := 5) rfl), by decide +kernel, by decide +kernel⟩
theorem am_q110 : am_mok am_m110 := ⟨am_tb2 (List.mem_of_getElem? (i := 239) rfl), am_tb1 (List.mem_of_getElem? (i := 5) rfl), by decide +kernel, by decide +kernel⟩
theorem am_q111 : am_mok am_m111 := ⟨am_tb1 (List.mem_of_getElem? (i := 113) rfl), am_tb1 (List.mem_of_getElem? (i := 5) rfl), by decide +kernel, by decide +kernel⟩
theorem am_q112 : am_mok am_m112 := ⟨am_tb1 (List.mem_of_getElem? (i := 117) rfl), am_tb1 (List.mem_of_getElem? (i := 5) rfl), by decide +kernel, by decide +kernel⟩
theorem am_q113 : am_mok am_m113 := ⟨am_tb3 (List.mem_of_getElem? (i := 34) rfl), am_tb1 (List.mem_of_getElem? (i := 5) rfl), by decide +kernel, by decide +kernel⟩
theorem am_q114 : am_mok am_m114 := ⟨am_tb3 (List.mem_of_getElem? (i := 43) rfl), am_tb1 (List.mem_of_getElem? (i := 5) rfl), by decide +kernel, by decide +kernel⟩
theorem am_q115 : am_mok am_m115 := ⟨am_tb3 (List.mem_of_getElem? (i := 47) rfl), am_tb1 (List.mem_of_getElem? (i := 5) rfl), by decide +kernel, by decide +kernel⟩
theorem am_q116 : am_mok am_m116 := ⟨am_tb3 (List.mem_of_getElem? (i := 51) rfl), am_tb1 (List.mem_of_getElem? (i := 5) rfl), by decide +kernel, by decide +kernel⟩
theorem am_q117 : am_mok am_m117 := ⟨am_tb3 (List.mem_of_getElem? (i := 55) rfl), am_tb1 (List.mem_of_getElem? (i := 5) rfl), by decide +kernel, by decide +kernel⟩
theorem am_q118 : am_mok am_m118 := ⟨am_tb3 (List.mem_of_getElem? (i := 6) rfl), am_tb1 (List.mem_of_getElem? (i := 5) rfl), by decide +kernel, by decide +kernel⟩
theorem am_q119 : am_mok am_m119 := ⟨am_tb3 (List.mem_of_getElem? (i := 26) rfl), am_tb1 (List.mem_of_getElem? (i := 5) rfl), by decide +kernel, by decide +kernel⟩
theorem am_q120 : am_mok am_m120 := ⟨am_tb1 (List.mem_of_getElem? (i := 30) rfl), am_tb1 (List.mem_of_getElem? (i := 1) rfl), by decide +kernel, by decide +kernel⟩
theorem am_q121 : am_mok am_m121 := ⟨am_tb3 (List.mem_of_getElem? (i := 82) rfl), am_tb1 (List.mem_of_getElem? (i := 1) rfl), by decide +kernel, by decide +kernel⟩
theorem am_q122 : am_mok am_m122 := ⟨am_tb3 (List.mem_of_getElem? (i := 178) rfl), am_tb1 (List.mem_of_getElem? (i := 1) rfl), by decide +kernel, by decide +kernel⟩
theorem am_q123 : am_mok am_m123 := ⟨am_tb3 (List.mem_of_getElem? (i := 187) rfl), am_tb1 (List.mem_of_getElem? (i := 1) rfl), by decide +kernel, by decide +kernel⟩
theorem am_q124 : am_mok am_m124 := ⟨am_tb3 (List.mem_of_getElem? (i := 215) rfl), am_tb1 (List.mem_of_getElem? (i := 1) rfl), by decide +kernel, by decide +kernel⟩
theorem am_q125 : am_mok am_m125 := ⟨am_tb4 (List.mem_of_getElem? (i := 30) rfl), am_tb1 (List.mem_of_getElem? (i := 1) rfl), by decide +kernel, by decide +kernel⟩
theorem am_q126 : am_mok am_m126 := ⟨am_tb4 (List.mem_of_getElem? (i := 39) rfl), am_tb1 (List.mem_of_getElem? (i := 1) rfl), by decide +kernel, by decide +kernel⟩
theorem am_q127 : am_mok am_m127 := ⟨am_tb4 (List.mem_of_getElem? (i := 47) rfl), am_tb1 (List.mem_of_getElem? (i := 1) rfl), by decide +kernel, by decide +kernel⟩
theorem am_q128 : am_mok am_m128 := ⟨am_tb2 (List.mem_of_getElem? (i := 124) rfl), am_tb1 (List.mem_of_getElem? (i := 1) rfl), by decide +kernel, by decide +kernel⟩
theorem am_q129 : am_mok am_m129 := ⟨am_tb4 (List.mem_of_getElem? (i := 55) rfl), am_tb1 (List.mem_of_getElem? (i := 1) rfl), by decide +kernel, by decide +kernel⟩
theorem am_q130 : am_mok am_m130 := ⟨am_tb4 (List.mem_of_getElem? (i := 89) rfl), am_tb1 (List.mem_of_getElem? (i := 1) rfl), by decide +kernel, by decide +kernel⟩
theorem am_q131 : am_mok am_m131 := ⟨am_tb5 (List.mem_of_getElem? (i := 49) rfl), am_tb1 (List.mem_of_getElem? (i := 1) rfl), by decide +kernel, by decide +kernel⟩
theorem am_q132 : am_mok am_m132 := ⟨am_tb6 (List.mem_of_getElem? (i := 14) rfl), am_tb1 (List.mem_of_getElem? (i := 1) rfl), by decide +kernel, by decide +kernel⟩
theorem am_q133 : am_mok am_m133 := ⟨am_tb2 (List.mem_of_getElem? (i := 159) rfl), am_tb1 (List.mem_of_getElem? (i := 1) rfl), by decide +kernel, by decide +kernel⟩
theorem am_q134 : am_mok am_m134 := ⟨am_tb2 (List.mem_of_getElem? (i := 216) rfl), am_tb1 (List.mem_of_getElem? (i := 1) rfl), by decide +kernel, by decide +kernel⟩
theorem am_q135 : am_mok am_m135 := ⟨am_tb3 (List.mem_of_getElem? (i := 68) rfl), am_tb1 (List.mem_of_getElem? (i := 1) rfl), by decide +kernel, by decide +kernel⟩
theorem am_q136 : am_mok am_m136 := ⟨am_tb6 (List.mem_of_getElem? (i := 30) rfl), am_tb1 (List.mem_of_getElem? (i := 1) rfl), by decide +kernel, by decide +kernel⟩
theorem am_q137 : am_mok am_m137 := ⟨am_tb6 (List.mem_of_getElem? (i := 38) rfl), am_tb1 (List.mem_of_getElem? (i := 1) rfl), by decide +kernel, by decide +kernel⟩
theorem am_q138 : am_mok am_m138 := ⟨am_tb6 (List.mem_of_getElem? (i := 46) rfl), am_tb1 (List.mem_of_getElem? (i := 1) rfl), by decide +kernel, by decide +kernel⟩
theorem am_q139 : am_mok am_m139 := ⟨am_tb6 (List.mem_of_getElem? (i := 56) rfl), am_tb1 (List.mem_of_getElem? (i := 1) rfl), by decide +kernel, by decide +kernel⟩
theorem am_q140 : am_mok am_m140 := ⟨am_tb6 (List.mem_of_getElem? (i := 64) rfl), am_tb1 (List.mem_of_getElem? (i := 1) rfl), by decide +kernel, by decide +kernel⟩
theorem am_q141 : am_mok am_m141 := ⟨am_tb4 (List.mem_of_getElem? (i := 93) rfl), am_tb1 (List.mem_of_getElem? (i := 1) rfl), by decide +kernel, by decide +kernel⟩
theorem am_q142 : am_mok am_m142 := ⟨am_tb3 (List.mem_of_getElem? (i := 218) rfl), am_tb1 (List.mem_of_getElem? (i := 1) rfl), by decide +kernel, by decide +kernel⟩
theorem am_q143 : am_mok am_m143 := ⟨am_tb3 (List.mem_of_getElem? (i := 221) rfl), am_tb1 (List.mem_of_getElem? (i := 1) rfl), by decide +kernel, by decide +kernel⟩
theorem am_q144 : am_mok am_m144 := ⟨am_tb4 (List.mem_of_getElem? (i := 67) rfl), am_tb1 (List.mem_of_getElem? (i := 1) rfl), by decide +kernel, by decide +kernel⟩
theorem am_q145 : am_mok am_m145 := ⟨am_tb4 (List.mem_of_getElem? (i := 73) rfl), am_tb1 (List.mem_of_getElem? (i := 1) rfl), by decide +kernel, by decide +kernel⟩
theorem am_q146 : am_mok am_m146 := ⟨am_tb3 (List.mem_of_getElem? (i := 71) rfl), am_tb1 (List.mem_of_getElem? (i := 1) rfl), by decide +kernel, by decide +kernel⟩
theorem am_q147 : am_mok am_m147 := ⟨am_tb4 (List.mem_of_getElem? (i := 204) rfl), am_tb1 (List.mem_of_getElem? (i := 1) rfl), by decide +kernel, by decide +kernel⟩
theorem am_q148 : am_mok am_m148 := ⟨am_tb2 (List.mem_of_getElem? (i := 192) rfl), am_tb1 (List.mem_of_getElem? (i := 1) rfl), by decide +kernel, by decide +kernel⟩
theorem am_q149 : am_mok am_m149 := ⟨am_tb2 (List.mem_of_getElem? (i := 189) rfl), am_tb1 (List.mem_of_getElem? (i := 1) rfl), by decide +kernel, by decide +kernel⟩
theorem am_q150 : am_mok am_m150 := ⟨am_tb2 (List.mem_of_getElem? (i := 211) rfl), am_tb1 (List.mem_of_getElem? (i := 1) rfl), by decide +kernel, by decide +kernel⟩
theorem am_q151 : am_mok am_m151 := ⟨am_tb2 (List.mem_of_getElem? (i := 208) rfl), am_tb1 (List.mem_of_getElem? (i := 1) rfl), by decide +kernel, by decide +kernel⟩
theorem am_q152 : am_mok am_m152 := ⟨am_tb6 (List.mem_of_getElem? (i := 69) rfl), am_tb1 (List.mem_of_getElem? (i := 14) rfl), by decide +kernel, by decide +kernel⟩
theorem am_q153 : am_mok am_m153 := ⟨am_tb6 (List.mem_of_getElem? (i := 193) rfl), am_tb1 (List.mem_of_getElem? (i := 14) rfl), by decide +kernel, by decide +kernel⟩
theorem am_q154 : am_mok am_m154 := ⟨am_tb6 (List.mem_of_getElem? (i := 201) rfl), am_tb1 (List.mem_of_getElem? (i := 14) rfl), by decide +kernel, by decide +kernel⟩
theorem am_q155 : am_mok am_m155 := ⟨am_tb6 (List.mem_of_getElem? (i := 205) rfl), am_tb1 (List.mem_of_getElem? (i := 14) rfl), by decide +kernel, by decide +kernel⟩
theorem am_q156 : am_mok am_m156 := ⟨am_tb7 (List.mem_of_getElem? (i := 100) rfl), am_tb1 (List.mem_of_getElem? (i := 14) rfl), by decide +kernel, by decide +kernel⟩
theorem am_q157 : am_mok am_m157 := ⟨am_tb6 (List.mem_of_getElem? (i := 197) rfl), am_tb1 (List.mem_of_getElem? (i := 14) rfl), by decide +kernel, by decide +kernel⟩
theorem am_q158 : am_mok am_m158 := ⟨am_tb6 (List.mem_of_getElem? (i := 210) rfl), am_tb1 (List.mem_of_getElem? (i := 14) rfl), by decide +kernel, by decide +kernel⟩
theorem am_q159 : am_mok am_m159 := ⟨am_tb6 (List.mem_of_getElem? (i := 214) rfl), am_tb1 (List.mem_of_getElem? (i := 14) rfl), by decide +kernel, by decide +kernel⟩
theorem am_q160 : am_mok am_m160 := ⟨am_tb6 (List.mem_of_getElem? (i := 222) rfl), am_tb1 (List.mem_of_getElem? (i := 14) rfl), by decide +kernel, by decide +kernel⟩
theorem am_q161 : am_mok am_m161 := ⟨am_tb6 (List.mem_of_getElem? (i := 218) rfl), am_tb1 (List.mem_of_getElem? (i := 14) rfl), by decide +kernel, by decide +kernel⟩
theorem am_q162 : am_mok am_m162 := ⟨am_tb6 (List.mem_of_getElem? (i := 226) rfl), am_tb1 (List.mem_of_getElem? (i := 14) rfl), by decide +kernel, by decide +kernel⟩
theorem am_q163 : am_mok am_m163 := ⟨am_tb6 (List.mem_of_getElem? (i := 230) rfl), am_tb1 (List.mem_of_getElem? (i := 14) rfl), by decide +kernel, by decide +kernel⟩
theorem am_q164 : am_mok am_m164 := ⟨am_tb6 (List.mem_of_getElem? (i := 234) rfl), am_tb1 (List.mem_of_getElem? (i := 14) rfl), by decide +kernel, by decide +kernel⟩
theorem am_q165 : am_mok am_m165 := ⟨am_tb6 (List.mem_of_getElem? (i := 238) rfl), am_tb1 (List.mem_of_getElem? (i := 14) rfl), by decide +kernel, by decide +kernel⟩
theorem am_q166 : am_mok am_m166 := ⟨am_tb7 (List.mem_of_getElem? (i := 3) rfl), am_tb1 (List.mem_of_getElem? (i := 14) rfl), by decide +kernel, by decide +kernel⟩
theorem am_q167 : am_mok am_m167 := ⟨am_tb7 (List.mem_of_getElem? (i := 26) rfl), am_tb1 (List.mem_of_getElem? (i := 14) rfl), by decide +kernel, by decide +kernel⟩
theorem am_q168 : am_mok am_m168 := ⟨am_tb7 (List.mem_of_getElem? (i := 11) rfl), am_tb1 (List.mem_of_getElem? (i := 14) rfl), by decide +kernel, by decide +kernel⟩
theorem am_q169 : am_mok am_m169 := ⟨am_tb7 (List.mem_of_getElem? (i := 34) rfl), am_tb1 (List.mem_of_getElem? (i := 14) rfl), by decide +kernel, by decide +kernel⟩
theorem am_q170 : am_mok am_m170 := ⟨am_tb7 (List.mem_of_getElem? (i := 22) rfl), am_tb1 (List.mem_of_getElem? (i := 14) rfl), by decide +kernel, by decide +kernel⟩
theorem am_q171 : am_mok am_m171 := ⟨am_tb7 (List.mem_of_getElem? (i := 30) rfl), am_tb1 (List.mem_of_getElem? (i := 14) rfl), by decide +kernel, by decide +kernel⟩
theorem am_q172 : am_mok am_m172 := ⟨am_tb7 (List.mem_of_getElem? (i := 38) rfl), am_tb1 (List.mem_of_getElem? (i := 14) rfl), by decide +kernel, by decide +kernel⟩
theorem am_q173 : am_mok am_m173 := ⟨am_tb7 (List.mem_of_getElem? (i := 18) rfl), am_tb1 (List.mem_of_getElem? (i := 14) rfl), by decide +kernel, by decide +kernel⟩
theorem am_q174 : am_mok am_m174 := ⟨am_tb7 (List.mem_of_getElem? (i := 46) rfl), am_tb1 (List.mem_of_getElem? (i := 14) rfl), by decide +kernel, by decide +kernel⟩
theorem am_q175 : am_mok am_m175 := ⟨am_tb7 (List.mem_of_getElem? (i := 42) rfl), am_tb1 (List.mem_of_getElem? (i := 14) rfl), by decide +kernel, by decide +kernel⟩
theorem am_q176 : am_mok am_m176 := ⟨am_tb7 (List.mem_of_getElem? (i := 7) rfl), am_tb1 (List.mem_of_getElem? (i := 14) rfl), by decide +kernel, by decide +kernel⟩
theorem am_q177 : am_mok am_m177 := ⟨am_tb7 (List.mem_of_getElem? (i := 50) rfl), am_tb1 (List.mem_of_getElem? (i := 14) rfl), by decide +kernel, by decide +kernel⟩
theorem am_q178 : am_mok am_m178 := ⟨am_tb7 (List.mem_of_getElem? (i := 54) rfl), am_tb1 (List.mem_of_getElem? (i := 14) rfl), by decide +kernel, by decide +kernel⟩
theorem am_q179 : am_mok am_m179 := ⟨am_tb7 (List.mem_of_getElem? (i := 59) rfl), am_tb1 (List.mem_of_getElem? (i := 14) rfl), by decide +kernel, by decide +kernel⟩
theorem am_q180 : am_mok am_m180 := ⟨am_tb7 (List.mem_of_getElem? (i := 67) rfl), am_tb1 (List.mem_of_getElem? (i := 14) rfl), by decide +kernel, by decide +kernel⟩
theorem am_q181 : am_mok am_m181 := ⟨am_tb7 (List.mem_of_getElem? (i := 63) rfl), am_tb1 (List.mem_of_getElem? (i := 14) rfl), by decide +kernel, by decide +kernel⟩
theorem am_q182 : am_mok am_m182 := ⟨am_tb7 (List.mem_of_getElem? (i := 79) rfl), am_tb1 (List.mem_of_getElem? (i := 14) rfl), by decide +kernel, by decide +kernel⟩
theorem am_q183 : am_mok am_m183 := ⟨am_tb7 (List.mem_of_getElem? (i := 83) rfl), am_tb1 (List.mem_of_getElem? (i := 14) rfl), by decide +kernel, by decide +kernel⟩
theorem am_q184 : am_mok am_m184 := ⟨am_tb7 (List.mem_of_getElem? (i := 75) rfl), am_tb1 (List.mem_of_getElem? (i := 14) rfl), by decide +kernel, by decide +kernel⟩
theorem am_q185 : am_mok am_m185 := ⟨am_tb7 (List.mem_of_getElem? (i := 71) rfl), am_tb1 (List.mem_of_getElem? (i := 14) rfl), by decide +kernel, by decide +kernel⟩
theorem am_q186 : am_mok am_m186 := ⟨am_tb7 (List.mem_of_getElem? (i := 186) rfl), am_tb1 (List.mem_of_getElem? (i := 14) rfl), by decide +kernel, by decide +kernel⟩
theorem am_q187 : am_mok am_m187 := ⟨am_tb7 (List.mem_of_getElem? (i := 96) rfl), am_tb1 (List.mem_of_getElem? (i := 14) rfl), by decide +kernel, by decide +kernel⟩
theorem am_q188 : am_mok am_m188 := ⟨am_tb7 (List.mem_of_getElem? (i := 108) rfl), am_tb1 (List.mem_of_getElem? (i := 14) rfl), by decide +kernel, by decide +kernel⟩
theorem am_q189 : am_mok am_m189 := ⟨am_tb7 (List.mem_of_getElem? (i := 140) rfl), am_tb1 (List.mem_of_getElem? (i := 14) rfl), by decide +kernel, by decide +kernel⟩
theorem am_q190 : am_mok am_m190 := ⟨am_tb7 (List.mem_of_getElem? (i := 136) rfl), am_tb1 (List.mem_of_getElem? (i := 14) rfl), by decide +kernel, by decide +kernel⟩
theorem am_q191 : am_mok am_m191 := ⟨am_tb7 (List.mem_of_getElem? (i := 128) rfl), am_tb1 (List.mem_of_getElem? (i := 14) rfl), by decide +kernel, by decide +kernel⟩
theorem am_q192 : am_mok am_m192 := ⟨am_tb7 (List.mem_of_getElem? (i := 116) rfl), am_tb1 (List.mem_of_getElem? (i := 14) rfl), by decide +kernel, by decide +kernel⟩
theorem am_q193 : am_mok am_m193 := ⟨am_tb7 (List.mem_of_getElem? (i := 124) rfl), am_tb1 (List.mem_of_getElem? (i := 14) rfl), by decide +kernel, by decide +kernel⟩
theorem am_q194 : am_mok am_m194 := ⟨am_tb7 (List.mem_of_getElem? (i := 132) rfl), am_tb1 (List.mem_of_getElem? (i := 14) rfl), by decide +kernel, by decide +kernel⟩
theorem am_q195 : am_mok am_m195 := ⟨am_tb7 (List.mem_of_getElem? (i := 112) rfl), am_tb1 (List.mem_of_getElem? (i := 14) rfl), by decide +kernel, by decide +kernel⟩
theorem am_q196 : am_mok am_m196 := ⟨am_tb7 (List.mem_of_getElem? (i := 104) rfl), am_tb1 (List.mem_of_getElem? (i := 14) rfl), by decide +kernel, by decide +kernel⟩
theorem am_q197 : am_mok am_m197 := ⟨am_tb7 (List.mem_of_getElem? (i := 92) rfl), am_tb1 (List.mem_of_getElem? (i := 14) rfl), by decide +kernel, by decide +kernel⟩
theorem am_q198 : am_mok am_m198 := ⟨am_tb7 (List.mem_of_getElem? (i := 151) rfl), am_tb1 (List.mem_of_getElem? (i := 14) rfl), by decide +kernel, by decide +kernel⟩
theorem am_q199 : am_mok am_m199 := ⟨am_tb7 (List.mem_of_getElem? (i := 160) rfl), am_tb1 (List.mem_of_getElem? (i := 14) rfl), by decide +kernel, by decide +kernel⟩
theorem am_q200 : am_mok am_m200 := ⟨am_tb7 (List.mem_of_getElem? (i := 148) rfl), am_tb1 (List.mem_of_getElem? (i := 14) rfl), by decide +kernel, by decide +kernel⟩
theorem am_q201 : am_mok am_m201 := ⟨am_tb7 (List.mem_of_getElem? (i := 169) rfl), am_tb1 (List.mem_of_getElem? (i := 14) rfl), by decide +kernel, by decide +kernel⟩
theorem am_q202 : am_mok am_m202 := ⟨am_tb7 (List.mem_of_getElem? (i := 166) rfl), am_tb1 (List.mem_of_getElem? (i := 14) rfl), by decide +kernel, by decide +kernel⟩
theorem am_q203 : am_mok am_m203 := ⟨am_tb7 (List.mem_of_getElem? (i := 174) rfl), am_tb1 (List.mem_of_getElem? (i := 14) rfl), by decide +kernel, by decide +kernel⟩
theorem am_q204 : am_mok am_m204 := ⟨am_tb7 (List.mem_of_getElem? (i := 144) rfl), am_tb1 (List.mem_of_getElem? (i := 14) rfl), by decide +kernel, by decide +kernel⟩
theorem am_q205 : am_mok am_m205 := ⟨am_tb7 (List.mem_of_getElem? (i := 194) rfl), am_tb1 (List.mem_of_getElem? (i := 14) rfl), by decide +kernel, by decide +kernel⟩
theorem am_q206 : am_mok am_m206 := ⟨am_tb7 (List.mem_of_getElem? (i := 198) rfl), am_tb1 (List.mem_of_getElem? (i := 14) rfl), by decide +kernel, by decide +kernel⟩
theorem am_q207 : am_mok am_m207 := ⟨am_tb7 (List.mem_of_getElem? (i := 190) rfl), am_tb1 (List.mem_of_getElem? (i := 14) rfl), by decide +kernel, by decide +kernel⟩
theorem am_q208 : am_mok am_m208 := ⟨am_tb7 (List.mem_of_getElem? (i := 182) rfl), am_tb1 (List.mem_of_getElem? (i := 14) rfl), by decide +kernel, by decide +kernel⟩
theorem am_q209 : am_mok am_m209 := ⟨am_tb7 (List.mem_of_getElem? (i := 202) rfl), am_tb1 (List.mem_of_getElem? (i := 14) rfl), by decide +kernel, by decide +kernel⟩
theorem am_q210 : am_mok am_m210 := ⟨am_tb7 (List.mem_of_getElem? (i := 211) rfl), am_tb1 (List.mem_of_getElem? (i := 14) rfl), by decide +kernel, by decide +kernel⟩
theorem am_q211 : am_mok am_m211 := ⟨am_tb7 (List.mem_of_getElem? (i := 206) rfl), am_tb1 (List.mem_of_getElem? (i := 14) rfl), by decide +kernel, by decide +kernel⟩
theorem am_q212 : am_mok am_m212 := ⟨am_tb7 (List.mem_of_getElem? (i := 215) rfl), am_tb1 (List.mem_of_getElem? (i := 14) rfl), by decide +kernel, by decide +kernel⟩
theorem am_q213 : am_mok am_m213 := ⟨am_tb7 (List.mem_of_getElem? (i := 178) rfl), am_tb1 (List.mem_of_getElem? (i := 14) rfl), by decide +kernel, by decide +kernel⟩
theorem am_q214 : am_mok am_m214 := ⟨am_tb7 (List.mem_of_getElem? (i := 88) rfl), am_tb1 (List.mem_of_getElem? (i := 14) rfl), by decide +kernel, by decide +kernel⟩
theorem am_q215 : am_mok am_m215 := ⟨am_tb8 (List.mem_of_getElem? (i := 12) rfl), am_tb1 (List.mem_of_getElem? (i := 14) rfl), by decide +kernel, by decide +kernel⟩
theorem am_q216 : am_mok am_m216 := ⟨am_tb7 (List.mem_of_getElem? (i := 223) rfl), am_tb1 (List.mem_of_getElem? (i := 14) rfl), by decide +kernel, by decide +kernel⟩
theorem am_q217 : am_mok am_m217 := ⟨am_tb7 (List.mem_of_getElem? (i := 227) rfl), am_tb1 (List.mem_of_getElem? (i := 14) rfl), by decide +kernel, by decide +kernel⟩
theorem am_q218 : am_mok am_m218 := ⟨am_tb8 (List.mem_of_getElem? (i := 4) rfl), am_tb1 (List.mem_of_getElem? (i := 14) rfl), by decide +kernel, by decide +kernel⟩
theorem am_q219 : am_mok am_m219 := ⟨am_tb8 (List.mem_of_getElem? (i := 16) rfl), am_tb1 (List.mem_of_getElem? (i := 14) rfl), by decide +kernel, by decide +kernel⟩
theorem am_q220 : am_mok am_m220 := ⟨am_tb8 (List.mem_of_getElem? (i := 25) rfl), am_tb1 (List.mem_of_getElem? (i := 14) rfl), by decide +kernel, by decide +kernel⟩
theorem am_q221 : am_mok am_m221 := ⟨am_tb7 (List.mem_of_getElem? (i := 236) rfl), am_tb1 (List.mem_of_getElem? (i := 14) rfl), by decide +kernel, by decide +kernel⟩
theorem am_q222 : am_mok am_m222 := ⟨am_tb7 (List.mem_of_getElem? (i := 231) rfl), am_tb1 (List.mem_of_getElem? (i := 14) rfl), by decide +kernel, by decide +kernel⟩
theorem am_q223 : am_mok am_m223 := ⟨am_tb8 (List.mem_of_getElem? (i := 0) rfl), am_tb1 (List.mem_of_getElem? (i := 14) rfl), by decide +kernel, by decide +kernel⟩
theorem am_q224 : am_mok am_m224 := ⟨am_tb8 (List.mem_of_getElem? (i := 21) rfl), am_tb1 (List.mem_of_getElem? (i := 14) rfl), by decide +kernel, by decide +kernel⟩
theorem am_q225 : am_mok am_m225 := ⟨am_tb8 (List.mem_of_getElem? (i := 8) rfl), am_tb1 (List.mem_of_getElem? (i := 14) rfl), by decide +kernel, by decide +kernel⟩
theorem am_q226 : am_mok am_m226 := ⟨am_tb8 (List.mem_of_getElem? (i := 33) rfl), am_tb1 (List.mem_of_getElem? (i := 14) rfl), by decide +kernel, by decide +kernel⟩
theorem am_q227 : am_mok am_m227 := ⟨am_tb8 (List.mem_of_getElem? (i := 37) rfl), am_tb1 (List.mem_of_getElem? (i := 14) rfl), by decide +kernel, by decide +kernel⟩
theorem am_q228 : am_mok am_m228 := ⟨am_tb8 (List.mem_of_getElem? (i := 29) rfl), am_tb1 (List.mem_of_getElem? (i := 14) rfl), by decide +kernel, by decide +kernel⟩
theorem am_q229 : am_mok am_m229 := ⟨am_tb7 (List.mem_of_getElem? (i := 219) rfl), am_tb1 (List.mem_of_getElem? (i := 14) rfl), by decide +kernel, by decide +kernel⟩
theorem am_q230 : am_mok am_m230 := ⟨am_tb8 (List.mem_of_getElem? (i := 45) rfl), am_tb1 (List.mem_of_getElem? (i := 14) rfl), by decide +kernel, by decide +kernel⟩
theorem am_q231 : am_mok am_m231 := ⟨am_tb8 (List.mem_of_getElem? (i := 40) rfl), am_tb1 (List.mem_of_getElem? (i := 14) rfl), by decide +kernel, by decide +kernel⟩
theorem am_q232 : am_mok am_m232 := ⟨am_tb8 (List.mem_of_getElem? (i := 49) rfl), am_tb1 (List.mem_of_getElem? (i := 14) rfl), by decide +kernel, by decide +kernel⟩
theorem am_q233 : am_mok am_m233 := ⟨am_tb8 (List.mem_of_getElem? (i := 65) rfl), am_tb1 (List.mem_of_getElem? (i := 14) rfl), by decide +kernel, by decide +kernel⟩
theorem am_q234 : am_mok am_m234 := ⟨am_tb8 (List.mem_of_getElem? (i := 61) rfl), am_tb1 (List.mem_of_getElem? (i := 14) rfl), by decide +kernel, by decide +kernel⟩
theorem am_q235 : am_mok am_m235 := ⟨am_tb8 (List.mem_of_getElem? (i := 77) rfl), am_tb1 (List.mem_of_getElem? (i := 14) rfl), by decide +kernel, by decide +kernel⟩
theorem am_q236 : am_mok am_m236 := ⟨am_tb8 (List.mem_of_getElem? (i := 69) rfl), am_tb1 (List.mem_of_getElem? (i := 14) rfl), by decide +kernel, by decide +kernel⟩
theorem am_q237 : am_mok am_m237 := ⟨am_tb8 (List.mem_of_getElem? (i := 73) rfl), am_tb1 (List.mem_of_getElem? (i := 14) rfl), by decide +kernel, by decide +kernel⟩
theorem am_q238 : am_mok am_m238 := ⟨am_tb8 (List.mem_of_getElem? (i := 57) rfl), am_tb1 (List.mem_of_getElem? (i := 14) rfl), by decide +kernel, by decide +kernel⟩
theorem am_q239 : am_mok am_m239 := ⟨am_tb8 (List.mem_of_getElem? (i := 53) rfl), am_tb1 (List.mem_of_getElem? (i := 14) rfl), by decide +kernel, by decide +kernel⟩
theorem am_q240 : am_mok am_m240 := ⟨am_tb8 (List.mem_of_getElem? (i := 93) rfl), am_tb1 (List.mem_of_getElem? (i := 14) rfl), by decide +kernel, by decide +kernel⟩
theorem am_q241 : am_mok am_m241 := ⟨am_tb8 (List.mem_of_getElem? (i := 89) rfl), am_tb1 (List.mem_of_getElem? (i := 14) rfl), by decide +kernel, by decide +kernel⟩
theorem am_q242 : am_mok am_m242 := ⟨am_tb8 (List.mem_of_getElem? (i := 101) rfl), am_tb1 (List.mem_of_getElem? (i := 14) rfl), by decide +kernel, by decide +kernel⟩
theorem am_q243 : am_mok am_m243 := ⟨am_tb8 (List.mem_of_getElem? (i := 97) rfl), am_tb1 (List.mem_of_getElem? (i := 14) rfl), by decide +kernel, by decide +kernel⟩
theorem am_q244 : am_mok am_m244 := ⟨am_tb8 (List.mem_of_getElem? (i := 85) rfl), am_tb1 (List.mem_of_getElem? (i := 14) rfl), by decide +kernel, by decide +kernel⟩
theorem am_q245 : am_mok am_m245 := ⟨am_tb8 (List.mem_of_getElem? (i := 114) rfl), am_tb1 (List.mem_of_getElem? (i := 14) rfl), by decide +kernel, by decide +kernel⟩
theorem am_q246 : am_mok am_m246 := ⟨am_tb8 (List.mem_of_getElem? (i := 110) rfl), am_tb1 (List.mem_of_getElem? (i := 14) rfl), by decide +kernel, by decide +kernel⟩
theorem am_q247 : am_mok am_m247 := ⟨am_tb8 (List.mem_of_getElem? (i := 105) rfl), am_tb1 (List.mem_of_getElem? (i := 14) rfl), by decide +kernel, by decide +kernel⟩
theorem am_q248 : am_mok am_m248 := ⟨am_tb8 (List.mem_of_getElem? (i := 126) rfl), am_tb1 (List.mem_of_getElem? (i := 14) rfl), by decide +kernel, by decide +kernel⟩
theorem am_q249 : am_mok am_m249 := ⟨am_tb8 (List.mem_of_getElem? (i := 134) rfl), am_tb1 (List.mem_of_getElem? (i := 14) rfl), by decide +kernel, by decide +kernel⟩
theorem am_q250 : am_mok am_m250 := ⟨am_tb8 (List.mem_of_getElem? (i := 130) rfl), am_tb1 (List.mem_of_getElem? (i := 14) rfl), by decide +kernel, by decide +kernel⟩
theorem am_q251 : am_mok am_m251 := ⟨am_tb8 (List.mem_of_getElem? (i := 138) rfl), am_tb1 (List.mem_of_getElem? (i := 14) rfl), by decide +kernel, by decide +kernel⟩
theorem am_q252 : am_mok am_m252 := ⟨am_tb8 (List.mem_of_getElem? (i := 142) rfl), am_tb1 (List.mem_of_getElem? (i := 14) rfl), by decide +kernel, by decide +kernel⟩
theorem am_q253 : am_mok am_m253 := ⟨am_tb8 (List.mem_of_getElem? (i := 122) rfl), am_tb1 (List.mem_of_getElem? (i := 14) rfl), by decide +kernel, by decide +kernel⟩
theorem am_q254 : am_mok am_m254 := ⟨am_tb8 (List.mem_of_getElem? (i := 146) rfl), am_tb1 (List.mem_of_getElem? (i := 14) rfl), by decide +kernel, by decide +kernel⟩
theorem am_q255 : am_mok am_m255 := ⟨am_tb8 (List.mem_of_getElem? (i := 118) rfl), am_tb1 (List.mem_of_getElem? (i := 14) rfl), by decide +kernel, by decide +kernel⟩
theorem am_q256 : am_mok am_m256 := ⟨am_tb8 (List.mem_of_getElem? (i := 81) rfl), am_tb1 (List.mem_of_getElem? (i := 14) rfl), by decide +kernel, by decide +kernel⟩
theorem am_vx_0_0 : am_vtok (am_cn 0) (22, 1, 24, 0) := ⟨am_m24, rfl, by decide, am_q24, am_tb2 (List.mem_of_getElem? (i := 126) rfl), ⟨am_tb4 (List.mem_of_getElem? (i := 114) rfl), rfl, am_tb2 (List.mem_of_getElem? (i := 127) rfl)⟩⟩
theorem am_vx_0_1 : am_vtok (am_cn 0) (28, 5, 82, 0) := ⟨am_m82, rfl, by decide, am_q82, am_tb2 (List.mem_of_getElem? (i := 232) rfl), ⟨am_tb5 (List.mem_of_getElem? (i := 70) rfl), rfl, am_tb2 (List.mem_of_getElem? (i := 233) rfl)⟩⟩
theorem am_vx_0_2 : am_vtok (am_cn 0) (34, 1, 26, 0) := ⟨am_m26, rfl, by decide, am_q26, am_tb2 (List.mem_of_getElem? (i := 143) rfl), ⟨am_tb5 (List.mem_of_getElem? (i := 77) rfl), rfl, am_tb2 (List.mem_of_getElem? (i := 144) rfl)⟩⟩
theorem am_vx_0_3 : am_vtok (am_cn 0) (42, 8, 98, 0) := ⟨am_m98, rfl, by decide, am_q98, am_tb3 (List.mem_of_getElem? (i := 225) rfl), ⟨am_tb5 (List.mem_of_getElem? (i := 131) rfl), rfl, am_tb3 (List.mem_of_getElem? (i := 226) rfl)⟩⟩
theorem am_vx_0_4 : am_vtok (am_cn 0) (48, 8, 99, 0) := ⟨am_m99, rfl, by decide, am_q99, am_tb4 (List.mem_of_getElem? (i := 5) rfl), ⟨am_tb5 (List.mem_of_getElem? (i := 132) rfl), rfl, am_tb4 (List.mem_of_getElem? (i := 6) rfl)⟩⟩
theorem am_vx_0_5 : am_vtok (am_cn 0) (51, 8, 101, 0) := ⟨am_m101, rfl, by decide, am_q101, am_tb4 (List.mem_of_getElem? (i := 11) rfl), ⟨am_tb5 (List.mem_of_getElem? (i := 133) rfl), rfl, am_tb4 (List.mem_of_getElem? (i := 12) rfl)⟩⟩
theorem am_vx_0_6 : am_vtok (am_cn 0) (60, 1, 30, 0) := ⟨am_m30, rfl, by decide, am_q30, am_tb3 (List.mem_of_getElem? (i := 61) rfl), ⟨am_tb4 (List.mem_of_getElem? (i := 115) rfl), rfl, am_tb3 (List.mem_of_getElem? (i := 62) rfl)⟩⟩
theorem am_vx_0_7 : am_vtok (am_cn 0) (68, 1, 29, 0) := ⟨am_m29, rfl, by decide, am_q29, am_tb2 (List.mem_of_getElem? (i := 173) rfl), ⟨am_tb4 (List.mem_of_getElem? (i := 116) rfl), rfl, am_tb2 (List.mem_of_getElem? (i := 174) rfl)⟩⟩
theorem am_vx_0 : ∀ e ∈ [(22, 1, 24, 0), (28, 5, 82, 0), (34, 1, 26, 0), (42, 8, 98, 0), (48, 8, 99, 0), (51, 8, 101, 0), (60, 1, 30, 0), (68, 1, 29, 0)], am_vtok (am_cn 0) e := List.forall_mem_cons.mpr ⟨am_vx_0_0, List.forall_mem_cons.mpr ⟨am_vx_0_1, List.forall_mem_cons.mpr ⟨am_vx_0_2, List.forall_mem_cons.mpr ⟨am_vx_0_3, List.forall_mem_cons.mpr ⟨am_vx_0_4, List.forall_mem_cons.mpr ⟨am_vx_0_5, List.forall_mem_cons.mpr ⟨am_vx_0_6, List.forall_mem_cons.mpr ⟨am_vx_0_7, fun _ h => absurd h List.not_mem_nil⟩⟩⟩⟩⟩⟩⟩⟩
theorem am_vx_1_0 : am_vtok (am_cn 1) (15, 1, 24, 0) := ⟨am_m24, rfl, by decide, am_q24, am_tb2 (List.mem_of_getElem? (i := 126) rfl), ⟨am_tb4 (List.mem_of_getElem? (i := 107) rfl), rfl, am_tb2 (List.mem_of_getElem? (i := 127) rfl)⟩⟩
theorem am_vx_1_1 : am_vtok (am_cn 1) (21, 0, 9, 0) := ⟨am_m9, rfl, by decide, am_q9, am_tb5 (List.mem_of_getElem? (i := 62) rfl), ⟨am_tb5 (List.mem_of_getElem? (i := 60) rfl), rfl, am_tb0 (List.mem_of_getElem? (i := 33) rfl)⟩⟩
theorem am_vx_1_2 : am_vtok (am_cn 1) (25, 0, 1, 1) := ⟨am_m1, rfl, by decide, am_q1, am_tb5 (List.mem_of_getElem? (i := 68) rfl), ⟨am_tb5 (List.mem_of_getElem? (i := 64) rfl), am_tb5 (List.mem_of_getElem? (i := 65) rfl), am_tb5 (List.mem_of_getElem? (i := 67) rfl)⟩⟩
theorem am_vx_1_3 : am_vtok (am_cn 1) (28, 0, 3, 1) := ⟨am_m3, rfl, by decide, am_q3, am_tb5 (List.mem_of_getElem? (i := 75) rfl), ⟨am_tb5 (List.mem_of_getElem? (i := 71) rfl), am_tb5 (List.mem_of_getElem? (i := 72) rfl), am_tb5 (List.mem_of_getElem? (i := 74) rfl)⟩⟩
theorem am_vx_1_4 : am_vtok (am_cn 1) (31, 0, 10, 0) := ⟨am_m10, rfl, by decide, am_q10, am_tb5 (List.mem_of_getElem? (i := 80) rfl), ⟨am_tb5 (List.mem_of_getElem? (i := 78) rfl), rfl, am_tb0 (List.mem_of_getElem? (i := 34) rfl)⟩⟩
theorem am_vx_1_5 : am_vtok (am_cn 1) (34, 1, 26, 0) := ⟨am_m26, rfl, by decide, am_q26, am_tb2 (List.mem_of_getElem? (i := 143) rfl), ⟨am_tb4 (List.mem_of_getElem? (i := 196) rfl), rfl, am_tb2 (List.mem_of_getElem? (i := 144) rfl)⟩⟩
theorem am_vx_1_6 : am_vtok (am_cn 1) (38, 0, 15, 0) := ⟨am_m15, rfl, by decide, am_q15, am_tb5 (List.mem_of_getElem? (i := 93) rfl), ⟨am_tb5 (List.mem_of_getElem? (i := 91) rfl), rfl, am_tb0 (List.mem_of_getElem? (i := 37) rfl)⟩⟩
theorem am_vx_1_7 : am_vtok (am_cn 1) (46, 0, 17, 0) := ⟨am_m17, rfl, by decide, am_q17, am_tb5 (List.mem_of_getElem? (i := 111) rfl), ⟨am_tb5 (List.mem_of_getElem? (i := 109) rfl), rfl, am_tb0 (List.mem_of_getElem? (i := 40) rfl)⟩⟩
theorem am_vx_1_8 : am_vtok (am_cn 1) (50, 0, 4, 1) := ⟨am_m4, rfl, by decide, am_q4, am_tb5 (List.mem_of_getElem? (i := 122) rfl), ⟨am_tb5 (List.mem_of_getElem? (i := 118) rfl), am_tb5 (List.mem_of_getElem? (i := 119) rfl), am_tb5 (List.mem_of_getElem? (i := 121) rfl)⟩⟩
theorem am_vx_1_9 : am_vtok (am_cn 1) (53, 0, 5, 1) := ⟨am_m5, rfl, by decide, am_q5, am_tb5 (List.mem_of_getElem? (i := 129) rfl), ⟨am_tb5 (List.mem_of_getElem? (i := 125) rfl), am_tb5 (List.mem_of_getElem? (i := 126) rfl), am_tb5 (List.mem_of_getElem? (i := 128) rfl)⟩⟩
theorem am_vx_1_10 : am_vtok (am_cn 1) (61, 5, 82, 0) := ⟨am_m82, rfl, by decide, am_q82, am_tb2 (List.mem_of_getElem? (i := 232) rfl), ⟨am_tb5 (List.mem_of_getElem? (i := 90) rfl), rfl, am_tb2 (List.mem_of_getElem? (i := 233) rfl)⟩⟩
theorem am_vx_1_11 : am_vtok (am_cn 1) (67, 0, 11, 0) := ⟨am_m11, rfl, by decide, am_q11, am_tb5 (List.mem_of_getElem? (i := 84) rfl), ⟨am_tb5 (List.mem_of_getElem? (i := 82) rfl), rfl, am_tb0 (List.mem_of_getElem? (i := 35) rfl)⟩⟩
theorem am_vx_1_12 : am_vtok (am_cn 1) (74, 0, 2, 1) := ⟨am_m2, rfl, by decide, am_q2, am_tb5 (List.mem_of_getElem? (i := 99) rfl), ⟨am_tb5 (List.mem_of_getElem? (i := 95) rfl), am_tb5 (List.mem_of_getElem? (i := 96) rfl), am_tb5 (List.mem_of_getElem? (i := 98) rfl)⟩⟩
theorem am_vx_1_13 : am_vtok (am_cn 1) (78, 0, 14, 0) := ⟨am_m14, rfl, by decide, am_q14, am_tb5 (List.mem_of_getElem? (i := 103) rfl), ⟨am_tb5 (List.mem_of_getElem? (i := 101) rfl), rfl, am_tb0 (List.mem_of_getElem? (i := 38) rfl)⟩⟩
theorem am_vx_1_14 : am_vtok (am_cn 1) (81, 0, 12, 0) := ⟨am_m12, rfl, by decide, am_q12, am_tb5 (List.mem_of_getElem? (i := 107) rfl), ⟨am_tb5 (List.mem_of_getElem? (i := 105) rfl), rfl, am_tb0 (List.mem_of_getElem? (i := 39) rfl)⟩⟩
theorem am_vx_1_15 : am_vtok (am_cn 1) (84, 0, 13, 0) := ⟨am_m13, rfl, by decide, am_q13, am_tb5 (List.mem_of_getElem? (i := 88) rfl), ⟨am_tb5 (List.mem_of_getElem? (i := 86) rfl), rfl, am_tb0 (List.mem_of_getElem? (i := 36) rfl)⟩⟩
theorem am_vx_1_16 : am_vtok (am_cn 1) (88, 0, 16, 0) := ⟨am_m16, rfl, by decide, am_q16, am_tb4 (List.mem_of_getElem? (i := 194) rfl), ⟨am_tb4 (List.mem_of_getElem? (i := 192) rfl), rfl, am_tb0 (List.mem_of_getElem? (i := 26) rfl)⟩⟩
theorem am_vx_1_17 : am_vtok (am_cn 1) (94, 1, 28, 0) := ⟨am_m28, rfl, by decide, am_q28, am_tb2 (List.mem_of_getElem? (i := 161) rfl), ⟨am_tb5 (List.mem_of_getElem? (i := 113) rfl), rfl, am_tb2 (List.mem_of_getElem? (i := 162) rfl)⟩⟩
theorem am_vx_1_18 : am_vtok (am_cn 1) (98, 0, 18, 0) := ⟨am_m18, rfl, by decide, am_q18, am_tb5 (List.mem_of_getElem? (i := 116) rfl), ⟨am_tb5 (List.mem_of_getElem? (i := 114) rfl), rfl, am_tb0 (List.mem_of_getElem? (i := 41) rfl)⟩⟩
theorem am_vx_1_19 : am_vtok (am_cn 1) (102, 1, 29, 0) := ⟨am_m29, rfl, by decide, am_q29, am_tb2 (List.mem_of_getElem? (i := 173) rfl), ⟨am_tb4 (List.mem_of_getElem? (i := 175) rfl), rfl, am_tb2 (List.mem_of_getElem? (i := 174) rfl)⟩⟩
theorem am_vx_1_20 : am_vtok (am_cn 1) (105, 8, 93, 0) := ⟨am_m93, rfl, by decide, am_q93, am_tb4 (List.mem_of_getElem? (i := 21) rfl), ⟨am_tb4 (List.mem_of_getElem? (i := 101) rfl), rfl, am_tb4 (List.mem_of_getElem? (i := 22) rfl)⟩⟩
theorem am_vx_1_21 : am_vtok (am_cn 1) (108, 8, 95, 0) := ⟨am_m95, rfl, by decide, am_q95, am_tb2 (List.mem_of_getElem? (i := 134) rfl), ⟨am_tb4 (List.mem_of_getElem? (i := 102) rfl), rfl, am_tb2 (List.mem_of_getElem? (i := 135) rfl)⟩⟩
theorem am_vx_1_22 : am_vtok (am_cn 1) (112, 0, 20, 0) := ⟨am_m20, rfl, by decide, am_q20, am_tb4 (List.mem_of_getElem? (i := 105) rfl), ⟨am_tb4 (List.mem_of_getElem? (i := 103) rfl), rfl, am_tb0 (List.mem_of_getElem? (i := 23) rfl)⟩⟩
theorem am_vx_1_23 : am_vtok (am_cn 1) (121, 1, 30, 0) := ⟨am_m30, rfl, by decide, am_q30, am_tb3 (List.mem_of_getElem? (i := 61) rfl), ⟨am_tb4 (List.mem_of_getElem? (i := 201) rfl), rfl, am_tb3 (List.mem_of_getElem? (i := 62) rfl)⟩⟩
theorem am_vx_1_24 : am_vtok (am_cn 1) (125, 1, 33, 0) := ⟨am_m33, rfl, by decide, am_q33, am_tb4 (List.mem_of_getElem? (i := 118) rfl), ⟨am_tb4 (List.mem_of_getElem? (i := 117) rfl), rfl, am_tb4 (List.mem_of_getElem? (i := 119) rfl)⟩⟩
theorem am_vx_1_25 : am_vtok (am_cn 1) (128, 0, 6, 1) := ⟨am_m6, rfl, by decide, am_q6, am_tb4 (List.mem_of_getElem? (i := 112) rfl), ⟨am_tb4 (List.mem_of_getElem? (i := 108) rfl), am_tb4 (List.mem_of_getElem? (i := 109) rfl), am_tb4 (List.mem_of_getElem? (i := 111) rfl)⟩⟩
theorem am_vx_1_26 : am_vtok (am_cn 1) (140, 1, 31, 0) := ⟨am_m31, rfl, by decide, am_q31, am_tb4 (List.mem_of_getElem? (i := 124) rfl), ⟨am_tb4 (List.mem_of_getElem? (i := 123) rfl), rfl, am_tb4 (List.mem_of_getElem? (i := 125) rfl)⟩⟩
theorem am_vx_1_27 : am_vtok (am_cn 1) (146, 0, 21, 0) := ⟨am_m21, rfl, by decide, am_q21, am_tb4 (List.mem_of_getElem? (i := 179) rfl), ⟨am_tb4 (List.mem_of_getElem? (i := 177) rfl), rfl, am_tb0 (List.mem_of_getElem? (i := 24) rfl)⟩⟩
theorem am_vx_1_28 : am_vtok (am_cn 1) (151, 1, 32, 0) := ⟨am_m32, rfl, by decide, am_q32, am_tb4 (List.mem_of_getElem? (i := 185) rfl), ⟨am_tb4 (List.mem_of_getElem? (i := 184) rfl), rfl, am_tb4 (List.mem_of_getElem? (i := 186) rfl)⟩⟩
theorem am_vx_1_29 : am_vtok (am_cn 1) (155, 0, 22, 0) := ⟨am_m22, rfl, by decide, am_q22, am_tb4 (List.mem_of_getElem? (i := 190) rfl), ⟨am_tb4 (List.mem_of_getElem? (i := 188) rfl), rfl, am_tb0 (List.mem_of_getElem? (i := 25) rfl)⟩⟩
theorem am_vx_1_30 : am_vtok (am_cn 1) (158, 1, 27, 0) := ⟨am_m27, rfl, by decide, am_q27, am_tb4 (List.mem_of_getElem? (i := 198) rfl), ⟨am_tb4 (List.mem_of_getElem? (i := 197) rfl), rfl, am_tb4 (List.mem_of_getElem? (i := 199) rfl)⟩⟩
theorem am_vx_1 : ∀ e ∈ [(15, 1, 24, 0), (21, 0, 9, 0), (25, 0, 1, 1), (28, 0, 3, 1), (31, 0, 10, 0), (34, 1, 26, 0), (38, 0, 15, 0), (46, 0, 17, 0), (50, 0, 4, 1), (53, 0, 5, 1), (61, 5, 82, 0), (67, 0, 11, 0), (74, 0, 2, 1), (78, 0, 14, 0), (81, 0, 12, 0), (84, 0, 13, 0), (88, 0, 16, 0), (94, 1, 28, 0), (98, 0, 18, 0), (102, 1, 29, 0), (105, 8, 93, 0), (108, 8, 95, 0), (112, 0, 20, 0), (121, 1, 30, 0), (125, 1, 33, 0), (128, 0, 6, 1), (140, 1, 31, 0), (146, 0, 21, 0), (151, 1, 32, 0), (155, 0, 22, 0), (158, 1, 27, 0)], am_vtok (am_cn 1) e := List.forall_mem_cons.mpr ⟨am_vx_1_0, List.forall_mem_cons.mpr ⟨am_vx_1_1, List.forall_mem_cons.mpr ⟨am_vx_1_2, List.forall_mem_cons.mpr ⟨am_vx_1_3, List.forall_mem_cons.mpr ⟨am_vx_1_4, List.forall_mem_cons.mpr ⟨am_vx_1_5, List.forall_mem_cons.mpr ⟨am_vx_1_6, List.forall_mem_cons.mpr ⟨am_vx_1_7, List.forall_mem_cons.mpr ⟨am_vx_1_8, List.forall_mem_cons.mpr ⟨am_vx_1_9, List.forall_mem_cons.mpr ⟨am_vx_1_10, List.forall_mem_cons.mpr ⟨am_vx_1_11, List.forall_mem_cons.mpr ⟨am_vx_1_12, List.forall_mem_cons.mpr ⟨am_vx_1_13, List.forall_mem_cons.mpr ⟨am_vx_1_14, List.forall_mem_cons.mpr ⟨am_vx_1_15, List.forall_mem_cons.mpr ⟨am_vx_1_16, List.forall_mem_cons.mpr ⟨am_vx_1_17, List.forall_mem_cons.mpr ⟨am_vx_1_18, List.forall_mem_cons.mpr ⟨am_vx_1_19, List.forall_mem_cons.mpr ⟨am_vx_1_20, List.forall_mem_cons.mpr ⟨am_vx_1_21, List.forall_mem_cons.mpr ⟨am_vx_1_22, List.forall_mem_cons.mpr ⟨am_vx_1_23, List.forall_mem_cons.mpr ⟨am_vx_1_24, List.forall_mem_cons.mpr ⟨am_vx_1_25, List.forall_mem_cons.mpr ⟨am_vx_1_26, List.forall_mem_cons.mpr ⟨am_vx_1_27, List.forall_mem_cons.mpr ⟨am_vx_1_28, List.forall_mem_cons.mpr ⟨am_vx_1_29, List.forall_mem_cons.mpr ⟨am_vx_1_30, fun _ h => absurd h List.not_mem_nil⟩⟩⟩⟩⟩⟩⟩⟩⟩⟩⟩⟩⟩⟩⟩⟩⟩⟩⟩⟩⟩⟩⟩⟩⟩⟩⟩⟩⟩⟩⟩
theorem am_vx_2_0 : am_vtok (am_cn 2) (19, 1, 26, 0) := ⟨am_m26, rfl, by decide, am_q26, am_tb2 (List.mem_of_getElem? (i := 143) rfl), ⟨am_tb2 (List.mem_of_getElem? (i := 142) rfl), rfl, am_tb2 (List.mem_of_getElem? (i := 144) rfl)⟩⟩
theorem am_vx_2_1 : am_vtok (am_cn 2) (23, 1, 29, 0) := ⟨am_m29, rfl, by decide, am_q29, am_tb2 (List.mem_of_getElem? (i := 173) rfl), ⟨am_tb3 (List.mem_of_getElem? (i := 64) rfl), rfl, am_tb2 (List.mem_of_getElem? (i := 174) rfl)⟩⟩
theorem am_vx_2_2 : am_vtok (am_cn 2) (37, 1, 37, 0) := ⟨am_m37, rfl, by decide, am_q37, am_tb2 (List.mem_of_getElem? (i := 139) rfl), ⟨am_tb2 (List.mem_of_getElem? (i := 155) rfl), rfl, am_tb2 (List.mem_of_getElem? (i := 140) rfl)⟩⟩
theorem am_vx_2 : ∀ e ∈ [(19, 1, 26, 0), (23, 1, 29, 0), (37, 1, 37, 0)], am_vtok (am_cn 2) e := List.forall_mem_cons.mpr ⟨am_vx_2_0, List.forall_mem_cons.mpr ⟨am_vx_2_1, List.forall_mem_cons.mpr ⟨am_vx_2_2, fun _ h => absurd h List.not_mem_nil⟩⟩⟩
theorem am_vx_3_0 : am_vtok (am_cn 3) (37, 2, 45, 0) := ⟨am_m45, rfl, by decide, am_q45, am_tb1 (List.mem_of_getElem? (i := 130) rfl), ⟨am_tb1 (List.mem_of_getElem? (i := 128) rfl), rfl, am_tb0 (List.mem_of_getElem? (i := 2) rfl)⟩⟩
theorem am_vx_3_1 : am_vtok (am_cn 3) (40, 2, 46, 0) := ⟨am_m46, rfl, by decide, am_q46, am_tb1 (List.mem_of_getElem? (i := 134) rfl), ⟨am_tb1 (List.mem_of_getElem? (i := 132) rfl), rfl, am_tb0 (List.mem_of_getElem? (i := 3) rfl)⟩⟩
theorem am_vx_3 : ∀ e ∈ [(37, 2, 45, 0), (40, 2, 46, 0)], am_vtok (am_cn 3) e := List.forall_mem_cons.mpr ⟨am_vx_3_0, List.forall_mem_cons.mpr ⟨am_vx_3_1, fun _ h => absurd h List.not_mem_nil⟩⟩
theorem am_vx_4_0 : am_vtok (am_cn 4) (15, 1, 24, 0) := ⟨am_m24, rfl, by decide, am_q24, am_tb2 (List.mem_of_getElem? (i := 126) rfl), ⟨am_tb4 (List.mem_of_getElem? (i := 210) rfl), rfl, am_tb2 (List.mem_of_getElem? (i := 127) rfl)⟩⟩
theorem am_vx_4_1 : am_vtok (am_cn 4) (21, 3, 51, 0) := ⟨am_m51, rfl, by decide, am_q51, am_tb5 (List.mem_of_getElem? (i := 139) rfl), ⟨am_tb5 (List.mem_of_getElem? (i := 137) rfl), rfl, am_tb0 (List.mem_of_getElem? (i := 42) rfl)⟩⟩
theorem am_vx_4_2 : am_vtok (am_cn 4) (25, 3, 52, 0) := ⟨am_m52, rfl, by decide, am_q52, am_tb5 (List.mem_of_getElem? (i := 151) rfl), ⟨am_tb5 (List.mem_of_getElem? (i := 149) rfl), rfl, am_tb0 (List.mem_of_getElem? (i := 43) rfl)⟩⟩
theorem am_vx_4_3 : am_vtok (am_cn 4) (33, 1, 38, 0) := ⟨am_m38, rfl, by decide, am_q38, am_tb5 (List.mem_of_getElem? (i := 163) rfl), ⟨am_tb5 (List.mem_of_getElem? (i := 162) rfl), rfl, am_tb5 (List.mem_of_getElem? (i := 164) rfl)⟩⟩
theorem am_vx_4_4 : am_vtok (am_cn 4) (37, 3, 54, 0) := ⟨am_m54, rfl, by decide, am_q54, am_tb5 (List.mem_of_getElem? (i := 168) rfl), ⟨am_tb5 (List.mem_of_getElem? (i := 166) rfl), rfl, am_tb0 (List.mem_of_getElem? (i := 45) rfl)⟩⟩
theorem am_vx_4_5 : am_vtok (am_cn 4) (41, 3, 3, 1) := ⟨am_m3, rfl, by decide, am_q3, am_tb5 (List.mem_of_getElem? (i := 75) rfl), ⟨am_tb5 (List.mem_of_getElem? (i := 170) rfl), am_tb5 (List.mem_of_getElem? (i := 171) rfl), am_tb5 (List.mem_of_getElem? (i := 172) rfl)⟩⟩
theorem am_vx_4_6 : am_vtok (am_cn 4) (44, 3, 53, 0) := ⟨am_m53, rfl, by decide, am_q53, am_tb5 (List.mem_of_getElem? (i := 175) rfl), ⟨am_tb5 (List.mem_of_getElem? (i := 173) rfl), rfl, am_tb0 (List.mem_of_getElem? (i := 46) rfl)⟩⟩
theorem am_vx_4_7 : am_vtok (am_cn 4) (51, 3, 58, 0) := ⟨am_m58, rfl, by decide, am_q58, am_tb5 (List.mem_of_getElem? (i := 155) rfl), ⟨am_tb5 (List.mem_of_getElem? (i := 153) rfl), rfl, am_tb0 (List.mem_of_getElem? (i := 44) rfl)⟩⟩
theorem am_vx_4_8 : am_vtok (am_cn 4) (55, 3, 1, 1) := ⟨am_m1, rfl, by decide, am_q1, am_tb5 (List.mem_of_getElem? (i := 68) rfl), ⟨am_tb5 (List.mem_of_getElem? (i := 158) rfl), am_tb5 (List.mem_of_getElem? (i := 159) rfl), am_tb5 (List.mem_of_getElem? (i := 160) rfl)⟩⟩
theorem am_vx_4_9 : am_vtok (am_cn 4) (58, 3, 55, 0) := ⟨am_m55, rfl, by decide, am_q55, am_tb5 (List.mem_of_getElem? (i := 189) rfl), ⟨am_tb5 (List.mem_of_getElem? (i := 187) rfl), rfl, am_tb0 (List.mem_of_getElem? (i := 48) rfl)⟩⟩
theorem am_vx_4_10 : am_vtok (am_cn 4) (61, 3, 5, 1) := ⟨am_m5, rfl, by decide, am_q5, am_tb5 (List.mem_of_getElem? (i := 129) rfl), ⟨am_tb5 (List.mem_of_getElem? (i := 194) rfl), am_tb5 (List.mem_of_getElem? (i := 195) rfl), am_tb5 (List.mem_of_getElem? (i := 196) rfl)⟩⟩
theorem am_vx_4_11 : am_vtok (am_cn 4) (69, 5, 82, 0) := ⟨am_m82, rfl, by decide, am_q82, am_tb2 (List.mem_of_getElem? (i := 232) rfl), ⟨am_tb5 (List.mem_of_getElem? (i := 148) rfl), rfl, am_tb2 (List.mem_of_getElem? (i := 233) rfl)⟩⟩
theorem am_vx_4_12 : am_vtok (am_cn 4) (78, 3, 2, 1) := ⟨am_m2, rfl, by decide, am_q2, am_tb5 (List.mem_of_getElem? (i := 99) rfl), ⟨am_tb5 (List.mem_of_getElem? (i := 141) rfl), am_tb5 (List.mem_of_getElem? (i := 142) rfl), am_tb5 (List.mem_of_getElem? (i := 143) rfl)⟩⟩
theorem am_vx_4_13 : am_vtok (am_cn 4) (82, 1, 26, 0) := ⟨am_m26, rfl, by decide, am_q26, am_tb2 (List.mem_of_getElem? (i := 143) rfl), ⟨am_tb5 (List.mem_of_getElem? (i := 144) rfl), rfl, am_tb2 (List.mem_of_getElem? (i := 144) rfl)⟩⟩
theorem am_vx_4_14 : am_vtok (am_cn 4) (91, 1, 28, 0) := ⟨am_m28, rfl, by decide, am_q28, am_tb2 (List.mem_of_getElem? (i := 161) rfl), ⟨am_tb5 (List.mem_of_getElem? (i := 161) rfl), rfl, am_tb2 (List.mem_of_getElem? (i := 162) rfl)⟩⟩
theorem am_vx_4_15 : am_vtok (am_cn 4) (95, 1, 30, 0) := ⟨am_m30, rfl, by decide, am_q30, am_tb3 (List.mem_of_getElem? (i := 61) rfl), ⟨am_tb4 (List.mem_of_getElem? (i := 233) rfl), rfl, am_tb3 (List.mem_of_getElem? (i := 62) rfl)⟩⟩
theorem am_vx_4_16 : am_vtok (am_cn 4) (99, 3, 56, 0) := ⟨am_m56, rfl, by decide, am_q56, am_tb5 (List.mem_of_getElem? (i := 179) rfl), ⟨am_tb5 (List.mem_of_getElem? (i := 177) rfl), rfl, am_tb0 (List.mem_of_getElem? (i := 47) rfl)⟩⟩
theorem am_vx_4_17 : am_vtok (am_cn 4) (110, 3, 4, 1) := ⟨am_m4, rfl, by decide, am_q4, am_tb5 (List.mem_of_getElem? (i := 122) rfl), ⟨am_tb5 (List.mem_of_getElem? (i := 191) rfl), am_tb5 (List.mem_of_getElem? (i := 192) rfl), am_tb5 (List.mem_of_getElem? (i := 193) rfl)⟩⟩
theorem am_vx_4_18 : am_vtok (am_cn 4) (115, 8, 93, 0) := ⟨am_m93, rfl, by decide, am_q93, am_tb4 (List.mem_of_getElem? (i := 21) rfl), ⟨am_tb4 (List.mem_of_getElem? (i := 208) rfl), rfl, am_tb4 (List.mem_of_getElem? (i := 22) rfl)⟩⟩
theorem am_vx_4_19 : am_vtok (am_cn 4) (118, 8, 95, 0) := ⟨am_m95, rfl, by decide, am_q95, am_tb2 (List.mem_of_getElem? (i := 134) rfl), ⟨am_tb4 (List.mem_of_getElem? (i := 209) rfl), rfl, am_tb2 (List.mem_of_getElem? (i := 135) rfl)⟩⟩
theorem am_vx_4_20 : am_vtok (am_cn 4) (135, 3, 61, 0) := ⟨am_m61, rfl, by decide, am_q61, am_tb4 (List.mem_of_getElem? (i := 214) rfl), ⟨am_tb4 (List.mem_of_getElem? (i := 212) rfl), rfl, am_tb0 (List.mem_of_getElem? (i := 27) rfl)⟩⟩
theorem am_vx_4_21 : am_vtok (am_cn 4) (139, 3, 6, 1) := ⟨am_m6, rfl, by decide, am_q6, am_tb4 (List.mem_of_getElem? (i := 112) rfl), ⟨am_tb4 (List.mem_of_getElem? (i := 224) rfl), am_tb4 (List.mem_of_getElem? (i := 225) rfl), am_tb4 (List.mem_of_getElem? (i := 226) rfl)⟩⟩
theorem am_vx_4_22 : am_vtok (am_cn 4) (143, 1, 29, 0) := ⟨am_m29, rfl, by decide, am_q29, am_tb2 (List.mem_of_getElem? (i := 173) rfl), ⟨am_tb4 (List.mem_of_getElem? (i := 223) rfl), rfl, am_tb2 (List.mem_of_getElem? (i := 174) rfl)⟩⟩
theorem am_vx_4_23 : am_vtok (am_cn 4) (146, 3, 63, 0) := ⟨am_m63, rfl, by decide, am_q63, am_tb4 (List.mem_of_getElem? (i := 229) rfl), ⟨am_tb4 (List.mem_of_getElem? (i := 227) rfl), rfl, am_tb0 (List.mem_of_getElem? (i := 29) rfl)⟩⟩
theorem am_vx_4_24 : am_vtok (am_cn 4) (155, 1, 31, 0) := ⟨am_m31, rfl, by decide, am_q31, am_tb4 (List.mem_of_getElem? (i := 124) rfl), ⟨am_tb4 (List.mem_of_getElem? (i := 236) rfl), rfl, am_tb4 (List.mem_of_getElem? (i := 125) rfl)⟩⟩
theorem am_vx_4_25 : am_vtok (am_cn 4) (159, 1, 32, 0) := ⟨am_m32, rfl, by decide, am_q32, am_tb4 (List.mem_of_getElem? (i := 185) rfl), ⟨am_tb4 (List.mem_of_getElem? (i := 218) rfl), rfl, am_tb4 (List.mem_of_getElem? (i := 186) rfl)⟩⟩
theorem am_vx_4_26 : am_vtok (am_cn 4) (163, 3, 62, 0) := ⟨am_m62, rfl, by decide, am_q62, am_tb4 (List.mem_of_getElem? (i := 221) rfl), ⟨am_tb4 (List.mem_of_getElem? (i := 219) rfl), rfl, am_tb0 (List.mem_of_getElem? (i := 28) rfl)⟩⟩
theorem am_vx_4_27 : am_vtok (am_cn 4) (166, 1, 33, 0) := ⟨am_m33, rfl, by decide, am_q33, am_tb4 (List.mem_of_getElem? (i := 118) rfl), ⟨am_tb4 (List.mem_of_getElem? (i := 232) rfl), rfl, am_tb4 (List.mem_of_getElem? (i := 119) rfl)⟩⟩
theorem am_vx_4 : ∀ e ∈ [(15, 1, 24, 0), (21, 3, 51, 0), (25, 3, 52, 0), (33, 1, 38, 0), (37, 3, 54, 0), (41, 3, 3, 1), (44, 3, 53, 0), (51, 3, 58, 0), (55, 3, 1, 1), (58, 3, 55, 0), (61, 3, 5, 1), (69, 5, 82, 0), (78, 3, 2, 1), (82, 1, 26, 0), (91, 1, 28, 0), (95, 1, 30, 0), (99, 3, 56, 0), (110, 3, 4, 1), (115, 8, 93, 0), (118, 8, 95, 0), (135, 3, 61, 0), (139, 3, 6, 1), (143, 1, 29, 0), (146, 3, 63, 0), (155, 1, 31, 0), (159, 1, 32, 0), (163, 3, 62, 0), (166, 1, 33, 0)], am_vtok (am_cn 4) e := List.forall_mem_cons.mpr ⟨am_vx_4_0, List.forall_mem_cons.mpr ⟨am_vx_4_1, List.forall_mem_cons.mpr ⟨am_vx_4_2, List.forall_mem_cons.mpr ⟨am_vx_4_3, List.forall_mem_cons.mpr ⟨am_vx_4_4, List.forall_mem_cons.mpr ⟨am_vx_4_5, List.forall_mem_cons.mpr ⟨am_vx_4_6, List.forall_mem_cons.mpr ⟨am_vx_4_7, List.forall_mem_cons.mpr ⟨am_vx_4_8, List.forall_mem_cons.mpr ⟨am_vx_4_9, List.forall_mem_cons.mpr ⟨am_vx_4_10, List.forall_mem_cons.mpr ⟨am_vx_4_11, List.forall_mem_cons.mpr ⟨am_vx_4_12, List.forall_mem_cons.mpr ⟨am_vx_4_13, List.forall_mem_cons.mpr ⟨am_vx_4_14, List.forall_mem_cons.mpr ⟨am_vx_4_15, List.forall_mem_cons.mpr ⟨am_vx_4_16, List.forall_mem_cons.mpr ⟨am_vx_4_17, List.forall_mem_cons.mpr ⟨am_vx_4_18, List.forall_mem_cons.mpr ⟨am_vx_4_19, List.forall_mem_cons.mpr ⟨am_vx_4_20, List.forall_mem_cons.mpr ⟨am_vx_4_21, List.forall_mem_cons.mpr ⟨am_vx_4_22, List.forall_mem_cons.mpr ⟨am_vx_4_23, List.forall_mem_cons.mpr ⟨am_vx_4_24, List.forall_mem_cons.mpr ⟨am_vx_4_25, List.forall_mem_cons.mpr ⟨am_vx_4_26, List.forall_mem_cons.mpr ⟨am_vx_4_27, fun _ h => absurd h List.not_mem_nil⟩⟩⟩⟩⟩⟩⟩⟩⟩⟩⟩⟩⟩⟩⟩⟩⟩⟩⟩⟩⟩⟩⟩⟩⟩⟩⟩⟩
theorem am_vx_5_0 : am_vtok (am_cn 5) (23, 4, 66, 0) := ⟨am_m66, rfl, by decide, am_q66, am_tb5 (List.mem_of_getElem? (i := 202) rfl), ⟨am_tb5 (List.mem_of_getElem? (i := 200) rfl), rfl, am_tb0 (List.mem_of_getElem? (i := 49) rfl)⟩⟩
theorem am_vx_5_1 : am_vtok (am_cn 5) (34, 1, 36, 0) := ⟨am_m36, rfl, by decide, am_q36, am_tb5 (List.mem_of_getElem? (i := 38) rfl), ⟨am_tb5 (List.mem_of_getElem? (i := 37) rfl), rfl, am_tb5 (List.mem_of_getElem? (i := 39) rfl)⟩⟩
theorem am_vx_5_2 : am_vtok (am_cn 5) (43, 4, 68, 0) := ⟨am_m68, rfl, by decide, am_q68, am_tb5 (List.mem_of_getElem? (i := 215) rfl), ⟨am_tb5 (List.mem_of_getElem? (i := 213) rfl), rfl, am_tb0 (List.mem_of_getElem? (i := 51) rfl)⟩⟩
theorem am_vx_5_3 : am_vtok (am_cn 5) (47, 4, 69, 0) := ⟨am_m69, rfl, by decide, am_q69, am_tb5 (List.mem_of_getElem? (i := 219) rfl), ⟨am_tb5 (List.mem_of_getElem? (i := 217) rfl), rfl, am_tb0 (List.mem_of_getElem? (i := 52) rfl)⟩⟩
theorem am_vx_5_4 : am_vtok (am_cn 5) (50, 4, 4, 1) := ⟨am_m4, rfl, by decide, am_q4, am_tb5 (List.mem_of_getElem? (i := 122) rfl), ⟨am_tb5 (List.mem_of_getElem? (i := 224) rfl), am_tb5 (List.mem_of_getElem? (i := 225) rfl), am_tb5 (List.mem_of_getElem? (i := 226) rfl)⟩⟩
theorem am_vx_5_5 : am_vtok (am_cn 5) (53, 4, 70, 0) := ⟨am_m70, rfl, by decide, am_q70, am_tb5 (List.mem_of_getElem? (i := 229) rfl), ⟨am_tb5 (List.mem_of_getElem? (i := 227) rfl), rfl, am_tb0 (List.mem_of_getElem? (i := 53) rfl)⟩⟩
theorem am_vx_5_6 : am_vtok (am_cn 5) (59, 1, 28, 0) := ⟨am_m28, rfl, by decide, am_q28, am_tb2 (List.mem_of_getElem? (i := 161) rfl), ⟨am_tb5 (List.mem_of_getElem? (i := 222) rfl), rfl, am_tb2 (List.mem_of_getElem? (i := 162) rfl)⟩⟩
theorem am_vx_5_7 : am_vtok (am_cn 5) (69, 1, 30, 0) := ⟨am_m30, rfl, by decide, am_q30, am_tb3 (List.mem_of_getElem? (i := 61) rfl), ⟨am_tb5 (List.mem_of_getElem? (i := 24) rfl), rfl, am_tb3 (List.mem_of_getElem? (i := 62) rfl)⟩⟩
theorem am_vx_5_8 : am_vtok (am_cn 5) (76, 9, 107, 0) := ⟨am_m107, rfl, by decide, am_q107, am_tb2 (List.mem_of_getElem? (i := 222) rfl), ⟨am_tb6 (List.mem_of_getElem? (i := 0) rfl), rfl, am_tb2 (List.mem_of_getElem? (i := 223) rfl)⟩⟩
theorem am_vx_5_9 : am_vtok (am_cn 5) (82, 4, 72, 0) := ⟨am_m72, rfl, by decide, am_q72, am_tb6 (List.mem_of_getElem? (i := 3) rfl), ⟨am_tb6 (List.mem_of_getElem? (i := 1) rfl), rfl, am_tb0 (List.mem_of_getElem? (i := 55) rfl)⟩⟩
theorem am_vx_5_10 : am_vtok (am_cn 5) (89, 1, 24, 0) := ⟨am_m24, rfl, by decide, am_q24, am_tb2 (List.mem_of_getElem? (i := 126) rfl), ⟨am_tb5 (List.mem_of_getElem? (i := 2) rfl), rfl, am_tb2 (List.mem_of_getElem? (i := 127) rfl)⟩⟩
theorem am_vx_5_11 : am_vtok (am_cn 5) (93, 4, 5, 1) := ⟨am_m5, rfl, by decide, am_q5, am_tb5 (List.mem_of_getElem? (i := 129) rfl), ⟨am_tb6 (List.mem_of_getElem? (i := 5) rfl), am_tb6 (List.mem_of_getElem? (i := 6) rfl), am_tb6 (List.mem_of_getElem? (i := 7) rfl)⟩⟩
theorem am_vx_5_12 : am_vtok (am_cn 5) (104, 5, 82, 0) := ⟨am_m82, rfl, by decide, am_q82, am_tb2 (List.mem_of_getElem? (i := 232) rfl), ⟨am_tb5 (List.mem_of_getElem? (i := 204) rfl), rfl, am_tb2 (List.mem_of_getElem? (i := 233) rfl)⟩⟩
theorem am_vx_5_13 : am_vtok (am_cn 5) (114, 4, 2, 1) := ⟨am_m2, rfl, by decide, am_q2, am_tb5 (List.mem_of_getElem? (i := 99) rfl), ⟨am_tb5 (List.mem_of_getElem? (i := 205) rfl), am_tb5 (List.mem_of_getElem? (i := 206) rfl), am_tb5 (List.mem_of_getElem? (i := 207) rfl)⟩⟩
theorem am_vx_5_14 : am_vtok (am_cn 5) (118, 4, 67, 0) := ⟨am_m67, rfl, by decide, am_q67, am_tb5 (List.mem_of_getElem? (i := 210) rfl), ⟨am_tb5 (List.mem_of_getElem? (i := 208) rfl), rfl, am_tb0 (List.mem_of_getElem? (i := 50) rfl)⟩⟩
theorem am_vx_5_15 : am_vtok (am_cn 5) (131, 1, 26, 0) := ⟨am_m26, rfl, by decide, am_q26, am_tb2 (List.mem_of_getElem? (i := 143) rfl), ⟨am_tb5 (List.mem_of_getElem? (i := 221) rfl), rfl, am_tb2 (List.mem_of_getElem? (i := 144) rfl)⟩⟩
theorem am_vx_5_16 : am_vtok (am_cn 5) (148, 4, 71, 0) := ⟨am_m71, rfl, by decide, am_q71, am_tb5 (List.mem_of_getElem? (i := 234) rfl), ⟨am_tb5 (List.mem_of_getElem? (i := 232) rfl), rfl, am_tb0 (List.mem_of_getElem? (i := 54) rfl)⟩⟩
theorem am_vx_5_17 : am_vtok (am_cn 5) (161, 8, 93, 0) := ⟨am_m93, rfl, by decide, am_q93, am_tb4 (List.mem_of_getElem? (i := 21) rfl), ⟨am_tb5 (List.mem_of_getElem? (i := 0) rfl), rfl, am_tb4 (List.mem_of_getElem? (i := 22) rfl)⟩⟩
theorem am_vx_5_18 : am_vtok (am_cn 5) (164, 8, 95, 0) := ⟨am_m95, rfl, by decide, am_q95, am_tb2 (List.mem_of_getElem? (i := 134) rfl), ⟨am_tb5 (List.mem_of_getElem? (i := 1) rfl), rfl, am_tb2 (List.mem_of_getElem? (i := 135) rfl)⟩⟩
theorem am_vx_5_19 : am_vtok (am_cn 5) (171, 4, 74, 0) := ⟨am_m74, rfl, by decide, am_q74, am_tb5 (List.mem_of_getElem? (i := 5) rfl), ⟨am_tb5 (List.mem_of_getElem? (i := 3) rfl), rfl, am_tb0 (List.mem_of_getElem? (i := 30) rfl)⟩⟩
theorem am_vx_5_20 : am_vtok (am_cn 5) (175, 7, 85, 0) := ⟨am_m85, rfl, by decide, am_q85, am_tb2 (List.mem_of_getElem? (i := 165) rfl), ⟨am_tb5 (List.mem_of_getElem? (i := 23) rfl), rfl, am_tb2 (List.mem_of_getElem? (i := 166) rfl)⟩⟩
theorem am_vx_5_21 : am_vtok (am_cn 5) (181, 4, 76, 0) := ⟨am_m76, rfl, by decide, am_q76, am_tb5 (List.mem_of_getElem? (i := 27) rfl), ⟨am_tb5 (List.mem_of_getElem? (i := 25) rfl), rfl, am_tb0 (List.mem_of_getElem? (i := 31) rfl)⟩⟩
theorem am_vx_5_22 : am_vtok (am_cn 5) (185, 4, 77, 0) := ⟨am_m77, rfl, by decide, am_q77, am_tb5 (List.mem_of_getElem? (i := 32) rfl), ⟨am_tb5 (List.mem_of_getElem? (i := 30) rfl), rfl, am_tb0 (List.mem_of_getElem? (i := 32) rfl)⟩⟩
theorem am_vx_5_23 : am_vtok (am_cn 5) (189, 1, 32, 0) := ⟨am_m32, rfl, by decide, am_q32, am_tb4 (List.mem_of_getElem? (i := 185) rfl), ⟨am_tb5 (List.mem_of_getElem? (i := 9) rfl), rfl, am_tb4 (List.mem_of_getElem? (i := 186) rfl)⟩⟩
theorem am_vx_5_24 : am_vtok (am_cn 5) (193, 1, 35, 0) := ⟨am_m35, rfl, by decide, am_q35, am_tb5 (List.mem_of_getElem? (i := 12) rfl), ⟨am_tb5 (List.mem_of_getElem? (i := 11) rfl), rfl, am_tb5 (List.mem_of_getElem? (i := 13) rfl)⟩⟩
theorem am_vx_5_25 : am_vtok (am_cn 5) (203, 4, 6, 1) := ⟨am_m6, rfl, by decide, am_q6, am_tb4 (List.mem_of_getElem? (i := 112) rfl), ⟨am_tb5 (List.mem_of_getElem? (i := 20) rfl), am_tb5 (List.mem_of_getElem? (i := 21) rfl), am_tb5 (List.mem_of_getElem? (i := 22) rfl)⟩⟩
theorem am_vx_5_26 : am_vtok (am_cn 5) (211, 1, 27, 0) := ⟨am_m27, rfl, by decide, am_q27, am_tb4 (List.mem_of_getElem? (i := 198) rfl), ⟨am_tb5 (List.mem_of_getElem? (i := 29) rfl), rfl, am_tb4 (List.mem_of_getElem? (i := 199) rfl)⟩⟩
theorem am_vx_5_27 : am_vtok (am_cn 5) (214, 1, 33, 0) := ⟨am_m33, rfl, by decide, am_q33, am_tb4 (List.mem_of_getElem? (i := 118) rfl), ⟨am_tb5 (List.mem_of_getElem? (i := 36) rfl), rfl, am_tb4 (List.mem_of_getElem? (i := 119) rfl)⟩⟩
theorem am_vx_5 : ∀ e ∈ [(23, 4, 66, 0), (34, 1, 36, 0), (43, 4, 68, 0), (47, 4, 69, 0), (50, 4, 4, 1), (53, 4, 70, 0), (59, 1, 28, 0), (69, 1, 30, 0), (76, 9, 107, 0), (82, 4, 72, 0), (89, 1, 24, 0), (93, 4, 5, 1), (104, 5, 82, 0), (114, 4, 2, 1), (118, 4, 67, 0), (131, 1, 26, 0), (148, 4, 71, 0), (161, 8, 93, 0), (164, 8, 95, 0), (171, 4, 74, 0), (175, 7, 85, 0), (181, 4, 76, 0), (185, 4, 77, 0), (189, 1, 32, 0), (193, 1, 35, 0), (203, 4, 6, 1), (211, 1, 27, 0), (214, 1, 33, 0)], am_vtok (am_cn 5) e := List.forall_mem_cons.mpr ⟨am_vx_5_0, List.forall_mem_cons.mpr ⟨am_vx_5_1, List.forall_mem_cons.mpr ⟨am_vx_5_2, List.forall_mem_cons.mpr ⟨am_vx_5_3, List.forall_mem_cons.mpr ⟨am_vx_5_4, List.forall_mem_cons.mpr ⟨am_vx_5_5, List.forall_mem_cons.mpr ⟨am_vx_5_6, List.forall_mem_cons.mpr ⟨am_vx_5_7, List.forall_mem_cons.mpr ⟨am_vx_5_8, List.forall_mem_cons.mpr ⟨am_vx_5_9, List.forall_mem_cons.mpr ⟨am_vx_5_10, List.forall_mem_cons.mpr ⟨am_vx_5_11, List.forall_mem_cons.mpr ⟨am_vx_5_12, List.forall_mem_cons.mpr ⟨am_vx_5_13, List.forall_mem_cons.mpr ⟨am_vx_5_14, List.forall_mem_cons.mpr ⟨am_vx_5_15, List.forall_mem_cons.mpr ⟨am_vx_5_16, List.forall_mem_cons.mpr ⟨am_vx_5_17, List.forall_mem_cons.mpr ⟨am_vx_5_18, List.forall_mem_cons.mpr ⟨am_vx_5_19, List.forall_mem_cons.mpr ⟨am_vx_5_20, List.forall_mem_cons.mpr ⟨am_vx_5_21, List.forall_mem_cons.mpr ⟨am_vx_5_22, List.forall_mem_cons.mpr ⟨am_vx_5_23, List.forall_mem_cons.mpr ⟨am_vx_5_24, List.forall_mem_cons.mpr ⟨am_vx_5_25, List.forall_mem_cons.mpr ⟨am_vx_5_26, List.forall_mem_cons.mpr ⟨am_vx_5_27, fun _ h => absurd h List.not_mem_nil⟩⟩⟩⟩⟩⟩⟩⟩⟩⟩⟩⟩⟩⟩⟩⟩⟩⟩⟩⟩⟩⟩⟩⟩⟩⟩⟩⟩
theorem am_vx_8_0 : am_vtok (am_cn 8) (20, 7, 91, 0) := ⟨am_m91, rfl, by decide, am_q91, am_tb2 (List.mem_of_getElem? (i := 170) rfl), ⟨am_tb2 (List.mem_of_getElem? (i := 168) rfl), rfl, am_tb0 (List.mem_of_getElem? (i := 4) rfl)⟩⟩
theorem am_vx_8_1 : am_vtok (am_cn 8) (24, 1, 24, 0) := ⟨am_m24, rfl, by decide, am_q24, am_tb2 (List.mem_of_getElem? (i := 126) rfl), ⟨am_tb2 (List.mem_of_getElem? (i := 176) rfl), rfl, am_tb2 (List.mem_of_getElem? (i := 127) rfl)⟩⟩
theorem am_vx_8_2 : am_vtok (am_cn 8) (30, 7, 86, 0) := ⟨am_m86, rfl, by decide, am_q86, am_tb2 (List.mem_of_getElem? (i := 179) rfl), ⟨am_tb2 (List.mem_of_getElem? (i := 177) rfl), rfl, am_tb0 (List.mem_of_getElem? (i := 5) rfl)⟩⟩
theorem am_vx_8_3 : am_vtok (am_cn 8) (34, 7, 87, 0) := ⟨am_m87, rfl, by decide, am_q87, am_tb2 (List.mem_of_getElem? (i := 185) rfl), ⟨am_tb2 (List.mem_of_getElem? (i := 183) rfl), rfl, am_tb0 (List.mem_of_getElem? (i := 6) rfl)⟩⟩
theorem am_vx_8_4 : am_vtok (am_cn 8) (38, 7, 89, 0) := ⟨am_m89, rfl, by decide, am_q89, am_tb2 (List.mem_of_getElem? (i := 195) rfl), ⟨am_tb2 (List.mem_of_getElem? (i := 193) rfl), rfl, am_tb0 (List.mem_of_getElem? (i := 7) rfl)⟩⟩
theorem am_vx_8_5 : am_vtok (am_cn 8) (50, 7, 88, 0) := ⟨am_m88, rfl, by decide, am_q88, am_tb2 (List.mem_of_getElem? (i := 204) rfl), ⟨am_tb2 (List.mem_of_getElem? (i := 202) rfl), rfl, am_tb0 (List.mem_of_getElem? (i := 9) rfl)⟩⟩
theorem am_vx_8_6 : am_vtok (am_cn 8) (53, 7, 90, 0) := ⟨am_m90, rfl, by decide, am_q90, am_tb2 (List.mem_of_getElem? (i := 199) rfl), ⟨am_tb2 (List.mem_of_getElem? (i := 197) rfl), rfl, am_tb0 (List.mem_of_getElem? (i := 8) rfl)⟩⟩
theorem am_vx_8_7 : am_vtok (am_cn 8) (65, 1, 26, 0) := ⟨am_m26, rfl, by decide, am_q26, am_tb2 (List.mem_of_getElem? (i := 143) rfl), ⟨am_tb2 (List.mem_of_getElem? (i := 182) rfl), rfl, am_tb2 (List.mem_of_getElem? (i := 144) rfl)⟩⟩
theorem am_vx_8_8 : am_vtok (am_cn 8) (68, 1, 29, 0) := ⟨am_m29, rfl, by decide, am_q29, am_tb2 (List.mem_of_getElem? (i := 173) rfl), ⟨am_tb2 (List.mem_of_getElem? (i := 172) rfl), rfl, am_tb2 (List.mem_of_getElem? (i := 174) rfl)⟩⟩
theorem am_vx_8 : ∀ e ∈ [(20, 7, 91, 0), (24, 1, 24, 0), (30, 7, 86, 0), (34, 7, 87, 0), (38, 7, 89, 0), (50, 7, 88, 0), (53, 7, 90, 0), (65, 1, 26, 0), (68, 1, 29, 0)], am_vtok (am_cn 8) e := List.forall_mem_cons.mpr ⟨am_vx_8_0, List.forall_mem_cons.mpr ⟨am_vx_8_1, List.forall_mem_cons.mpr ⟨am_vx_8_2, List.forall_mem_cons.mpr ⟨am_vx_8_3, List.forall_mem_cons.mpr ⟨am_vx_8_4, List.forall_mem_cons.mpr ⟨am_vx_8_5, List.forall_mem_cons.mpr ⟨am_vx_8_6, List.forall_mem_cons.mpr ⟨am_vx_8_7, List.forall_mem_cons.mpr ⟨am_vx_8_8, fun _ h => absurd h List.not_mem_nil⟩⟩⟩⟩⟩⟩⟩⟩⟩
theorem am_vx_9_0 : am_vtok (am_cn 9) (22, 8, 95, 0) := ⟨am_m95, rfl, by decide, am_q95, am_tb2 (List.mem_of_getElem? (i := 134) rfl), ⟨am_tb2 (List.mem_of_getElem? (i := 133) rfl), rfl, am_tb2 (List.mem_of_getElem? (i := 135) rfl)⟩⟩
theorem am_vx_9_1 : am_vtok (am_cn 9) (30, 1, 24, 0) := ⟨am_m24, rfl, by decide, am_q24, am_tb2 (List.mem_of_getElem? (i := 126) rfl), ⟨am_tb2 (List.mem_of_getElem? (i := 137) rfl), rfl, am_tb2 (List.mem_of_getElem? (i := 127) rfl)⟩⟩
theorem am_vx_9_2 : am_vtok (am_cn 9) (35, 1, 37, 0) := ⟨am_m37, rfl, by decide, am_q37, am_tb2 (List.mem_of_getElem? (i := 139) rfl), ⟨am_tb2 (List.mem_of_getElem? (i := 138) rfl), rfl, am_tb2 (List.mem_of_getElem? (i := 140) rfl)⟩⟩
theorem am_vx_9_3 : am_vtok (am_cn 9) (39, 1, 39, 0) := ⟨am_m39, rfl, by decide, am_q39, am_tb2 (List.mem_of_getElem? (i := 152) rfl), ⟨am_tb2 (List.mem_of_getElem? (i := 151) rfl), rfl, am_tb2 (List.mem_of_getElem? (i := 153) rfl)⟩⟩
theorem am_vx_9_4 : am_vtok (am_cn 9) (46, 8, 96, 0) := ⟨am_m96, rfl, by decide, am_q96, am_tb2 (List.mem_of_getElem? (i := 130) rfl), ⟨am_tb4 (List.mem_of_getElem? (i := 8) rfl), rfl, am_tb2 (List.mem_of_getElem? (i := 131) rfl)⟩⟩
theorem am_vx_9_5 : am_vtok (am_cn 9) (50, 8, 100, 0) := ⟨am_m100, rfl, by decide, am_q100, am_tb4 (List.mem_of_getElem? (i := 15) rfl), ⟨am_tb4 (List.mem_of_getElem? (i := 14) rfl), rfl, am_tb4 (List.mem_of_getElem? (i := 16) rfl)⟩⟩
theorem am_vx_9_6 : am_vtok (am_cn 9) (54, 1, 28, 0) := ⟨am_m28, rfl, by decide, am_q28, am_tb2 (List.mem_of_getElem? (i := 161) rfl), ⟨am_tb4 (List.mem_of_getElem? (i := 18) rfl), rfl, am_tb2 (List.mem_of_getElem? (i := 162) rfl)⟩⟩
theorem am_vx_9_7 : am_vtok (am_cn 9) (57, 1, 30, 0) := ⟨am_m30, rfl, by decide, am_q30, am_tb3 (List.mem_of_getElem? (i := 61) rfl), ⟨am_tb4 (List.mem_of_getElem? (i := 19) rfl), rfl, am_tb3 (List.mem_of_getElem? (i := 62) rfl)⟩⟩
theorem am_vx_9_8 : am_vtok (am_cn 9) (64, 8, 104, 0) := ⟨am_m104, rfl, by decide, am_q104, am_tb4 (List.mem_of_getElem? (i := 63) rfl), ⟨am_tb4 (List.mem_of_getElem? (i := 61) rfl), rfl, am_tb0 (List.mem_of_getElem? (i := 21) rfl)⟩⟩
theorem am_vx_9_9 : am_vtok (am_cn 9) (79, 1, 26, 0) := ⟨am_m26, rfl, by decide, am_q26, am_tb2 (List.mem_of_getElem? (i := 143) rfl), ⟨am_tb4 (List.mem_of_getElem? (i := 74) rfl), rfl, am_tb2 (List.mem_of_getElem? (i := 144) rfl)⟩⟩
theorem am_vx_9 : ∀ e ∈ [(22, 8, 95, 0), (30, 1, 24, 0), (35, 1, 37, 0), (39, 1, 39, 0), (46, 8, 96, 0), (50, 8, 100, 0), (54, 1, 28, 0), (57, 1, 30, 0), (64, 8, 104, 0), (79, 1, 26, 0)], am_vtok (am_cn 9) e := List.forall_mem_cons.mpr ⟨am_vx_9_0, List.forall_mem_cons.mpr ⟨am_vx_9_1, List.forall_mem_cons.mpr ⟨am_vx_9_2, List.forall_mem_cons.mpr ⟨am_vx_9_3, List.forall_mem_cons.mpr ⟨am_vx_9_4, List.forall_mem_cons.mpr ⟨am_vx_9_5, List.forall_mem_cons.mpr ⟨am_vx_9_6, List.forall_mem_cons.mpr ⟨am_vx_9_7, List.forall_mem_cons.mpr ⟨am_vx_9_8, List.forall_mem_cons.mpr ⟨am_vx_9_9, fun _ h => absurd h List.not_mem_nil⟩⟩⟩⟩⟩⟩⟩⟩⟩⟩
theorem am_vx_10_0 : am_vtok (am_cn 10) (50, 9, 111, 0) := ⟨am_m111, rfl, by decide, am_q111, am_tb1 (List.mem_of_getElem? (i := 112) rfl), ⟨am_tb1 (List.mem_of_getElem? (i := 110) rfl), rfl, am_tb0 (List.mem_of_getElem? (i := 0) rfl)⟩⟩
theorem am_vx_10_1 : am_vtok (am_cn 10) (63, 1, 28, 0) := ⟨am_m28, rfl, by decide, am_q28, am_tb2 (List.mem_of_getElem? (i := 161) rfl), ⟨am_tb2 (List.mem_of_getElem? (i := 225) rfl), rfl, am_tb2 (List.mem_of_getElem? (i := 162) rfl)⟩⟩
theorem am_vx_10_2 : am_vtok (am_cn 10) (72, 9, 108, 0) := ⟨am_m108, rfl, by decide, am_q108, am_tb2 (List.mem_of_getElem? (i := 229) rfl), ⟨am_tb2 (List.mem_of_getElem? (i := 227) rfl), rfl, am_tb0 (List.mem_of_getElem? (i := 10) rfl)⟩⟩
theorem am_vx_10_3 : am_vtok (am_cn 10) (76, 5, 82, 0) := ⟨am_m82, rfl, by decide, am_q82, am_tb2 (List.mem_of_getElem? (i := 232) rfl), ⟨am_tb2 (List.mem_of_getElem? (i := 231) rfl), rfl, am_tb2 (List.mem_of_getElem? (i := 233) rfl)⟩⟩
theorem am_vx_10_4 : am_vtok (am_cn 10) (82, 9, 110, 0) := ⟨am_m110, rfl, by decide, am_q110, am_tb2 (List.mem_of_getElem? (i := 238) rfl), ⟨am_tb2 (List.mem_of_getElem? (i := 236) rfl), rfl, am_tb0 (List.mem_of_getElem? (i := 11) rfl)⟩⟩
theorem am_vx_10_5 : am_vtok (am_cn 10) (86, 9, 118, 0) := ⟨am_m118, rfl, by decide, am_q118, am_tb3 (List.mem_of_getElem? (i := 5) rfl), ⟨am_tb3 (List.mem_of_getElem? (i := 3) rfl), rfl, am_tb0 (List.mem_of_getElem? (i := 12) rfl)⟩⟩
theorem am_vx_10_6 : am_vtok (am_cn 10) (90, 9, 113, 0) := ⟨am_m113, rfl, by decide, am_q113, am_tb3 (List.mem_of_getElem? (i := 33) rfl), ⟨am_tb3 (List.mem_of_getElem? (i := 31) rfl), rfl, am_tb0 (List.mem_of_getElem? (i := 15) rfl)⟩⟩
theorem am_vx_10_7 : am_vtok (am_cn 10) (93, 9, 114, 0) := ⟨am_m114, rfl, by decide, am_q114, am_tb3 (List.mem_of_getElem? (i := 42) rfl), ⟨am_tb3 (List.mem_of_getElem? (i := 40) rfl), rfl, am_tb0 (List.mem_of_getElem? (i := 16) rfl)⟩⟩
theorem am_vx_10_8 : am_vtok (am_cn 10) (96, 1, 26, 0) := ⟨am_m26, rfl, by decide, am_q26, am_tb2 (List.mem_of_getElem? (i := 143) rfl), ⟨am_tb2 (List.mem_of_getElem? (i := 235) rfl), rfl, am_tb2 (List.mem_of_getElem? (i := 144) rfl)⟩⟩
theorem am_vx_10_9 : am_vtok (am_cn 10) (99, 2, 42, 0) := ⟨am_m42, rfl, by decide, am_q42, am_tb3 (List.mem_of_getElem? (i := 12) rfl), ⟨am_tb3 (List.mem_of_getElem? (i := 11) rfl), rfl, am_tb3 (List.mem_of_getElem? (i := 13) rfl)⟩⟩
theorem am_vx_10_10 : am_vtok (am_cn 10) (102, 2, 43, 0) := ⟨am_m43, rfl, by decide, am_q43, am_tb3 (List.mem_of_getElem? (i := 16) rfl), ⟨am_tb3 (List.mem_of_getElem? (i := 15) rfl), rfl, am_tb3 (List.mem_of_getElem? (i := 17) rfl)⟩⟩
theorem am_vx_10_11 : am_vtok (am_cn 10) (105, 2, 41, 0) := ⟨am_m41, rfl, by decide, am_q41, am_tb3 (List.mem_of_getElem? (i := 20) rfl), ⟨am_tb3 (List.mem_of_getElem? (i := 19) rfl), rfl, am_tb3 (List.mem_of_getElem? (i := 21) rfl)⟩⟩
theorem am_vx_10_12 : am_vtok (am_cn 10) (110, 1, 24, 0) := ⟨am_m24, rfl, by decide, am_q24, am_tb2 (List.mem_of_getElem? (i := 126) rfl), ⟨am_tb3 (List.mem_of_getElem? (i := 1) rfl), rfl, am_tb2 (List.mem_of_getElem? (i := 127) rfl)⟩⟩
theorem am_vx_10_13 : am_vtok (am_cn 10) (113, 1, 29, 0) := ⟨am_m29, rfl, by decide, am_q29, am_tb2 (List.mem_of_getElem? (i := 173) rfl), ⟨am_tb3 (List.mem_of_getElem? (i := 2) rfl), rfl, am_tb2 (List.mem_of_getElem? (i := 174) rfl)⟩⟩
theorem am_vx_10_14 : am_vtok (am_cn 10) (116, 9, 112, 0) := ⟨am_m112, rfl, by decide, am_q112, am_tb1 (List.mem_of_getElem? (i := 116) rfl), ⟨am_tb1 (List.mem_of_getElem? (i := 114) rfl), rfl, am_tb0 (List.mem_of_getElem? (i := 1) rfl)⟩⟩
theorem am_vx_10_15 : am_vtok (am_cn 10) (120, 2, 44, 0) := ⟨am_m44, rfl, by decide, am_q44, am_tb1 (List.mem_of_getElem? (i := 119) rfl), ⟨am_tb1 (List.mem_of_getElem? (i := 118) rfl), rfl, am_tb1 (List.mem_of_getElem? (i := 120) rfl)⟩⟩
theorem am_vx_10_16 : am_vtok (am_cn 10) (130, 2, 47, 0) := ⟨am_m47, rfl, by decide, am_q47, am_tb3 (List.mem_of_getElem? (i := 36) rfl), ⟨am_tb3 (List.mem_of_getElem? (i := 35) rfl), rfl, am_tb3 (List.mem_of_getElem? (i := 37) rfl)⟩⟩
theorem am_vx_10_17 : am_vtok (am_cn 10) (136, 9, 109, 0) := ⟨am_m109, rfl, by decide, am_q109, am_tb3 (List.mem_of_getElem? (i := 9) rfl), ⟨am_tb3 (List.mem_of_getElem? (i := 7) rfl), rfl, am_tb0 (List.mem_of_getElem? (i := 13) rfl)⟩⟩
theorem am_vx_10_18 : am_vtok (am_cn 10) (140, 9, 115, 0) := ⟨am_m115, rfl, by decide, am_q115, am_tb3 (List.mem_of_getElem? (i := 46) rfl), ⟨am_tb3 (List.mem_of_getElem? (i := 44) rfl), rfl, am_tb0 (List.mem_of_getElem? (i := 17) rfl)⟩⟩
theorem am_vx_10_19 : am_vtok (am_cn 10) (144, 9, 117, 0) := ⟨am_m117, rfl, by decide, am_q117, am_tb3 (List.mem_of_getElem? (i := 54) rfl), ⟨am_tb3 (List.mem_of_getElem? (i := 52) rfl), rfl, am_tb0 (List.mem_of_getElem? (i := 19) rfl)⟩⟩
theorem am_vx_10_20 : am_vtok (am_cn 10) (147, 2, 48, 0) := ⟨am_m48, rfl, by decide, am_q48, am_tb3 (List.mem_of_getElem? (i := 57) rfl), ⟨am_tb3 (List.mem_of_getElem? (i := 56) rfl), rfl, am_tb3 (List.mem_of_getElem? (i := 58) rfl)⟩⟩
theorem am_vx_10_21 : am_vtok (am_cn 10) (150, 9, 116, 0) := ⟨am_m116, rfl, by decide, am_q116, am_tb3 (List.mem_of_getElem? (i := 50) rfl), ⟨am_tb3 (List.mem_of_getElem? (i := 48) rfl), rfl, am_tb0 (List.mem_of_getElem? (i := 18) rfl)⟩⟩
theorem am_vx_10_22 : am_vtok (am_cn 10) (153, 9, 119, 0) := ⟨am_m119, rfl, by decide, am_q119, am_tb3 (List.mem_of_getElem? (i := 25) rfl), ⟨am_tb3 (List.mem_of_getElem? (i := 23) rfl), rfl, am_tb0 (List.mem_of_getElem? (i := 14) rfl)⟩⟩
theorem am_vx_10 : ∀ e ∈ [(50, 9, 111, 0), (63, 1, 28, 0), (72, 9, 108, 0), (76, 5, 82, 0), (82, 9, 110, 0), (86, 9, 118, 0), (90, 9, 113, 0), (93, 9, 114, 0), (96, 1, 26, 0), (99, 2, 42, 0), (102, 2, 43, 0), (105, 2, 41, 0), (110, 1, 24, 0), (113, 1, 29, 0), (116, 9, 112, 0), (120, 2, 44, 0), (130, 2, 47, 0), (136, 9, 109, 0), (140, 9, 115, 0), (144, 9, 117, 0), (147, 2, 48, 0), (150, 9, 116, 0), (153, 9, 119, 0)], am_vtok (am_cn 10) e := List.forall_mem_cons.mpr ⟨am_vx_10_0, List.forall_mem_cons.mpr ⟨am_vx_10_1, List.forall_mem_cons.mpr ⟨am_vx_10_2, List.forall_mem_cons.mpr ⟨am_vx_10_3, List.forall_mem_cons.mpr ⟨am_vx_10_4, List.forall_mem_cons.mpr ⟨am_vx_10_5, List.forall_mem_cons.mpr ⟨am_vx_10_6, List.forall_mem_cons.mpr ⟨am_vx_10_7, List.forall_mem_cons.mpr ⟨am_vx_10_8, List.forall_mem_cons.mpr ⟨am_vx_10_9, List.forall_mem_cons.mpr ⟨am_vx_10_10, List.forall_mem_cons.mpr ⟨am_vx_10_11, List.forall_mem_cons.mpr ⟨am_vx_10_12, List.forall_mem_cons.mpr ⟨am_vx_10_13, List.forall_mem_cons.mpr ⟨am_vx_10_14, List.forall_mem_cons.mpr ⟨am_vx_10_15, List.forall_mem_cons.mpr ⟨am_vx_10_16, List.forall_mem_cons.mpr ⟨am_vx_10_17, List.forall_mem_cons.mpr ⟨am_vx_10_18, List.forall_mem_cons.mpr ⟨am_vx_10_19, List.forall_mem_cons.mpr ⟨am_vx_10_20, List.forall_mem_cons.mpr ⟨am_vx_10_21, List.forall_mem_cons.mpr ⟨am_vx_10_22, fun _ h => absurd h List.not_mem_nil⟩⟩⟩⟩⟩⟩⟩⟩⟩⟩⟩⟩⟩⟩⟩⟩⟩⟩⟩⟩⟩⟩⟩
theorem am_vx_11_0 : am_vtok (am_cn 11) (86, 1, 24, 0) := ⟨am_m24, rfl, by decide, am_q24, am_tb2 (List.mem_of_getElem? (i := 126) rfl), ⟨am_tb2 (List.mem_of_getElem? (i := 125) rfl), rfl, am_tb2 (List.mem_of_getElem? (i := 127) rfl)⟩⟩
theorem am_vx_11_1 : am_vtok (am_cn 11) (95, 1, 34, 0) := ⟨am_m34, rfl, by decide, am_q34, am_tb3 (List.mem_of_getElem? (i := 169) rfl), ⟨am_tb3 (List.mem_of_getElem? (i := 168) rfl), rfl, am_tb3 (List.mem_of_getElem? (i := 170) rfl)⟩⟩
theorem am_vx_11_2 : am_vtok (am_cn 11) (101, 1, 28, 0) := ⟨am_m28, rfl, by decide, am_q28, am_tb2 (List.mem_of_getElem? (i := 161) rfl), ⟨am_tb2 (List.mem_of_getElem? (i := 160) rfl), rfl, am_tb2 (List.mem_of_getElem? (i := 162) rfl)⟩⟩
theorem am_vx_11_3 : am_vtok (am_cn 11) (104, 1, 25, 0) := ⟨am_m25, rfl, by decide, am_q25, am_tb3 (List.mem_of_getElem? (i := 189) rfl), ⟨am_tb3 (List.mem_of_getElem? (i := 188) rfl), rfl, am_tb3 (List.mem_of_getElem? (i := 190) rfl)⟩⟩
theorem am_vx_11_4 : am_vtok (am_cn 11) (113, 1, 26, 0) := ⟨am_m26, rfl, by decide, am_q26, am_tb2 (List.mem_of_getElem? (i := 143) rfl), ⟨am_tb3 (List.mem_of_getElem? (i := 72) rfl), rfl, am_tb2 (List.mem_of_getElem? (i := 144) rfl)⟩⟩
theorem am_vx_11_5 : am_vtok (am_cn 11) (117, 1, 30, 0) := ⟨am_m30, rfl, by decide, am_q30, am_tb3 (List.mem_of_getElem? (i := 61) rfl), ⟨am_tb3 (List.mem_of_getElem? (i := 60) rfl), rfl, am_tb3 (List.mem_of_getElem? (i := 62) rfl)⟩⟩
theorem am_vx_11_6 : am_vtok (am_cn 11) (129, 8, 98, 0) := ⟨am_m98, rfl, by decide, am_q98, am_tb3 (List.mem_of_getElem? (i := 225) rfl), ⟨am_tb3 (List.mem_of_getElem? (i := 224) rfl), rfl, am_tb3 (List.mem_of_getElem? (i := 226) rfl)⟩⟩
theorem am_vx_11_7 : am_vtok (am_cn 11) (138, 8, 99, 0) := ⟨am_m99, rfl, by decide, am_q99, am_tb4 (List.mem_of_getElem? (i := 5) rfl), ⟨am_tb4 (List.mem_of_getElem? (i := 4) rfl), rfl, am_tb4 (List.mem_of_getElem? (i := 6) rfl)⟩⟩
theorem am_vx_11_8 : am_vtok (am_cn 11) (143, 8, 101, 0) := ⟨am_m101, rfl, by decide, am_q101, am_tb4 (List.mem_of_getElem? (i := 11) rfl), ⟨am_tb4 (List.mem_of_getElem? (i := 10) rfl), rfl, am_tb4 (List.mem_of_getElem? (i := 12) rfl)⟩⟩
theorem am_vx_11_9 : am_vtok (am_cn 11) (147, 8, 93, 0) := ⟨am_m93, rfl, by decide, am_q93, am_tb4 (List.mem_of_getElem? (i := 21) rfl), ⟨am_tb4 (List.mem_of_getElem? (i := 20) rfl), rfl, am_tb4 (List.mem_of_getElem? (i := 22) rfl)⟩⟩
theorem am_vx_11_10 : am_vtok (am_cn 11) (148, 8, 95, 0) := ⟨am_m95, rfl, by decide, am_q95, am_tb2 (List.mem_of_getElem? (i := 134) rfl), ⟨am_tb2 (List.mem_of_getElem? (i := 146) rfl), rfl, am_tb2 (List.mem_of_getElem? (i := 135) rfl)⟩⟩
theorem am_vx_11_11 : am_vtok (am_cn 11) (154, 8, 100, 0) := ⟨am_m100, rfl, by decide, am_q100, am_tb4 (List.mem_of_getElem? (i := 15) rfl), ⟨am_tb4 (List.mem_of_getElem? (i := 32) rfl), rfl, am_tb4 (List.mem_of_getElem? (i := 16) rfl)⟩⟩
theorem am_vx_11_12 : am_vtok (am_cn 11) (171, 8, 96, 0) := ⟨am_m96, rfl, by decide, am_q96, am_tb2 (List.mem_of_getElem? (i := 130) rfl), ⟨am_tb2 (List.mem_of_getElem? (i := 129) rfl), rfl, am_tb2 (List.mem_of_getElem? (i := 131) rfl)⟩⟩
theorem am_vx_11_13 : am_vtok (am_cn 11) (175, 8, 97, 0) := ⟨am_m97, rfl, by decide, am_q97, am_tb2 (List.mem_of_getElem? (i := 148) rfl), ⟨am_tb2 (List.mem_of_getElem? (i := 147) rfl), rfl, am_tb2 (List.mem_of_getElem? (i := 149) rfl)⟩⟩
theorem am_vx_11_14 : am_vtok (am_cn 11) (180, 8, 102, 0) := ⟨am_m102, rfl, by decide, am_q102, am_tb4 (List.mem_of_getElem? (i := 58) rfl), ⟨am_tb4 (List.mem_of_getElem? (i := 57) rfl), rfl, am_tb4 (List.mem_of_getElem? (i := 59) rfl)⟩⟩
theorem am_vx_11_15 : am_vtok (am_cn 11) (183, 8, 103, 0) := ⟨am_m103, rfl, by decide, am_q103, am_tb4 (List.mem_of_getElem? (i := 76) rfl), ⟨am_tb4 (List.mem_of_getElem? (i := 75) rfl), rfl, am_tb4 (List.mem_of_getElem? (i := 77) rfl)⟩⟩
theorem am_vx_11_16 : am_vtok (am_cn 11) (197, 10, 141, 0) := ⟨am_m141, rfl, by decide, am_q141, am_tb4 (List.mem_of_getElem? (i := 92) rfl), ⟨am_tb4 (List.mem_of_getElem? (i := 90) rfl), rfl, am_tb0 (List.mem_of_getElem? (i := 22) rfl)⟩⟩
theorem am_vx_11_17 : am_vtok (am_cn 11) (203, 0, 19, 3) := ⟨am_m19, rfl, by decide, am_q19, am_tb4 (List.mem_of_getElem? (i := 99) rfl), ⟨am_tb4 (List.mem_of_getElem? (i := 95) rfl), am_tb4 (List.mem_of_getElem? (i := 97) rfl), am_tb4 (List.mem_of_getElem? (i := 98) rfl), am_tb4 (List.mem_of_getElem? (i := 96) rfl)⟩⟩
theorem am_vx_11_18 : am_vtok (am_cn 11) (203, 3, 60, 3) := ⟨am_m60, rfl, by decide, am_q60, am_tb4 (List.mem_of_getElem? (i := 206) rfl), ⟨am_tb4 (List.mem_of_getElem? (i := 95) rfl), am_tb4 (List.mem_of_getElem? (i := 97) rfl), am_tb4 (List.mem_of_getElem? (i := 205) rfl), am_tb4 (List.mem_of_getElem? (i := 96) rfl)⟩⟩
theorem am_vx_11_19 : am_vtok (am_cn 11) (203, 4, 73, 3) := ⟨am_m73, rfl, by decide, am_q73, am_tb4 (List.mem_of_getElem? (i := 238) rfl), ⟨am_tb4 (List.mem_of_getElem? (i := 95) rfl), am_tb4 (List.mem_of_getElem? (i := 97) rfl), am_tb4 (List.mem_of_getElem? (i := 237) rfl), am_tb4 (List.mem_of_getElem? (i := 96) rfl)⟩⟩
theorem am_vx_11_20 : am_vtok (am_cn 11) (207, 5, 81, 0) := ⟨am_m81, rfl, by decide, am_q81, am_tb2 (List.mem_of_getElem? (i := 218) rfl), ⟨am_tb2 (List.mem_of_getElem? (i := 217) rfl), rfl, am_tb2 (List.mem_of_getElem? (i := 219) rfl)⟩⟩
theorem am_vx_11_21 : am_vtok (am_cn 11) (210, 8, 94, 0) := ⟨am_m94, rfl, by decide, am_q94, am_tb5 (List.mem_of_getElem? (i := 51) rfl), ⟨am_tb5 (List.mem_of_getElem? (i := 50) rfl), rfl, am_tb5 (List.mem_of_getElem? (i := 52) rfl)⟩⟩
theorem am_vx_11_22 : am_vtok (am_cn 11) (211, 0, 8, 3) := ⟨am_m8, rfl, by decide, am_q8, am_tb5 (List.mem_of_getElem? (i := 58) rfl), ⟨am_tb5 (List.mem_of_getElem? (i := 54) rfl), am_tb5 (List.mem_of_getElem? (i := 56) rfl), am_tb5 (List.mem_of_getElem? (i := 57) rfl), am_tb5 (List.mem_of_getElem? (i := 55) rfl)⟩⟩
theorem am_vx_11_23 : am_vtok (am_cn 11) (211, 3, 50, 3) := ⟨am_m50, rfl, by decide, am_q50, am_tb5 (List.mem_of_getElem? (i := 135) rfl), ⟨am_tb5 (List.mem_of_getElem? (i := 54) rfl), am_tb5 (List.mem_of_getElem? (i := 56) rfl), am_tb5 (List.mem_of_getElem? (i := 134) rfl), am_tb5 (List.mem_of_getElem? (i := 55) rfl)⟩⟩
theorem am_vx_11_24 : am_vtok (am_cn 11) (211, 4, 65, 3) := ⟨am_m65, rfl, by decide, am_q65, am_tb5 (List.mem_of_getElem? (i := 198) rfl), ⟨am_tb5 (List.mem_of_getElem? (i := 54) rfl), am_tb5 (List.mem_of_getElem? (i := 56) rfl), am_tb5 (List.mem_of_getElem? (i := 197) rfl), am_tb5 (List.mem_of_getElem? (i := 55) rfl)⟩⟩
theorem am_vx_11_25 : am_vtok (am_cn 11) (215, 5, 79, 0) := ⟨am_m79, rfl, by decide, am_q79, am_tb6 (List.mem_of_getElem? (i := 16) rfl), ⟨am_tb6 (List.mem_of_getElem? (i := 15) rfl), rfl, am_tb6 (List.mem_of_getElem? (i := 17) rfl)⟩⟩
theorem am_vx_11_26 : am_vtok (am_cn 11) (218, 5, 80, 0) := ⟨am_m80, rfl, by decide, am_q80, am_tb6 (List.mem_of_getElem? (i := 20) rfl), ⟨am_tb6 (List.mem_of_getElem? (i := 19) rfl), rfl, am_tb6 (List.mem_of_getElem? (i := 21) rfl)⟩⟩
theorem am_vx_11_27 : am_vtok (am_cn 11) (223, 7, 85, 0) := ⟨am_m85, rfl, by decide, am_q85, am_tb2 (List.mem_of_getElem? (i := 165) rfl), ⟨am_tb2 (List.mem_of_getElem? (i := 164) rfl), rfl, am_tb2 (List.mem_of_getElem? (i := 166) rfl)⟩⟩
theorem am_vx_11_28 : am_vtok (am_cn 11) (226, 9, 107, 0) := ⟨am_m107, rfl, by decide, am_q107, am_tb2 (List.mem_of_getElem? (i := 222) rfl), ⟨am_tb2 (List.mem_of_getElem? (i := 221) rfl), rfl, am_tb2 (List.mem_of_getElem? (i := 223) rfl)⟩⟩
theorem am_vx_11_29 : am_vtok (am_cn 11) (241, 1, 27, 0) := ⟨am_m27, rfl, by decide, am_q27, am_tb4 (List.mem_of_getElem? (i := 198) rfl), ⟨am_tb6 (List.mem_of_getElem? (i := 49) rfl), rfl, am_tb4 (List.mem_of_getElem? (i := 199) rfl)⟩⟩
theorem am_vx_11 : ∀ e ∈ [(86, 1, 24, 0), (95, 1, 34, 0), (101, 1, 28, 0), (104, 1, 25, 0), (113, 1, 26, 0), (117, 1, 30, 0), (129, 8, 98, 0), (138, 8, 99, 0), (143, 8, 101, 0), (147, 8, 93, 0), (148, 8, 95, 0), (154, 8, 100, 0), (171, 8, 96, 0), (175, 8, 97, 0), (180, 8, 102, 0), (183, 8, 103, 0), (197, 10, 141, 0), (203, 0, 19, 3), (203, 3, 60, 3), (203, 4, 73, 3), (207, 5, 81, 0), (210, 8, 94, 0), (211, 0, 8, 3), (211, 3, 50, 3), (211, 4, 65, 3), (215, 5, 79, 0), (218, 5, 80, 0), (223, 7, 85, 0), (226, 9, 107, 0), (241, 1, 27, 0)], am_vtok (am_cn 11) e := List.forall_mem_cons.mpr ⟨am_vx_11_0, List.forall_mem_cons.mpr ⟨am_vx_11_1, List.forall_mem_cons.mpr ⟨am_vx_11_2, List.forall_mem_cons.mpr ⟨am_vx_11_3, List.forall_mem_cons.mpr ⟨am_vx_11_4, List.forall_mem_cons.mpr ⟨am_vx_11_5, List.forall_mem_cons.mpr ⟨am_vx_11_6, List.forall_mem_cons.mpr ⟨am_vx_11_7, List.forall_mem_cons.mpr ⟨am_vx_11_8, List.forall_mem_cons.mpr ⟨am_vx_11_9, List.forall_mem_cons.mpr ⟨am_vx_11_10, List.forall_mem_cons.mpr ⟨am_vx_11_11, List.forall_mem_cons.mpr ⟨am_vx_11_12, List.forall_mem_cons.mpr ⟨am_vx_11_13, List.forall_mem_cons.mpr ⟨am_vx_11_14, List.forall_mem_cons.mpr ⟨am_vx_11_15, List.forall_mem_cons.mpr ⟨am_vx_11_16, List.forall_mem_cons.mpr ⟨am_vx_11_17, List.forall_mem_cons.mpr ⟨am_vx_11_18, List.forall_mem_cons.mpr ⟨am_vx_11_19, List.forall_mem_cons.mpr ⟨am_vx_11_20, List.forall_mem_cons.mpr ⟨am_vx_11_21, List.forall_mem_cons.mpr ⟨am_vx_11_22, List.forall_mem_cons.mpr ⟨am_vx_11_23, List.forall_mem_cons.mpr ⟨am_vx_11_24, List.forall_mem_cons.mpr ⟨am_vx_11_25, List.forall_mem_cons.mpr ⟨am_vx_11_26, List.forall_mem_cons.mpr ⟨am_vx_11_27, List.forall_mem_cons.mpr ⟨am_vx_11_28, List.forall_mem_cons.mpr ⟨am_vx_11_29, fun _ h => absurd h List.not_mem_nil⟩⟩⟩⟩⟩⟩⟩⟩⟩⟩⟩⟩⟩⟩⟩⟩⟩⟩⟩⟩⟩⟩⟩⟩⟩⟩⟩⟩⟩⟩
theorem am_vx_12_0 : am_vtok (am_cn 12) (78, 11, 155, 0) := ⟨am_m155, rfl, by decide, am_q155, am_tb6 (List.mem_of_getElem? (i := 204) rfl), ⟨am_tb6 (List.mem_of_getElem? (i := 202) rfl), rfl, am_tb0 (List.mem_of_getElem? (i := 56) rfl)⟩⟩
theorem am_vx_12_1 : am_vtok (am_cn 12) (90, 11, 160, 0) := ⟨am_m160, rfl, by decide, am_q160, am_tb6 (List.mem_of_getElem? (i := 221) rfl), ⟨am_tb6 (List.mem_of_getElem? (i := 219) rfl), rfl, am_tb0 (List.mem_of_getElem? (i := 57) rfl)⟩⟩
theorem am_vx_12_2 : am_vtok (am_cn 12) (108, 11, 167, 0) := ⟨am_m167, rfl, by decide, am_q167, am_tb7 (List.mem_of_getElem? (i := 25) rfl), ⟨am_tb7 (List.mem_of_getElem? (i := 23) rfl), rfl, am_tb0 (List.mem_of_getElem? (i := 61) rfl)⟩⟩
theorem am_vx_12_3 : am_vtok (am_cn 12) (112, 11, 169, 0) := ⟨am_m169, rfl, by decide, am_q169, am_tb7 (List.mem_of_getElem? (i := 33) rfl), ⟨am_tb7 (List.mem_of_getElem? (i := 31) rfl), rfl, am_tb0 (List.mem_of_getElem? (i := 63) rfl)⟩⟩
theorem am_vx_12_4 : am_vtok (am_cn 12) (120, 11, 170, 0) := ⟨am_m170, rfl, by decide, am_q170, am_tb7 (List.mem_of_getElem? (i := 21) rfl), ⟨am_tb7 (List.mem_of_getElem? (i := 19) rfl), rfl, am_tb0 (List.mem_of_getElem? (i := 60) rfl)⟩⟩
theorem am_vx_12_5 : am_vtok (am_cn 12) (123, 11, 171, 0) := ⟨am_m171, rfl, by decide, am_q171, am_tb7 (List.mem_of_getElem? (i := 29) rfl), ⟨am_tb7 (List.mem_of_getElem? (i := 27) rfl), rfl, am_tb0 (List.mem_of_getElem? (i := 62) rfl)⟩⟩
theorem am_vx_12_6 : am_vtok (am_cn 12) (126, 11, 172, 0) := ⟨am_m172, rfl, by decide, am_q172, am_tb7 (List.mem_of_getElem? (i := 37) rfl), ⟨am_tb7 (List.mem_of_getElem? (i := 35) rfl), rfl, am_tb0 (List.mem_of_getElem? (i := 64) rfl)⟩⟩
theorem am_vx_12_7 : am_vtok (am_cn 12) (129, 11, 174, 0) := ⟨am_m174, rfl, by decide, am_q174, am_tb7 (List.mem_of_getElem? (i := 45) rfl), ⟨am_tb7 (List.mem_of_getElem? (i := 43) rfl), rfl, am_tb0 (List.mem_of_getElem? (i := 66) rfl)⟩⟩
theorem am_vx_12_8 : am_vtok (am_cn 12) (136, 11, 168, 0) := ⟨am_m168, rfl, by decide, am_q168, am_tb7 (List.mem_of_getElem? (i := 10) rfl), ⟨am_tb7 (List.mem_of_getElem? (i := 8) rfl), rfl, am_tb0 (List.mem_of_getElem? (i := 58) rfl)⟩⟩
theorem am_vx_12_9 : am_vtok (am_cn 12) (140, 11, 173, 0) := ⟨am_m173, rfl, by decide, am_q173, am_tb7 (List.mem_of_getElem? (i := 17) rfl), ⟨am_tb7 (List.mem_of_getElem? (i := 15) rfl), rfl, am_tb0 (List.mem_of_getElem? (i := 59) rfl)⟩⟩
theorem am_vx_12_10 : am_vtok (am_cn 12) (144, 11, 175, 0) := ⟨am_m175, rfl, by decide, am_q175, am_tb7 (List.mem_of_getElem? (i := 41) rfl), ⟨am_tb7 (List.mem_of_getElem? (i := 39) rfl), rfl, am_tb0 (List.mem_of_getElem? (i := 65) rfl)⟩⟩
theorem am_vx_12_11 : am_vtok (am_cn 12) (149, 11, 180, 0) := ⟨am_m180, rfl, by decide, am_q180, am_tb7 (List.mem_of_getElem? (i := 66) rfl), ⟨am_tb7 (List.mem_of_getElem? (i := 64) rfl), rfl, am_tb0 (List.mem_of_getElem? (i := 67) rfl)⟩⟩
theorem am_vx_12_12 : am_vtok (am_cn 12) (158, 11, 182, 0) := ⟨am_m182, rfl, by decide, am_q182, am_tb7 (List.mem_of_getElem? (i := 78) rfl), ⟨am_tb7 (List.mem_of_getElem? (i := 76) rfl), rfl, am_tb0 (List.mem_of_getElem? (i := 69) rfl)⟩⟩
theorem am_vx_12_13 : am_vtok (am_cn 12) (161, 11, 183, 0) := ⟨am_m183, rfl, by decide, am_q183, am_tb7 (List.mem_of_getElem? (i := 82) rfl), ⟨am_tb7 (List.mem_of_getElem? (i := 80) rfl), rfl, am_tb0 (List.mem_of_getElem? (i := 70) rfl)⟩⟩
theorem am_vx_12_14 : am_vtok (am_cn 12) (165, 11, 184, 0) := ⟨am_m184, rfl, by decide, am_q184, am_tb7 (List.mem_of_getElem? (i := 74) rfl), ⟨am_tb7 (List.mem_of_getElem? (i := 72) rfl), rfl, am_tb0 (List.mem_of_getElem? (i := 68) rfl)⟩⟩
theorem am_vx_12_15 : am_vtok (am_cn 12) (170, 11, 156, 0) := ⟨am_m156, rfl, by decide, am_q156, am_tb7 (List.mem_of_getElem? (i := 99) rfl), ⟨am_tb7 (List.mem_of_getElem? (i := 97) rfl), rfl, am_tb0 (List.mem_of_getElem? (i := 73) rfl)⟩⟩
theorem am_vx_12_16 : am_vtok (am_cn 12) (188, 11, 192, 0) := ⟨am_m192, rfl, by decide, am_q192, am_tb7 (List.mem_of_getElem? (i := 115) rfl), ⟨am_tb7 (List.mem_of_getElem? (i := 113) rfl), rfl, am_tb0 (List.mem_of_getElem? (i := 77) rfl)⟩⟩
theorem am_vx_12_17 : am_vtok (am_cn 12) (191, 11, 193, 0) := ⟨am_m193, rfl, by decide, am_q193, am_tb7 (List.mem_of_getElem? (i := 123) rfl), ⟨am_tb7 (List.mem_of_getElem? (i := 121) rfl), rfl, am_tb0 (List.mem_of_getElem? (i := 78) rfl)⟩⟩
theorem am_vx_12_18 : am_vtok (am_cn 12) (194, 11, 191, 0) := ⟨am_m191, rfl, by decide, am_q191, am_tb7 (List.mem_of_getElem? (i := 127) rfl), ⟨am_tb7 (List.mem_of_getElem? (i := 125) rfl), rfl, am_tb0 (List.mem_of_getElem? (i := 79) rfl)⟩⟩
theorem am_vx_12_19 : am_vtok (am_cn 12) (197, 11, 194, 0) := ⟨am_m194, rfl, by decide, am_q194, am_tb7 (List.mem_of_getElem? (i := 131) rfl), ⟨am_tb7 (List.mem_of_getElem? (i := 129) rfl), rfl, am_tb0 (List.mem_of_getElem? (i := 80) rfl)⟩⟩
theorem am_vx_12_20 : am_vtok (am_cn 12) (200, 11, 187, 0) := ⟨am_m187, rfl, by decide, am_q187, am_tb7 (List.mem_of_getElem? (i := 95) rfl), ⟨am_tb7 (List.mem_of_getElem? (i := 93) rfl), rfl, am_tb0 (List.mem_of_getElem? (i := 72) rfl)⟩⟩
theorem am_vx_12_21 : am_vtok (am_cn 12) (204, 11, 196, 0) := ⟨am_m196, rfl, by decide, am_q196, am_tb7 (List.mem_of_getElem? (i := 103) rfl), ⟨am_tb7 (List.mem_of_getElem? (i := 101) rfl), rfl, am_tb0 (List.mem_of_getElem? (i := 74) rfl)⟩⟩
theorem am_vx_12_22 : am_vtok (am_cn 12) (207, 11, 188, 0) := ⟨am_m188, rfl, by decide, am_q188, am_tb7 (List.mem_of_getElem? (i := 107) rfl), ⟨am_tb7 (List.mem_of_getElem? (i := 105) rfl), rfl, am_tb0 (List.mem_of_getElem? (i := 75) rfl)⟩⟩
theorem am_vx_12_23 : am_vtok (am_cn 12) (210, 11, 195, 0) := ⟨am_m195, rfl, by decide, am_q195, am_tb7 (List.mem_of_getElem? (i := 111) rfl), ⟨am_tb7 (List.mem_of_getElem? (i := 109) rfl), rfl, am_tb0 (List.mem_of_getElem? (i := 76) rfl)⟩⟩
theorem am_vx_12_24 : am_vtok (am_cn 12) (213, 11, 190, 0) := ⟨am_m190, rfl, by decide, am_q190, am_tb7 (List.mem_of_getElem? (i := 135) rfl), ⟨am_tb7 (List.mem_of_getElem? (i := 133) rfl), rfl, am_tb0 (List.mem_of_getElem? (i := 81) rfl)⟩⟩
theorem am_vx_12_25 : am_vtok (am_cn 12) (216, 11, 189, 0) := ⟨am_m189, rfl, by decide, am_q189, am_tb7 (List.mem_of_getElem? (i := 139) rfl), ⟨am_tb7 (List.mem_of_getElem? (i := 137) rfl), rfl, am_tb0 (List.mem_of_getElem? (i := 82) rfl)⟩⟩
theorem am_vx_12_26 : am_vtok (am_cn 12) (235, 11, 199, 0) := ⟨am_m199, rfl, by decide, am_q199, am_tb7 (List.mem_of_getElem? (i := 159) rfl), ⟨am_tb7 (List.mem_of_getElem? (i := 157) rfl), rfl, am_tb0 (List.mem_of_getElem? (i := 85) rfl)⟩⟩
theorem am_vx_12_27 : am_vtok (am_cn 12) (244, 11, 200, 0) := ⟨am_m200, rfl, by decide, am_q200, am_tb7 (List.mem_of_getElem? (i := 147) rfl), ⟨am_tb7 (List.mem_of_getElem? (i := 145) rfl), rfl, am_tb0 (List.mem_of_getElem? (i := 84) rfl)⟩⟩
theorem am_vx_12_28 : am_vtok (am_cn 12) (247, 11, 202, 0) := ⟨am_m202, rfl, by decide, am_q202, am_tb7 (List.mem_of_getElem? (i := 165) rfl), ⟨am_tb7 (List.mem_of_getElem? (i := 163) rfl), rfl, am_tb0 (List.mem_of_getElem? (i := 86) rfl)⟩⟩
theorem am_vx_12_29 : am_vtok (am_cn 12) (257, 11, 205, 0) := ⟨am_m205, rfl, by decide, am_q205, am_tb7 (List.mem_of_getElem? (i := 193) rfl), ⟨am_tb7 (List.mem_of_getElem? (i := 191) rfl), rfl, am_tb0 (List.mem_of_getElem? (i := 91) rfl)⟩⟩
theorem am_vx_12_30 : am_vtok (am_cn 12) (260, 11, 206, 0) := ⟨am_m206, rfl, by decide, am_q206, am_tb7 (List.mem_of_getElem? (i := 197) rfl), ⟨am_tb7 (List.mem_of_getElem? (i := 195) rfl), rfl, am_tb0 (List.mem_of_getElem? (i := 92) rfl)⟩⟩
theorem am_vx_12_31 : am_vtok (am_cn 12) (263, 11, 186, 0) := ⟨am_m186, rfl, by decide, am_q186, am_tb7 (List.mem_of_getElem? (i := 185) rfl), ⟨am_tb7 (List.mem_of_getElem? (i := 183) rfl), rfl, am_tb0 (List.mem_of_getElem? (i := 89) rfl)⟩⟩
theorem am_vx_12_32 : am_vtok (am_cn 12) (267, 11, 207, 0) := ⟨am_m207, rfl, by decide, am_q207, am_tb7 (List.mem_of_getElem? (i := 189) rfl), ⟨am_tb7 (List.mem_of_getElem? (i := 187) rfl), rfl, am_tb0 (List.mem_of_getElem? (i := 90) rfl)⟩⟩
theorem am_vx_12_33 : am_vtok (am_cn 12) (273, 11, 210, 0) := ⟨am_m210, rfl, by decide, am_q210, am_tb7 (List.mem_of_getElem? (i := 210) rfl), ⟨am_tb7 (List.mem_of_getElem? (i := 208) rfl), rfl, am_tb0 (List.mem_of_getElem? (i := 95) rfl)⟩⟩
theorem am_vx_12_34 : am_vtok (am_cn 12) (276, 11, 212, 0) := ⟨am_m212, rfl, by decide, am_q212, am_tb7 (List.mem_of_getElem? (i := 214) rfl), ⟨am_tb7 (List.mem_of_getElem? (i := 212) rfl), rfl, am_tb0 (List.mem_of_getElem? (i := 96) rfl)⟩⟩
theorem am_vx_12_35 : am_vtok (am_cn 12) (279, 11, 229, 0) := ⟨am_m229, rfl, by decide, am_q229, am_tb7 (List.mem_of_getElem? (i := 218) rfl), ⟨am_tb7 (List.mem_of_getElem? (i := 216) rfl), rfl, am_tb0 (List.mem_of_getElem? (i := 97) rfl)⟩⟩
theorem am_vx_12_36 : am_vtok (am_cn 12) (288, 11, 208, 0) := ⟨am_m208, rfl, by decide, am_q208, am_tb7 (List.mem_of_getElem? (i := 181) rfl), ⟨am_tb7 (List.mem_of_getElem? (i := 179) rfl), rfl, am_tb0 (List.mem_of_getElem? (i := 88) rfl)⟩⟩
theorem am_vx_12_37 : am_vtok (am_cn 12) (291, 11, 209, 0) := ⟨am_m209, rfl, by decide, am_q209, am_tb7 (List.mem_of_getElem? (i := 201) rfl), ⟨am_tb7 (List.mem_of_getElem? (i := 199) rfl), rfl, am_tb0 (List.mem_of_getElem? (i := 93) rfl)⟩⟩
theorem am_vx_12_38 : am_vtok (am_cn 12) (294, 11, 211, 0) := ⟨am_m211, rfl, by decide, am_q211, am_tb7 (List.mem_of_getElem? (i := 205) rfl), ⟨am_tb7 (List.mem_of_getElem? (i := 203) rfl), rfl, am_tb0 (List.mem_of_getElem? (i := 94) rfl)⟩⟩
theorem am_vx_12_39 : am_vtok (am_cn 12) (297, 11, 197, 0) := ⟨am_m197, rfl, by decide, am_q197, am_tb7 (List.mem_of_getElem? (i := 91) rfl), ⟨am_tb7 (List.mem_of_getElem? (i := 89) rfl), rfl, am_tb0 (List.mem_of_getElem? (i := 71) rfl)⟩⟩
theorem am_vx_12_40 : am_vtok (am_cn 12) (300, 11, 204, 0) := ⟨am_m204, rfl, by decide, am_q204, am_tb7 (List.mem_of_getElem? (i := 143) rfl), ⟨am_tb7 (List.mem_of_getElem? (i := 141) rfl), rfl, am_tb0 (List.mem_of_getElem? (i := 83) rfl)⟩⟩
theorem am_vx_12_41 : am_vtok (am_cn 12) (303, 11, 213, 0) := ⟨am_m213, rfl, by decide, am_q213, am_tb7 (List.mem_of_getElem? (i := 177) rfl), ⟨am_tb7 (List.mem_of_getElem? (i := 175) rfl), rfl, am_tb0 (List.mem_of_getElem? (i := 87) rfl)⟩⟩
theorem am_vx_12_42 : am_vtok (am_cn 12) (312, 11, 216, 0) := ⟨am_m216, rfl, by decide, am_q216, am_tb7 (List.mem_of_getElem? (i := 222) rfl), ⟨am_tb7 (List.mem_of_getElem? (i := 220) rfl), rfl, am_tb0 (List.mem_of_getElem? (i := 98) rfl)⟩⟩
theorem am_vx_12_43 : am_vtok (am_cn 12) (320, 11, 217, 0) := ⟨am_m217, rfl, by decide, am_q217, am_tb7 (List.mem_of_getElem? (i := 226) rfl), ⟨am_tb7 (List.mem_of_getElem? (i := 224) rfl), rfl, am_tb0 (List.mem_of_getElem? (i := 99) rfl)⟩⟩
theorem am_vx_12_44 : am_vtok (am_cn 12) (324, 11, 221, 0) := ⟨am_m221, rfl, by decide, am_q221, am_tb7 (List.mem_of_getElem? (i := 235) rfl), ⟨am_tb7 (List.mem_of_getElem? (i := 233) rfl), rfl, am_tb0 (List.mem_of_getElem? (i := 101) rfl)⟩⟩
theorem am_vx_12_45 : am_vtok (am_cn 12) (327, 11, 218, 0) := ⟨am_m218, rfl, by decide, am_q218, am_tb8 (List.mem_of_getElem? (i := 3) rfl), ⟨am_tb8 (List.mem_of_getElem? (i := 1) rfl), rfl, am_tb0 (List.mem_of_getElem? (i := 103) rfl)⟩⟩
theorem am_vx_12_46 : am_vtok (am_cn 12) (330, 11, 220, 0) := ⟨am_m220, rfl, by decide, am_q220, am_tb8 (List.mem_of_getElem? (i := 24) rfl), ⟨am_tb8 (List.mem_of_getElem? (i := 22) rfl), rfl, am_tb0 (List.mem_of_getElem? (i := 108) rfl)⟩⟩
theorem am_vx_12_47 : am_vtok (am_cn 12) (333, 11, 215, 0) := ⟨am_m215, rfl, by decide, am_q215, am_tb8 (List.mem_of_getElem? (i := 11) rfl), ⟨am_tb8 (List.mem_of_getElem? (i := 9) rfl), rfl, am_tb0 (List.mem_of_getElem? (i := 105) rfl)⟩⟩
theorem am_vx_12_48 : am_vtok (am_cn 12) (336, 11, 219, 0) := ⟨am_m219, rfl, by decide, am_q219, am_tb8 (List.mem_of_getElem? (i := 15) rfl), ⟨am_tb8 (List.mem_of_getElem? (i := 13) rfl), rfl, am_tb0 (List.mem_of_getElem? (i := 106) rfl)⟩⟩
theorem am_vx_12_49 : am_vtok (am_cn 12) (339, 11, 224, 0) := ⟨am_m224, rfl, by decide, am_q224, am_tb8 (List.mem_of_getElem? (i := 20) rfl), ⟨am_tb8 (List.mem_of_getElem? (i := 18) rfl), rfl, am_tb0 (List.mem_of_getElem? (i := 107) rfl)⟩⟩
theorem am_vx_12_50 : am_vtok (am_cn 12) (345, 11, 226, 0) := ⟨am_m226, rfl, by decide, am_q226, am_tb8 (List.mem_of_getElem? (i := 32) rfl), ⟨am_tb8 (List.mem_of_getElem? (i := 30) rfl), rfl, am_tb0 (List.mem_of_getElem? (i := 110) rfl)⟩⟩
theorem am_vx_12_51 : am_vtok (am_cn 12) (348, 11, 227, 0) := ⟨am_m227, rfl, by decide, am_q227, am_tb8 (List.mem_of_getElem? (i := 36) rfl), ⟨am_tb8 (List.mem_of_getElem? (i := 34) rfl), rfl, am_tb0 (List.mem_of_getElem? (i := 111) rfl)⟩⟩
theorem am_vx_12_52 : am_vtok (am_cn 12) (351, 11, 222, 0) := ⟨am_m222, rfl, by decide, am_q222, am_tb7 (List.mem_of_getElem? (i := 230) rfl), ⟨am_tb7 (List.mem_of_getElem? (i := 228) rfl), rfl, am_tb0 (List.mem_of_getElem? (i := 100) rfl)⟩⟩
theorem am_vx_12_53 : am_vtok (am_cn 12) (354, 11, 223, 0) := ⟨am_m223, rfl, by decide, am_q223, am_tb7 (List.mem_of_getElem? (i := 239) rfl), ⟨am_tb7 (List.mem_of_getElem? (i := 237) rfl), rfl, am_tb0 (List.mem_of_getElem? (i := 102) rfl)⟩⟩
theorem am_vx_12_54 : am_vtok (am_cn 12) (357, 11, 225, 0) := ⟨am_m225, rfl, by decide, am_q225, am_tb8 (List.mem_of_getElem? (i := 7) rfl), ⟨am_tb8 (List.mem_of_getElem? (i := 5) rfl), rfl, am_tb0 (List.mem_of_getElem? (i := 104) rfl)⟩⟩
theorem am_vx_12_55 : am_vtok (am_cn 12) (360, 11, 228, 0) := ⟨am_m228, rfl, by decide, am_q228, am_tb8 (List.mem_of_getElem? (i := 28) rfl), ⟨am_tb8 (List.mem_of_getElem? (i := 26) rfl), rfl, am_tb0 (List.mem_of_getElem? (i := 109) rfl)⟩⟩
theorem am_vx_12_56 : am_vtok (am_cn 12) (370, 11, 233, 0) := ⟨am_m233, rfl, by decide, am_q233, am_tb8 (List.mem_of_getElem? (i := 64) rfl), ⟨am_tb8 (List.mem_of_getElem? (i := 62) rfl), rfl, am_tb0 (List.mem_of_getElem? (i := 114) rfl)⟩⟩
theorem am_vx_12_57 : am_vtok (am_cn 12) (379, 11, 235, 0) := ⟨am_m235, rfl, by decide, am_q235, am_tb8 (List.mem_of_getElem? (i := 76) rfl), ⟨am_tb8 (List.mem_of_getElem? (i := 74) rfl), rfl, am_tb0 (List.mem_of_getElem? (i := 117) rfl)⟩⟩
theorem am_vx_12_58 : am_vtok (am_cn 12) (382, 11, 234, 0) := ⟨am_m234, rfl, by decide, am_q234, am_tb8 (List.mem_of_getElem? (i := 60) rfl), ⟨am_tb8 (List.mem_of_getElem? (i := 58) rfl), rfl, am_tb0 (List.mem_of_getElem? (i := 113) rfl)⟩⟩
theorem am_vx_12_59 : am_vtok (am_cn 12) (385, 11, 236, 0) := ⟨am_m236, rfl, by decide, am_q236, am_tb8 (List.mem_of_getElem? (i := 68) rfl), ⟨am_tb8 (List.mem_of_getElem? (i := 66) rfl), rfl, am_tb0 (List.mem_of_getElem? (i := 115) rfl)⟩⟩
theorem am_vx_12_60 : am_vtok (am_cn 12) (388, 11, 237, 0) := ⟨am_m237, rfl, by decide, am_q237, am_tb8 (List.mem_of_getElem? (i := 72) rfl), ⟨am_tb8 (List.mem_of_getElem? (i := 70) rfl), rfl, am_tb0 (List.mem_of_getElem? (i := 116) rfl)⟩⟩
theorem am_vx_12_61 : am_vtok (am_cn 12) (391, 11, 238, 0) := ⟨am_m238, rfl, by decide, am_q238, am_tb8 (List.mem_of_getElem? (i := 56) rfl), ⟨am_tb8 (List.mem_of_getElem? (i := 54) rfl), rfl, am_tb0 (List.mem_of_getElem? (i := 112) rfl)⟩⟩
theorem am_vx_12_62 : am_vtok (am_cn 12) (394, 11, 241, 0) := ⟨am_m241, rfl, by decide, am_q241, am_tb8 (List.mem_of_getElem? (i := 88) rfl), ⟨am_tb8 (List.mem_of_getElem? (i := 86) rfl), rfl, am_tb0 (List.mem_of_getElem? (i := 119) rfl)⟩⟩
theorem am_vx_12_63 : am_vtok (am_cn 12) (398, 11, 240, 0) := ⟨am_m240, rfl, by decide, am_q240, am_tb8 (List.mem_of_getElem? (i := 92) rfl), ⟨am_tb8 (List.mem_of_getElem? (i := 90) rfl), rfl, am_tb0 (List.mem_of_getElem? (i := 120) rfl)⟩⟩
theorem am_vx_12_64 : am_vtok (am_cn 12) (401, 11, 243, 0) := ⟨am_m243, rfl, by decide, am_q243, am_tb8 (List.mem_of_getElem? (i := 96) rfl), ⟨am_tb8 (List.mem_of_getElem? (i := 94) rfl), rfl, am_tb0 (List.mem_of_getElem? (i := 121) rfl)⟩⟩
theorem am_vx_12_65 : am_vtok (am_cn 12) (405, 11, 242, 0) := ⟨am_m242, rfl, by decide, am_q242, am_tb8 (List.mem_of_getElem? (i := 100) rfl), ⟨am_tb8 (List.mem_of_getElem? (i := 98) rfl), rfl, am_tb0 (List.mem_of_getElem? (i := 122) rfl)⟩⟩
theorem am_vx_12_66 : am_vtok (am_cn 12) (408, 11, 245, 0) := ⟨am_m245, rfl, by decide, am_q245, am_tb8 (List.mem_of_getElem? (i := 113) rfl), ⟨am_tb8 (List.mem_of_getElem? (i := 111) rfl), rfl, am_tb0 (List.mem_of_getElem? (i := 125) rfl)⟩⟩
theorem am_vx_12_67 : am_vtok (am_cn 12) (412, 11, 246, 0) := ⟨am_m246, rfl, by decide, am_q246, am_tb8 (List.mem_of_getElem? (i := 109) rfl), ⟨am_tb8 (List.mem_of_getElem? (i := 107) rfl), rfl, am_tb0 (List.mem_of_getElem? (i := 124) rfl)⟩⟩
theorem am_vx_12_68 : am_vtok (am_cn 12) (416, 11, 248, 0) := ⟨am_m248, rfl, by decide, am_q248, am_tb8 (List.mem_of_getElem? (i := 125) rfl), ⟨am_tb8 (List.mem_of_getElem? (i := 123) rfl), rfl, am_tb0 (List.mem_of_getElem? (i := 128) rfl)⟩⟩
theorem am_vx_12_69 : am_vtok (am_cn 12) (419, 11, 250, 0) := ⟨am_m250, rfl, by decide, am_q250, am_tb8 (List.mem_of_getElem? (i := 129) rfl), ⟨am_tb8 (List.mem_of_getElem? (i := 127) rfl), rfl, am_tb0 (List.mem_of_getElem? (i := 129) rfl)⟩⟩
theorem am_vx_12_70 : am_vtok (am_cn 12) (422, 11, 249, 0) := ⟨am_m249, rfl, by decide, am_q249, am_tb8 (List.mem_of_getElem? (i := 133) rfl), ⟨am_tb8 (List.mem_of_getElem? (i := 131) rfl), rfl, am_tb0 (List.mem_of_getElem? (i := 130) rfl)⟩⟩
theorem am_vx_12_71 : am_vtok (am_cn 12) (425, 11, 251, 0) := ⟨am_m251, rfl, by decide, am_q251, am_tb8 (List.mem_of_getElem? (i := 137) rfl), ⟨am_tb8 (List.mem_of_getElem? (i := 135) rfl), rfl, am_tb0 (List.mem_of_getElem? (i := 131) rfl)⟩⟩
theorem am_vx_12_72 : am_vtok (am_cn 12) (428, 11, 252, 0) := ⟨am_m252, rfl, by decide, am_q252, am_tb8 (List.mem_of_getElem? (i := 141) rfl), ⟨am_tb8 (List.mem_of_getElem? (i := 139) rfl), rfl, am_tb0 (List.mem_of_getElem? (i := 132) rfl)⟩⟩
theorem am_vx_12_73 : am_vtok (am_cn 12) (431, 11, 253, 0) := ⟨am_m253, rfl, by decide, am_q253, am_tb8 (List.mem_of_getElem? (i := 121) rfl), ⟨am_tb8 (List.mem_of_getElem? (i := 119) rfl), rfl, am_tb0 (List.mem_of_getElem? (i := 127) rfl)⟩⟩
theorem am_vx_12_74 : am_vtok (am_cn 12) (434, 11, 254, 0) := ⟨am_m254, rfl, by decide, am_q254, am_tb8 (List.mem_of_getElem? (i := 145) rfl), ⟨am_tb8 (List.mem_of_getElem? (i := 143) rfl), rfl, am_tb0 (List.mem_of_getElem? (i := 133) rfl)⟩⟩
theorem am_vx_12_75 : am_vtok (am_cn 12) (437, 11, 244, 0) := ⟨am_m244, rfl, by decide, am_q244, am_tb8 (List.mem_of_getElem? (i := 84) rfl), ⟨am_tb8 (List.mem_of_getElem? (i := 82) rfl), rfl, am_tb0 (List.mem_of_getElem? (i := 118) rfl)⟩⟩
theorem am_vx_12_76 : am_vtok (am_cn 12) (440, 11, 247, 0) := ⟨am_m247, rfl, by decide, am_q247, am_tb8 (List.mem_of_getElem? (i := 104) rfl), ⟨am_tb8 (List.mem_of_getElem? (i := 102) rfl), rfl, am_tb0 (List.mem_of_getElem? (i := 123) rfl)⟩⟩
theorem am_vx_12_77 : am_vtok (am_cn 12) (443, 11, 255, 0) := ⟨am_m255, rfl, by decide, am_q255, am_tb8 (List.mem_of_getElem? (i := 117) rfl), ⟨am_tb8 (List.mem_of_getElem? (i := 115) rfl), rfl, am_tb0 (List.mem_of_getElem? (i := 126) rfl)⟩⟩
theorem am_vx_12 : ∀ e ∈ [(78, 11, 155, 0), (90, 11, 160, 0), (108, 11, 167, 0), (112, 11, 169, 0), (120, 11, 170, 0), (123, 11, 171, 0), (126, 11, 172, 0), (129, 11, 174, 0), (136, 11, 168, 0), (140, 11, 173, 0), (144, 11, 175, 0), (149, 11, 180, 0), (158, 11, 182, 0), (161, 11, 183, 0), (165, 11, 184, 0), (170, 11, 156, 0), (188, 11, 192, 0), (191, 11, 193, 0), (194, 11, 191, 0), (197, 11, 194, 0), (200, 11, 187, 0), (204, 11, 196, 0), (207, 11, 188, 0), (210, 11, 195, 0), (213, 11, 190, 0), (216, 11, 189, 0), (235, 11, 199, 0), (244, 11, 200, 0), (247, 11, 202, 0), (257, 11, 205, 0), (260, 11, 206, 0), (263, 11, 186, 0), (267, 11, 207, 0), (273, 11, 210, 0), (276, 11, 212, 0), (279, 11, 229, 0), (288, 11, 208, 0), (291, 11, 209, 0), (294, 11, 211, 0), (297, 11, 197, 0), (300, 11, 204, 0), (303, 11, 213, 0), (312, 11, 216, 0), (320, 11, 217, 0), (324, 11, 221, 0), (327, 11, 218, 0), (330, 11, 220, 0), (333, 11, 215, 0), (336, 11, 219, 0), (339, 11, 224, 0), (345, 11, 226, 0), (348, 11, 227, 0), (351, 11, 222, 0), (354, 11, 223, 0), (357, 11, 225, 0), (360, 11, 228, 0), (370, 11, 233, 0), (379, 11, 235, 0), (382, 11, 234, 0), (385, 11, 236, 0), (388, 11, 237, 0), (391, 11, 238, 0), (394, 11, 241, 0), (398, 11, 240, 0), (401, 11, 243, 0), (405, 11, 242, 0), (408, 11, 245, 0), (412, 11, 246, 0), (416, 11, 248, 0), (419, 11, 250, 0), (422, 11, 249, 0), (425, 11, 251, 0), (428, 11, 252, 0), (431, 11, 253, 0), (434, 11, 254, 0), (437, 11, 244, 0), (440, 11, 247, 0), (443, 11, 255, 0)], am_vtok (am_cn 12) e := List.forall_mem_cons.mpr ⟨am_vx_12_0, List.forall_mem_cons.mpr ⟨am_vx_12_1, List.forall_mem_cons.mpr ⟨am_vx_12_2, List.forall_mem_cons.mpr ⟨am_vx_12_3, List.forall_mem_cons.mpr ⟨am_vx_12_4, List.forall_mem_cons.mpr ⟨am_vx_12_5, List.forall_mem_cons.mpr ⟨am_vx_12_6, List.forall_mem_cons.mpr ⟨am_vx_12_7, List.forall_mem_cons.mpr ⟨am_vx_12_8, List.forall_mem_cons.mpr ⟨am_vx_12_9, List.forall_mem_cons.mpr ⟨am_vx_12_10, List.forall_mem_cons.mpr ⟨am_vx_12_11, List.forall_mem_cons.mpr ⟨am_vx_12_12, List.forall_mem_cons.mpr ⟨am_vx_12_13, List.forall_mem_cons.mpr ⟨am_vx_12_14, List.forall_mem_cons.mpr ⟨am_vx_12_15, List.forall_mem_cons.mpr ⟨am_vx_12_16, List.forall_mem_cons.mpr ⟨am_vx_12_17, List.forall_mem_cons.mpr ⟨am_vx_12_18, List.forall_mem_cons.mpr ⟨am_vx_12_19, List.forall_mem_cons.mpr ⟨am_vx_12_20, List.forall_mem_cons.mpr ⟨am_vx_12_21, List.forall_mem_cons.mpr ⟨am_vx_12_22, List.forall_mem_cons.mpr ⟨am_vx_12_23, List.forall_mem_cons.mpr ⟨am_vx_12_24, List.forall_mem_cons.mpr ⟨am_vx_12_25, List.forall_mem_cons.mpr ⟨am_vx_12_26, List.forall_mem_cons.mpr ⟨am_vx_12_27, List.forall_mem_cons.mpr ⟨am_vx_12_28, List.forall_mem_cons.mpr ⟨am_vx_12_29, List.forall_mem_cons.mpr ⟨am_vx_12_30, List.forall_mem_cons.mpr ⟨am_vx_12_31, List.forall_mem_cons.mpr ⟨am_vx_12_32, List.forall_mem_cons.mpr ⟨am_vx_12_33, List.forall_mem_cons.mpr ⟨am_vx_12_34, List.forall_mem_cons.mpr ⟨am_vx_12_35, List.forall_mem_cons.mpr ⟨am_vx_12_36, List.forall_mem_cons.mpr ⟨am_vx_12_37, List.forall_mem_cons.mpr ⟨am_vx_12_38, List.forall_mem_cons.mpr ⟨am_vx_12_39, List.forall_mem_cons.mpr ⟨am_vx_12_40, List.forall_mem_cons.mpr ⟨am_vx_12_41, List.forall_mem_cons.mpr ⟨am_vx_12_42, List.forall_mem_cons.mpr ⟨am_vx_12_43, List.forall_mem_cons.mpr ⟨am_vx_12_44, List.forall_mem_cons.mpr ⟨am_vx_12_45, List.forall_mem_cons.mpr ⟨am_vx_12_46, List.forall_mem_cons.mpr ⟨am_vx_12_47, List.forall_mem_cons.mpr ⟨am_vx_12_48, List.forall_mem_cons.mpr ⟨am_vx_12_49, List.forall_mem_cons.mpr ⟨am_vx_12_50, List.forall_mem_cons.mpr ⟨am_vx_12_51, List.forall_mem_cons.mpr ⟨am_vx_12_52, List.forall_mem_cons.mpr ⟨am_vx_12_53, List.forall_mem_cons.mpr ⟨am_vx_12_54, List.forall_mem_cons.mpr ⟨am_vx_12_55, List.forall_mem_cons.mpr ⟨am_vx_12_56, List.forall_mem_cons.mpr ⟨am_vx_12_57, List.forall_mem_cons.mpr ⟨am_vx_12_58, List.forall_mem_cons.mpr ⟨am_vx_12_59, List.forall_mem_cons.mpr ⟨am_vx_12_60, List.forall_mem_cons.mpr ⟨am_vx_12_61, List.forall_mem_cons.mpr ⟨am_vx_12_62, List.forall_mem_cons.mpr ⟨am_vx_12_63, List.forall_mem_cons.mpr ⟨am_vx_12_64, List.forall_mem_cons.mpr ⟨am_vx_12_65, List.forall_mem_cons.mpr ⟨am_vx_12_66, List.forall_mem_cons.mpr ⟨am_vx_12_67, List.forall_mem_cons.mpr ⟨am_vx_12_68, List.forall_mem_cons.mpr ⟨am_vx_12_69, List.forall_mem_cons.mpr ⟨am_vx_12_70, List.forall_mem_cons.mpr ⟨am_vx_12_71, List.forall_mem_cons.mpr ⟨am_vx_12_72, List.forall_mem_cons.mpr ⟨am_vx_12_73, List.forall_mem_cons.mpr ⟨am_vx_12_74, List.forall_mem_cons.mpr ⟨am_vx_12_75, List.forall_mem_cons.mpr ⟨am_vx_12_76, List.forall_mem_cons.mpr ⟨am_vx_12_77, fun _ h => absurd h List.not_mem_nil⟩⟩⟩⟩⟩⟩⟩⟩⟩⟩⟩⟩⟩⟩⟩⟩⟩⟩⟩⟩⟩⟩⟩⟩⟩⟩⟩⟩⟩⟩⟩⟩⟩⟩⟩⟩⟩⟩⟩⟩⟩⟩⟩⟩⟩⟩⟩⟩⟩⟩⟩⟩⟩⟩⟩⟩⟩⟩⟩⟩⟩⟩⟩⟩⟩⟩⟩⟩⟩⟩⟩⟩⟩⟩⟩⟩⟩⟩
theorem am_vx_13_0 : am_vtok (am_cn 13) (7, 10, 121, 0) := ⟨am_m121, rfl, by decide, am_q121, am_tb3 (List.mem_of_getElem? (i := 80) rfl), ⟨am_tb3 (List.mem_of_getElem? (i := 79) rfl), rfl, am_tb3 (List.mem_of_getElem? (i := 81) rfl)⟩⟩
theorem am_vx_13_1 : am_vtok (am_cn 13) (17, 10, 122, 0) := ⟨am_m122, rfl, by decide, am_q122, am_tb3 (List.mem_of_getElem? (i := 176) rfl), ⟨am_tb3 (List.mem_of_getElem? (i := 175) rfl), rfl, am_tb3 (List.mem_of_getElem? (i := 177) rfl)⟩⟩
theorem am_vx_13_2 : am_vtok (am_cn 13) (21, 10, 123, 0) := ⟨am_m123, rfl, by decide, am_q123, am_tb3 (List.mem_of_getElem? (i := 185) rfl), ⟨am_tb3 (List.mem_of_getElem? (i := 184) rfl), rfl, am_tb3 (List.mem_of_getElem? (i := 186) rfl)⟩⟩
theorem am_vx_13_3 : am_vtok (am_cn 13) (27, 10, 124, 0) := ⟨am_m124, rfl, by decide, am_q124, am_tb3 (List.mem_of_getElem? (i := 213) rfl), ⟨am_tb3 (List.mem_of_getElem? (i := 212) rfl), rfl, am_tb3 (List.mem_of_getElem? (i := 214) rfl)⟩⟩
theorem am_vx_13_4 : am_vtok (am_cn 13) (33, 10, 125, 0) := ⟨am_m125, rfl, by decide, am_q125, am_tb4 (List.mem_of_getElem? (i := 28) rfl), ⟨am_tb4 (List.mem_of_getElem? (i := 27) rfl), rfl, am_tb4 (List.mem_of_getElem? (i := 29) rfl)⟩⟩
theorem am_vx_13_5 : am_vtok (am_cn 13) (36, 10, 126, 0) := ⟨am_m126, rfl, by decide, am_q126, am_tb4 (List.mem_of_getElem? (i := 37) rfl), ⟨am_tb4 (List.mem_of_getElem? (i := 36) rfl), rfl, am_tb4 (List.mem_of_getElem? (i := 38) rfl)⟩⟩
theorem am_vx_13_6 : am_vtok (am_cn 13) (40, 10, 127, 0) := ⟨am_m127, rfl, by decide, am_q127, am_tb4 (List.mem_of_getElem? (i := 45) rfl), ⟨am_tb4 (List.mem_of_getElem? (i := 44) rfl), rfl, am_tb4 (List.mem_of_getElem? (i := 46) rfl)⟩⟩
theorem am_vx_13_7 : am_vtok (am_cn 13) (43, 10, 129, 0) := ⟨am_m129, rfl, by decide, am_q129, am_tb4 (List.mem_of_getElem? (i := 53) rfl), ⟨am_tb4 (List.mem_of_getElem? (i := 52) rfl), rfl, am_tb4 (List.mem_of_getElem? (i := 54) rfl)⟩⟩
theorem am_vx_13_8 : am_vtok (am_cn 13) (46, 10, 130, 0) := ⟨am_m130, rfl, by decide, am_q130, am_tb4 (List.mem_of_getElem? (i := 87) rfl), ⟨am_tb4 (List.mem_of_getElem? (i := 86) rfl), rfl, am_tb4 (List.mem_of_getElem? (i := 88) rfl)⟩⟩
theorem am_vx_13_9 : am_vtok (am_cn 13) (49, 10, 131, 0) := ⟨am_m131, rfl, by decide, am_q131, am_tb5 (List.mem_of_getElem? (i := 47) rfl), ⟨am_tb5 (List.mem_of_getElem? (i := 46) rfl), rfl, am_tb5 (List.mem_of_getElem? (i := 48) rfl)⟩⟩
theorem am_vx_13_10 : am_vtok (am_cn 13) (52, 10, 132, 0) := ⟨am_m132, rfl, by decide, am_q132, am_tb6 (List.mem_of_getElem? (i := 12) rfl), ⟨am_tb6 (List.mem_of_getElem? (i := 11) rfl), rfl, am_tb6 (List.mem_of_getElem? (i := 13) rfl)⟩⟩
theorem am_vx_13_11 : am_vtok (am_cn 13) (55, 10, 136, 0) := ⟨am_m136, rfl, by decide, am_q136, am_tb6 (List.mem_of_getElem? (i := 28) rfl), ⟨am_tb6 (List.mem_of_getElem? (i := 27) rfl), rfl, am_tb6 (List.mem_of_getElem? (i := 29) rfl)⟩⟩
theorem am_vx_13_12 : am_vtok (am_cn 13) (59, 10, 137, 0) := ⟨am_m137, rfl, by decide, am_q137, am_tb6 (List.mem_of_getElem? (i := 36) rfl), ⟨am_tb6 (List.mem_of_getElem? (i := 35) rfl), rfl, am_tb6 (List.mem_of_getElem? (i := 37) rfl)⟩⟩
theorem am_vx_13_13 : am_vtok (am_cn 13) (62, 10, 138, 0) := ⟨am_m138, rfl, by decide, am_q138, am_tb6 (List.mem_of_getElem? (i := 44) rfl), ⟨am_tb6 (List.mem_of_getElem? (i := 43) rfl), rfl, am_tb6 (List.mem_of_getElem? (i := 45) rfl)⟩⟩
theorem am_vx_13_14 : am_vtok (am_cn 13) (65, 10, 139, 0) := ⟨am_m139, rfl, by decide, am_q139, am_tb6 (List.mem_of_getElem? (i := 54) rfl), ⟨am_tb6 (List.mem_of_getElem? (i := 53) rfl), rfl, am_tb6 (List.mem_of_getElem? (i := 55) rfl)⟩⟩
theorem am_vx_13_15 : am_vtok (am_cn 13) (69, 10, 140, 0) := ⟨am_m140, rfl, by decide, am_q140, am_tb6 (List.mem_of_getElem? (i := 62) rfl), ⟨am_tb6 (List.mem_of_getElem? (i := 61) rfl), rfl, am_tb6 (List.mem_of_getElem? (i := 63) rfl)⟩⟩
theorem am_vx_13_16 : am_vtok (am_cn 13) (83, 11, 157, 0) := ⟨am_m157, rfl, by decide, am_q157, am_tb6 (List.mem_of_getElem? (i := 195) rfl), ⟨am_tb6 (List.mem_of_getElem? (i := 194) rfl), rfl, am_tb6 (List.mem_of_getElem? (i := 196) rfl)⟩⟩
theorem am_vx_13_17 : am_vtok (am_cn 13) (84, 11, 153, 0) := ⟨am_m153, rfl, by decide, am_q153, am_tb6 (List.mem_of_getElem? (i := 191) rfl), ⟨am_tb6 (List.mem_of_getElem? (i := 190) rfl), rfl, am_tb6 (List.mem_of_getElem? (i := 192) rfl)⟩⟩
theorem am_vx_13_18 : am_vtok (am_cn 13) (91, 11, 158, 0) := ⟨am_m158, rfl, by decide, am_q158, am_tb6 (List.mem_of_getElem? (i := 208) rfl), ⟨am_tb6 (List.mem_of_getElem? (i := 207) rfl), rfl, am_tb6 (List.mem_of_getElem? (i := 209) rfl)⟩⟩
theorem am_vx_13_19 : am_vtok (am_cn 13) (95, 11, 159, 0) := ⟨am_m159, rfl, by decide, am_q159, am_tb6 (List.mem_of_getElem? (i := 212) rfl), ⟨am_tb6 (List.mem_of_getElem? (i := 211) rfl), rfl, am_tb6 (List.mem_of_getElem? (i := 213) rfl)⟩⟩
theorem am_vx_13_20 : am_vtok (am_cn 13) (99, 11, 176, 0) := ⟨am_m176, rfl, by decide, am_q176, am_tb7 (List.mem_of_getElem? (i := 5) rfl), ⟨am_tb7 (List.mem_of_getElem? (i := 4) rfl), rfl, am_tb7 (List.mem_of_getElem? (i := 6) rfl)⟩⟩
theorem am_vx_13_21 : am_vtok (am_cn 13) (102, 11, 177, 0) := ⟨am_m177, rfl, by decide, am_q177, am_tb7 (List.mem_of_getElem? (i := 48) rfl), ⟨am_tb7 (List.mem_of_getElem? (i := 47) rfl), rfl, am_tb7 (List.mem_of_getElem? (i := 49) rfl)⟩⟩
theorem am_vx_13_22 : am_vtok (am_cn 13) (106, 11, 178, 0) := ⟨am_m178, rfl, by decide, am_q178, am_tb7 (List.mem_of_getElem? (i := 52) rfl), ⟨am_tb7 (List.mem_of_getElem? (i := 51) rfl), rfl, am_tb7 (List.mem_of_getElem? (i := 53) rfl)⟩⟩
theorem am_vx_13_23 : am_vtok (am_cn 13) (109, 11, 179, 0) := ⟨am_m179, rfl, by decide, am_q179, am_tb7 (List.mem_of_getElem? (i := 57) rfl), ⟨am_tb7 (List.mem_of_getElem? (i := 56) rfl), rfl, am_tb7 (List.mem_of_getElem? (i := 58) rfl)⟩⟩
theorem am_vx_13_24 : am_vtok (am_cn 13) (110, 10, 128, 0) := ⟨am_m128, rfl, by decide, am_q128, am_tb2 (List.mem_of_getElem? (i := 122) rfl), ⟨am_tb2 (List.mem_of_getElem? (i := 121) rfl), rfl, am_tb2 (List.mem_of_getElem? (i := 123) rfl)⟩⟩
theorem am_vx_13_25 : am_vtok (am_cn 13) (113, 11, 181, 0) := ⟨am_m181, rfl, by decide, am_q181, am_tb7 (List.mem_of_getElem? (i := 61) rfl), ⟨am_tb7 (List.mem_of_getElem? (i := 60) rfl), rfl, am_tb7 (List.mem_of_getElem? (i := 62) rfl)⟩⟩
theorem am_vx_13_26 : am_vtok (am_cn 13) (116, 11, 185, 0) := ⟨am_m185, rfl, by decide, am_q185, am_tb7 (List.mem_of_getElem? (i := 69) rfl), ⟨am_tb7 (List.mem_of_getElem? (i := 68) rfl), rfl, am_tb7 (List.mem_of_getElem? (i := 70) rfl)⟩⟩
theorem am_vx_13_27 : am_vtok (am_cn 13) (119, 11, 256, 0) := ⟨am_m256, rfl, by decide, am_q256, am_tb8 (List.mem_of_getElem? (i := 79) rfl), ⟨am_tb8 (List.mem_of_getElem? (i := 78) rfl), rfl, am_tb8 (List.mem_of_getElem? (i := 80) rfl)⟩⟩
theorem am_vx_13_28 : am_vtok (am_cn 13) (122, 11, 214, 0) := ⟨am_m214, rfl, by decide, am_q214, am_tb7 (List.mem_of_getElem? (i := 86) rfl), ⟨am_tb7 (List.mem_of_getElem? (i := 85) rfl), rfl, am_tb7 (List.mem_of_getElem? (i := 87) rfl)⟩⟩
theorem am_vx_13_29 : am_vtok (am_cn 13) (125, 11, 166, 0) := ⟨am_m166, rfl, by decide, am_q166, am_tb7 (List.mem_of_getElem? (i := 1) rfl), ⟨am_tb7 (List.mem_of_getElem? (i := 0) rfl), rfl, am_tb7 (List.mem_of_getElem? (i := 2) rfl)⟩⟩
theorem am_vx_13_30 : am_vtok (am_cn 13) (126, 10, 133, 0) := ⟨am_m133, rfl, by decide, am_q133, am_tb2 (List.mem_of_getElem? (i := 157) rfl), ⟨am_tb2 (List.mem_of_getElem? (i := 156) rfl), rfl, am_tb2 (List.mem_of_getElem? (i := 158) rfl)⟩⟩
theorem am_vx_13_31 : am_vtok (am_cn 13) (129, 11, 239, 0) := ⟨am_m239, rfl, by decide, am_q239, am_tb8 (List.mem_of_getElem? (i := 51) rfl), ⟨am_tb8 (List.mem_of_getElem? (i := 50) rfl), rfl, am_tb8 (List.mem_of_getElem? (i := 52) rfl)⟩⟩
theorem am_vx_13_32 : am_vtok (am_cn 13) (130, 10, 134, 0) := ⟨am_m134, rfl, by decide, am_q134, am_tb2 (List.mem_of_getElem? (i := 214) rfl), ⟨am_tb2 (List.mem_of_getElem? (i := 213) rfl), rfl, am_tb2 (List.mem_of_getElem? (i := 215) rfl)⟩⟩
theorem am_vx_13_33 : am_vtok (am_cn 13) (133, 11, 230, 0) := ⟨am_m230, rfl, by decide, am_q230, am_tb8 (List.mem_of_getElem? (i := 43) rfl), ⟨am_tb8 (List.mem_of_getElem? (i := 42) rfl), rfl, am_tb8 (List.mem_of_getElem? (i := 44) rfl)⟩⟩
theorem am_vx_13_34 : am_vtok (am_cn 13) (134, 10, 135, 0) := ⟨am_m135, rfl, by decide, am_q135, am_tb3 (List.mem_of_getElem? (i := 66) rfl), ⟨am_tb3 (List.mem_of_getElem? (i := 65) rfl), rfl, am_tb3 (List.mem_of_getElem? (i := 67) rfl)⟩⟩
theorem am_vx_13_35 : am_vtok (am_cn 13) (137, 11, 232, 0) := ⟨am_m232, rfl, by decide, am_q232, am_tb8 (List.mem_of_getElem? (i := 47) rfl), ⟨am_tb8 (List.mem_of_getElem? (i := 46) rfl), rfl, am_tb8 (List.mem_of_getElem? (i := 48) rfl)⟩⟩
theorem am_vx_13_36 : am_vtok (am_cn 13) (141, 11, 161, 0) := ⟨am_m161, rfl, by decide, am_q161, am_tb6 (List.mem_of_getElem? (i := 216) rfl), ⟨am_tb6 (List.mem_of_getElem? (i := 215) rfl), rfl, am_tb6 (List.mem_of_getElem? (i := 217) rfl)⟩⟩
theorem am_vx_13_37 : am_vtok (am_cn 13) (144, 11, 162, 0) := ⟨am_m162, rfl, by decide, am_q162, am_tb6 (List.mem_of_getElem? (i := 224) rfl), ⟨am_tb6 (List.mem_of_getElem? (i := 223) rfl), rfl, am_tb6 (List.mem_of_getElem? (i := 225) rfl)⟩⟩
theorem am_vx_13_38 : am_vtok (am_cn 13) (147, 11, 163, 0) := ⟨am_m163, rfl, by decide, am_q163, am_tb6 (List.mem_of_getElem? (i := 228) rfl), ⟨am_tb6 (List.mem_of_getElem? (i := 227) rfl), rfl, am_tb6 (List.mem_of_getElem? (i := 229) rfl)⟩⟩
theorem am_vx_13_39 : am_vtok (am_cn 13) (150, 11, 164, 0) := ⟨am_m164, rfl, by decide, am_q164, am_tb6 (List.mem_of_getElem? (i := 232) rfl), ⟨am_tb6 (List.mem_of_getElem? (i := 231) rfl), rfl, am_tb6 (List.mem_of_getElem? (i := 233) rfl)⟩⟩
theorem am_vx_13_40 : am_vtok (am_cn 13) (153, 11, 165, 0) := ⟨am_m165, rfl, by decide, am_q165, am_tb6 (List.mem_of_getElem? (i := 236) rfl), ⟨am_tb6 (List.mem_of_getElem? (i := 235) rfl), rfl, am_tb6 (List.mem_of_getElem? (i := 237) rfl)⟩⟩
theorem am_vx_13 : ∀ e ∈ [(7, 10, 121, 0), (17, 10, 122, 0), (21, 10, 123, 0), (27, 10, 124, 0), (33, 10, 125, 0), (36, 10, 126, 0), (40, 10, 127, 0), (43, 10, 129, 0), (46, 10, 130, 0), (49, 10, 131, 0), (52, 10, 132, 0), (55, 10, 136, 0), (59, 10, 137, 0), (62, 10, 138, 0), (65, 10, 139, 0), (69, 10, 140, 0), (83, 11, 157, 0), (84, 11, 153, 0), (91, 11, 158, 0), (95, 11, 159, 0), (99, 11, 176, 0), (102, 11, 177, 0), (106, 11, 178, 0), (109, 11, 179, 0), (110, 10, 128, 0), (113, 11, 181, 0), (116, 11, 185, 0), (119, 11, 256, 0), (122, 11, 214, 0), (125, 11, 166, 0), (126, 10, 133, 0), (129, 11, 239, 0), (130, 10, 134, 0), (133, 11, 230, 0), (134, 10, 135, 0), (137, 11, 232, 0), (141, 11, 161, 0), (144, 11, 162, 0), (147, 11, 163, 0), (150, 11, 164, 0), (153, 11, 165, 0)], am_vtok (am_cn 13) e := List.forall_mem_cons.mpr ⟨am_vx_13_0, List.forall_mem_cons.mpr ⟨am_vx_13_1, List.forall_mem_cons.mpr ⟨am_vx_13_2, List.forall_mem_cons.mpr ⟨am_vx_13_3, List.forall_mem_cons.mpr ⟨am_vx_13_4, List.forall_mem_cons.mpr ⟨am_vx_13_5, List.forall_mem_cons.mpr ⟨am_vx_13_6, List.forall_mem_cons.mpr ⟨am_vx_13_7, List.forall_mem_cons.mpr ⟨am_vx_13_8, List.forall_mem_cons.mpr ⟨am_vx_13_9, List.forall_mem_cons.mpr ⟨am_vx_13_10, List.forall_mem_cons.mpr ⟨am_vx_13_11, List.forall_mem_cons.mpr ⟨am_vx_13_12, List.forall_mem_cons.mpr ⟨am_vx_13_13, List.forall_mem_cons.mpr ⟨am_vx_13_14, List.forall_mem_cons.mpr ⟨am_vx_13_15, List.forall_mem_cons.mpr ⟨am_vx_13_16, List.forall_mem_cons.mpr ⟨am_vx_13_17, List.forall_mem_cons.mpr ⟨am_vx_13_18, List.forall_mem_cons.mpr ⟨am_vx_13_19, List.forall_mem_cons.mpr ⟨am_vx_13_20, List.forall_mem_cons.mpr ⟨am_vx_13_21, List.forall_mem_cons.mpr ⟨am_vx_13_22, List.forall_mem_cons.mpr ⟨am_vx_13_23, List.forall_mem_cons.mpr ⟨am_vx_13_24, List.forall_mem_cons.mpr ⟨am_vx_13_25, List.forall_mem_cons.mpr ⟨am_vx_13_26, List.forall_mem_cons.mpr ⟨am_vx_13_27, List.forall_mem_cons.mpr ⟨am_vx_13_28, List.forall_mem_cons.mpr ⟨am_vx_13_29, List.forall_mem_cons.mpr ⟨am_vx_13_30, List.forall_mem_cons.mpr ⟨am_vx_13_31, List.forall_mem_cons.mpr ⟨am_vx_13_32, List.forall_mem_cons.mpr ⟨am_vx_13_33, List.forall_mem_cons.mpr ⟨am_vx_13_34, List.forall_mem_cons.mpr ⟨am_vx_13_35, List.forall_mem_cons.mpr ⟨am_vx_13_36, List.forall_mem_cons.mpr ⟨am_vx_13_37, List.forall_mem_cons.mpr ⟨am_vx_13_38, List.forall_mem_cons.mpr ⟨am_vx_13_39, List.forall_mem_cons.mpr ⟨am_vx_13_40, fun _ h => absurd h List.not_mem_nil⟩⟩⟩⟩⟩⟩⟩⟩⟩⟩⟩⟩⟩⟩⟩⟩⟩⟩⟩⟩⟩⟩⟩⟩⟩⟩⟩⟩⟩⟩⟩⟩⟩⟩⟩⟩⟩⟩⟩⟩⟩
theorem am_vx_all : ∀ o, o < 17 → ∀ e ∈ am_vt o, am_vtok (am_cn o) e := by
  intro o ho
  match o, ho with
  | 0, _ => exact am_vx_0
  | 1, _ => exact am_vx_1
  | 2, _ => exact am_vx_2
  | 3, _ => exact am_vx_3
  | 4, _ => exact am_vx_4
  | 5, _ => exact am_vx_5
  | 6, _ => exact fun _ h => absurd h List.not_mem_nil
  | 7, _ => exact fun _ h => absurd h List.not_mem_nil
  | 8, _ => exact am_vx_8
  | 9, _ => exact am_vx_9
  | 10, _ => exact am_vx_10
  | 11, _ => exact am_vx_11
  | 12, _ => exact am_vx_12
  | 13, _ => exact am_vx_13
  | 14, _ => exact fun _ h => absurd h List.not_mem_nil
  | 15, _ => exact fun _ h => absurd h List.not_mem_nil
  | 16, _ => exact fun _ h => absurd h List.not_mem_nil
  | n + 17, h => exact absurd h (by omega)
theorem am_sx_0_0 : am_sstok (am_cn 0) (38, 142, 1) := ⟨am_m142, rfl, am_q142, am_tb3 (List.mem_of_getElem? (i := 217) rfl), am_tb5 (List.mem_of_getElem? (i := 124) rfl)⟩
theorem am_sx_0 : ∀ e ∈ [(38, 142, 1)], am_sstok (am_cn 0) e := List.forall_mem_cons.mpr ⟨am_sx_0_0, fun _ h => absurd h List.not_mem_nil⟩
theorem am_sx_1_0 : am_sstok (am_cn 1) (42, 147, 1) := ⟨am_m147, rfl, am_q147, am_tb4 (List.mem_of_getElem? (i := 203) rfl), am_tb4 (List.mem_of_getElem? (i := 202) rfl)⟩
theorem am_sx_1 : ∀ e ∈ [(42, 147, 1)], am_sstok (am_cn 1) e := List.forall_mem_cons.mpr ⟨am_sx_1_0, fun _ h => absurd h List.not_mem_nil⟩
theorem am_sx_4_0 : am_sstok (am_cn 4) (47, 147, 1) := ⟨am_m147, rfl, am_q147, am_tb4 (List.mem_of_getElem? (i := 203) rfl), am_tb4 (List.mem_of_getElem? (i := 231) rfl)⟩
theorem am_sx_4_1 : am_sstok (am_cn 4) (86, 59, 0) := ⟨am_m59, rfl, am_q59, am_tb5 (List.mem_of_getElem? (i := 146) rfl), am_tb5 (List.mem_of_getElem? (i := 145) rfl)⟩
theorem am_sx_4_2 : am_sstok (am_cn 4) (104, 57, 0) := ⟨am_m57, rfl, am_q57, am_tb5 (List.mem_of_getElem? (i := 182) rfl), am_tb5 (List.mem_of_getElem? (i := 181) rfl)⟩
theorem am_sx_4 : ∀ e ∈ [(47, 147, 1), (86, 59, 0), (104, 57, 0)], am_sstok (am_cn 4) e := List.forall_mem_cons.mpr ⟨am_sx_4_0, List.forall_mem_cons.mpr ⟨am_sx_4_1, List.forall_mem_cons.mpr ⟨am_sx_4_2, fun _ h => absurd h List.not_mem_nil⟩⟩⟩
theorem am_sx_5_0 : am_sstok (am_cn 5) (157, 146, 1) := ⟨am_m146, rfl, am_q146, am_tb3 (List.mem_of_getElem? (i := 70) rfl), am_tb5 (List.mem_of_getElem? (i := 16) rfl)⟩
theorem am_sx_5_1 : am_sstok (am_cn 5) (199, 75, 0) := ⟨am_m75, rfl, am_q75, am_tb5 (List.mem_of_getElem? (i := 18) rfl), am_tb5 (List.mem_of_getElem? (i := 17) rfl)⟩
theorem am_sx_5 : ∀ e ∈ [(157, 146, 1), (199, 75, 0)], am_sstok (am_cn 5) e := List.forall_mem_cons.mpr ⟨am_sx_5_0, List.forall_mem_cons.mpr ⟨am_sx_5_1, fun _ h => absurd h List.not_mem_nil⟩⟩
theorem am_sx_8_0 : am_sstok (am_cn 8) (42, 149, 1) := ⟨am_m149, rfl, am_q149, am_tb2 (List.mem_of_getElem? (i := 188) rfl), am_tb2 (List.mem_of_getElem? (i := 187) rfl)⟩
theorem am_sx_8_1 : am_sstok (am_cn 8) (47, 148, 1) := ⟨am_m148, rfl, am_q148, am_tb2 (List.mem_of_getElem? (i := 191) rfl), am_tb2 (List.mem_of_getElem? (i := 201) rfl)⟩
theorem am_sx_8_2 : am_sstok (am_cn 8) (59, 151, 1) := ⟨am_m151, rfl, am_q151, am_tb2 (List.mem_of_getElem? (i := 207) rfl), am_tb2 (List.mem_of_getElem? (i := 206) rfl)⟩
theorem am_sx_8_3 : am_sstok (am_cn 8) (62, 150, 1) := ⟨am_m150, rfl, am_q150, am_tb2 (List.mem_of_getElem? (i := 210) rfl), am_tb2 (List.mem_of_getElem? (i := 212) rfl)⟩
theorem am_sx_8 : ∀ e ∈ [(42, 149, 1), (47, 148, 1), (59, 151, 1), (62, 150, 1)], am_sstok (am_cn 8) e := List.forall_mem_cons.mpr ⟨am_sx_8_0, List.forall_mem_cons.mpr ⟨am_sx_8_1, List.forall_mem_cons.mpr ⟨am_sx_8_2, List.forall_mem_cons.mpr ⟨am_sx_8_3, fun _ h => absurd h List.not_mem_nil⟩⟩⟩⟩
theorem am_sx_9_0 : am_sstok (am_cn 9) (68, 144, 1) := ⟨am_m144, rfl, am_q144, am_tb4 (List.mem_of_getElem? (i := 66) rfl), am_tb4 (List.mem_of_getElem? (i := 65) rfl)⟩
theorem am_sx_9_1 : am_sstok (am_cn 9) (71, 105, 0) := ⟨am_m105, rfl, am_q105, am_tb4 (List.mem_of_getElem? (i := 69) rfl), am_tb4 (List.mem_of_getElem? (i := 68) rfl)⟩
theorem am_sx_9_2 : am_sstok (am_cn 9) (75, 145, 1) := ⟨am_m145, rfl, am_q145, am_tb4 (List.mem_of_getElem? (i := 72) rfl), am_tb4 (List.mem_of_getElem? (i := 71) rfl)⟩
theorem am_sx_9 : ∀ e ∈ [(68, 144, 1), (71, 105, 0), (75, 145, 1)], am_sstok (am_cn 9) e := List.forall_mem_cons.mpr ⟨am_sx_9_0, List.forall_mem_cons.mpr ⟨am_sx_9_1, List.forall_mem_cons.mpr ⟨am_sx_9_2, fun _ h => absurd h List.not_mem_nil⟩⟩⟩
theorem am_sx_10_0 : am_sstok (am_cn 10) (157, 148, 1) := ⟨am_m148, rfl, am_q148, am_tb2 (List.mem_of_getElem? (i := 191) rfl), am_tb3 (List.mem_of_getElem? (i := 27) rfl)⟩
theorem am_sx_10_1 : am_sstok (am_cn 10) (160, 150, 1) := ⟨am_m150, rfl, am_q150, am_tb2 (List.mem_of_getElem? (i := 210) rfl), am_tb3 (List.mem_of_getElem? (i := 28) rfl)⟩
theorem am_sx_10_2 : am_sstok (am_cn 10) (163, 149, 1) := ⟨am_m149, rfl, am_q149, am_tb2 (List.mem_of_getElem? (i := 188) rfl), am_tb3 (List.mem_of_getElem? (i := 29) rfl)⟩
theorem am_sx_10_3 : am_sstok (am_cn 10) (166, 151, 1) := ⟨am_m151, rfl, am_q151, am_tb2 (List.mem_of_getElem? (i := 207) rfl), am_tb3 (List.mem_of_getElem? (i := 30) rfl)⟩
theorem am_sx_10 : ∀ e ∈ [(157, 148, 1), (160, 150, 1), (163, 149, 1), (166, 151, 1)], am_sstok (am_cn 10) e := List.forall_mem_cons.mpr ⟨am_sx_10_0, List.forall_mem_cons.mpr ⟨am_sx_10_1, List.forall_mem_cons.mpr ⟨am_sx_10_2, List.forall_mem_cons.mpr ⟨am_sx_10_3, fun _ h => absurd h List.not_mem_nil⟩⟩⟩⟩
theorem am_sx_11_0 : am_sstok (am_cn 11) (121, 142, 0) := ⟨am_m142, rfl, am_q142, am_tb3 (List.mem_of_getElem? (i := 217) rfl), am_tb3 (List.mem_of_getElem? (i := 216) rfl)⟩
theorem am_sx_11_1 : am_sstok (am_cn 11) (189, 144, 0) := ⟨am_m144, rfl, am_q144, am_tb4 (List.mem_of_getElem? (i := 66) rfl), am_tb4 (List.mem_of_getElem? (i := 80) rfl)⟩
theorem am_sx_11_2 : am_sstok (am_cn 11) (192, 145, 0) := ⟨am_m145, rfl, am_q145, am_tb4 (List.mem_of_getElem? (i := 72) rfl), am_tb4 (List.mem_of_getElem? (i := 81) rfl)⟩
theorem am_sx_11_3 : am_sstok (am_cn 11) (230, 146, 0) := ⟨am_m146, rfl, am_q146, am_tb3 (List.mem_of_getElem? (i := 70) rfl), am_tb3 (List.mem_of_getElem? (i := 69) rfl)⟩
theorem am_sx_11_4 : am_sstok (am_cn 11) (247, 143, 0) := ⟨am_m143, rfl, am_q143, am_tb3 (List.mem_of_getElem? (i := 220) rfl), am_tb3 (List.mem_of_getElem? (i := 219) rfl)⟩
theorem am_sx_11_5 : am_sstok (am_cn 11) (252, 148, 0) := ⟨am_m148, rfl, am_q148, am_tb2 (List.mem_of_getElem? (i := 191) rfl), am_tb2 (List.mem_of_getElem? (i := 190) rfl)⟩
theorem am_sx_11_6 : am_sstok (am_cn 11) (255, 150, 0) := ⟨am_m150, rfl, am_q150, am_tb2 (List.mem_of_getElem? (i := 210) rfl), am_tb2 (List.mem_of_getElem? (i := 209) rfl)⟩
theorem am_sx_11 : ∀ e ∈ [(121, 142, 0), (189, 144, 0), (192, 145, 0), (230, 146, 0), (247, 143, 0), (252, 148, 0), (255, 150, 0)], am_sstok (am_cn 11) e := List.forall_mem_cons.mpr ⟨am_sx_11_0, List.forall_mem_cons.mpr ⟨am_sx_11_1, List.forall_mem_cons.mpr ⟨am_sx_11_2, List.forall_mem_cons.mpr ⟨am_sx_11_3, List.forall_mem_cons.mpr ⟨am_sx_11_4, List.forall_mem_cons.mpr ⟨am_sx_11_5, List.forall_mem_cons.mpr ⟨am_sx_11_6, fun _ h => absurd h List.not_mem_nil⟩⟩⟩⟩⟩⟩⟩
theorem am_sx_12_0 : am_sstok (am_cn 12) (74, 154, 0) := ⟨am_m154, rfl, am_q154, am_tb6 (List.mem_of_getElem? (i := 200) rfl), am_tb6 (List.mem_of_getElem? (i := 199) rfl)⟩
theorem am_sx_12_1 : am_sstok (am_cn 12) (231, 198, 0) := ⟨am_m198, rfl, am_q198, am_tb7 (List.mem_of_getElem? (i := 150) rfl), am_tb7 (List.mem_of_getElem? (i := 149) rfl)⟩
theorem am_sx_12_2 : am_sstok (am_cn 12) (241, 201, 0) := ⟨am_m201, rfl, am_q201, am_tb7 (List.mem_of_getElem? (i := 168) rfl), am_tb7 (List.mem_of_getElem? (i := 167) rfl)⟩
theorem am_sx_12_3 : am_sstok (am_cn 12) (254, 203, 0) := ⟨am_m203, rfl, am_q203, am_tb7 (List.mem_of_getElem? (i := 173) rfl), am_tb7 (List.mem_of_getElem? (i := 172) rfl)⟩
theorem am_sx_12_4 : am_sstok (am_cn 12) (285, 231, 0) := ⟨am_m231, rfl, am_q231, am_tb8 (List.mem_of_getElem? (i := 39) rfl), am_tb8 (List.mem_of_getElem? (i := 38) rfl)⟩
theorem am_sx_12 : ∀ e ∈ [(74, 154, 0), (231, 198, 0), (241, 201, 0), (254, 203, 0), (285, 231, 0)], am_sstok (am_cn 12) e := List.forall_mem_cons.mpr ⟨am_sx_12_0, List.forall_mem_cons.mpr ⟨am_sx_12_1, List.forall_mem_cons.mpr ⟨am_sx_12_2, List.forall_mem_cons.mpr ⟨am_sx_12_3, List.forall_mem_cons.mpr ⟨am_sx_12_4, fun _ h => absurd h List.not_mem_nil⟩⟩⟩⟩⟩
theorem am_sx_all : ∀ o, o < 17 → ∀ e ∈ am_sst o, am_sstok (am_cn o) e := by
  intro o ho
  match o, ho with
  | 0, _ => exact am_sx_0
  | 1, _ => exact am_sx_1
  | 2, _ => exact fun _ h => absurd h List.not_mem_nil
  | 3, _ => exact fun _ h => absurd h List.not_mem_nil
  | 4, _ => exact am_sx_4
  | 5, _ => exact am_sx_5
  | 6, _ => exact fun _ h => absurd h List.not_mem_nil
  | 7, _ => exact fun _ h => absurd h List.not_mem_nil
  | 8, _ => exact am_sx_8
  | 9, _ => exact am_sx_9
  | 10, _ => exact am_sx_10
  | 11, _ => exact am_sx_11
  | 12, _ => exact am_sx_12
  | 13, _ => exact fun _ h => absurd h List.not_mem_nil
  | 14, _ => exact fun _ h => absurd h List.not_mem_nil
  | 15, _ => exact fun _ h => absurd h List.not_mem_nil
  | 16, _ => exact fun _ h => absurd h List.not_mem_nil
  | n + 17, h => exact absurd h (by omega)
theorem am_px_1_0 : am_sptok (am_cn 1) (3, 0, 0) := ⟨am_m0, rfl, am_q0, am_tb1 (List.mem_of_getElem? (i := 193) rfl), ⟨rfl, rfl⟩, am_tb1 (List.mem_of_getElem? (i := 192) rfl)⟩
theorem am_px_1 : ∀ e ∈ [(3, 0, 0)], am_sptok (am_cn 1) e := List.forall_mem_cons.mpr ⟨am_px_1_0, fun _ h => absurd h List.not_mem_nil⟩
theorem am_px_4_0 : am_sptok (am_cn 4) (3, 0, 0) := ⟨am_m0, rfl, am_q0, am_tb1 (List.mem_of_getElem? (i := 193) rfl), ⟨rfl, rfl⟩, am_tb1 (List.mem_of_getElem? (i := 229) rfl)⟩
theorem am_px_4 : ∀ e ∈ [(3, 0, 0)], am_sptok (am_cn 4) e := List.forall_mem_cons.mpr ⟨am_px_4_0, fun _ h => absurd h List.not_mem_nil⟩
theorem am_px_5_0 : am_sptok (am_cn 5) (3, 0, 0) := ⟨am_m0, rfl, am_q0, am_tb1 (List.mem_of_getElem? (i := 193) rfl), ⟨rfl, rfl⟩, am_tb1 (List.mem_of_getElem? (i := 239) rfl)⟩
theorem am_px_5 : ∀ e ∈ [(3, 0, 0)], am_sptok (am_cn 5) e := List.forall_mem_cons.mpr ⟨am_px_5_0, fun _ h => absurd h List.not_mem_nil⟩
theorem am_px_7_0 : am_sptok (am_cn 7) (11, 23, 0) := ⟨am_m23, rfl, am_q23, am_tb1 (List.mem_of_getElem? (i := 37) rfl), ⟨rfl, rfl⟩, am_tb2 (List.mem_of_getElem? (i := 57) rfl)⟩
theorem am_px_7 : ∀ e ∈ [(11, 23, 0)], am_sptok (am_cn 7) e := List.forall_mem_cons.mpr ⟨am_px_7_0, fun _ h => absurd h List.not_mem_nil⟩
theorem am_px_9_0 : am_sptok (am_cn 9) (17, 83, 1) := ⟨am_m83, rfl, am_q83, am_tb2 (List.mem_of_getElem? (i := 53) rfl), ⟨rfl, rfl⟩, am_tb2 (List.mem_of_getElem? (i := 52) rfl)⟩
theorem am_px_9 : ∀ e ∈ [(17, 83, 1)], am_sptok (am_cn 9) e := List.forall_mem_cons.mpr ⟨am_px_9_0, fun _ h => absurd h List.not_mem_nil⟩
theorem am_px_10_0 : am_sptok (am_cn 10) (24, 40, 0) := ⟨am_m40, rfl, am_q40, am_tb1 (List.mem_of_getElem? (i := 89) rfl), ⟨rfl, rfl⟩, am_tb1 (List.mem_of_getElem? (i := 88) rfl)⟩
theorem am_px_10 : ∀ e ∈ [(24, 40, 0)], am_sptok (am_cn 10) e := List.forall_mem_cons.mpr ⟨am_px_10_0, fun _ h => absurd h List.not_mem_nil⟩
theorem am_px_11_0 : am_sptok (am_cn 11) (11, 23, 0) := ⟨am_m23, rfl, am_q23, am_tb1 (List.mem_of_getElem? (i := 37) rfl), ⟨rfl, rfl⟩, am_tb1 (List.mem_of_getElem? (i := 36) rfl)⟩
theorem am_px_11_1 : am_sptok (am_cn 11) (29, 78, 0) := ⟨am_m78, rfl, am_q78, am_tb1 (List.mem_of_getElem? (i := 51) rfl), ⟨rfl, rfl⟩, am_tb1 (List.mem_of_getElem? (i := 50) rfl)⟩
theorem am_px_11_2 : am_sptok (am_cn 11) (36, 84, 0) := ⟨am_m84, rfl, am_q84, am_tb1 (List.mem_of_getElem? (i := 64) rfl), ⟨rfl, rfl⟩, am_tb1 (List.mem_of_getElem? (i := 63) rfl)⟩
theorem am_px_11_3 : am_sptok (am_cn 11) (45, 106, 0) := ⟨am_m106, rfl, am_q106, am_tb1 (List.mem_of_getElem? (i := 83) rfl), ⟨rfl, rfl⟩, am_tb1 (List.mem_of_getElem? (i := 82) rfl)⟩
theorem am_px_11_4 : am_sptok (am_cn 11) (56, 7, 0) := ⟨am_m7, rfl, am_q7, am_tb1 (List.mem_of_getElem? (i := 190) rfl), ⟨rfl, rfl⟩, am_tb1 (List.mem_of_getElem? (i := 189) rfl)⟩
theorem am_px_11_5 : am_sptok (am_cn 11) (59, 49, 0) := ⟨am_m49, rfl, am_q49, am_tb1 (List.mem_of_getElem? (i := 227) rfl), ⟨rfl, rfl⟩, am_tb1 (List.mem_of_getElem? (i := 226) rfl)⟩
theorem am_px_11_6 : am_sptok (am_cn 11) (62, 64, 0) := ⟨am_m64, rfl, am_q64, am_tb1 (List.mem_of_getElem? (i := 237) rfl), ⟨rfl, rfl⟩, am_tb1 (List.mem_of_getElem? (i := 236) rfl)⟩
theorem am_px_11_7 : am_sptok (am_cn 11) (71, 92, 0) := ⟨am_m92, rfl, am_q92, am_tb2 (List.mem_of_getElem? (i := 46) rfl), ⟨rfl, rfl⟩, am_tb2 (List.mem_of_getElem? (i := 45) rfl)⟩
theorem am_px_11 : ∀ e ∈ [(11, 23, 0), (29, 78, 0), (36, 84, 0), (45, 106, 0), (56, 7, 0), (59, 49, 0), (62, 64, 0), (71, 92, 0)], am_sptok (am_cn 11) e := List.forall_mem_cons.mpr ⟨am_px_11_0, List.forall_mem_cons.mpr ⟨am_px_11_1, List.forall_mem_cons.mpr ⟨am_px_11_2, List.forall_mem_cons.mpr ⟨am_px_11_3, List.forall_mem_cons.mpr ⟨am_px_11_4, List.forall_mem_cons.mpr ⟨am_px_11_5, List.forall_mem_cons.mpr ⟨am_px_11_6, List.forall_mem_cons.mpr ⟨am_px_11_7, fun _ h => absurd h List.not_mem_nil⟩⟩⟩⟩⟩⟩⟩⟩
theorem am_px_13_0 : am_sptok (am_cn 13) (72, 120, 0) := ⟨am_m120, rfl, am_q120, am_tb1 (List.mem_of_getElem? (i := 29) rfl), ⟨rfl, rfl⟩, am_tb1 (List.mem_of_getElem? (i := 28) rfl)⟩
theorem am_px_13_1 : am_sptok (am_cn 13) (75, 152, 0) := ⟨am_m152, rfl, am_q152, am_tb6 (List.mem_of_getElem? (i := 68) rfl), ⟨rfl, rfl⟩, am_tb6 (List.mem_of_getElem? (i := 67) rfl)⟩
theorem am_px_13 : ∀ e ∈ [(72, 120, 0), (75, 152, 0)], am_sptok (am_cn 13) e := List.forall_mem_cons.mpr ⟨am_px_13_0, List.forall_mem_cons.mpr ⟨am_px_13_1, fun _ h => absurd h List.not_mem_nil⟩⟩
theorem am_px_all : ∀ o, o < 17 → ∀ e ∈ am_spt o, am_sptok (am_cn o) e := by
  intro o ho
  match o, ho with
  | 0, _ => exact fun _ h => absurd h List.not_mem_nil
  | 1, _ => exact am_px_1
  | 2, _ => exact fun _ h => absurd h List.not_mem_nil
  | 3, _ => exact fun _ h => absurd h List.not_mem_nil
  | 4, _ => exact am_px_4
  | 5, _ => exact am_px_5
  | 6, _ => exact fun _ h => absurd h List.not_mem_nil
  | 7, _ => exact am_px_7
  | 8, _ => exact fun _ h => absurd h List.not_mem_nil
  | 9, _ => exact am_px_9
  | 10, _ => exact am_px_10
  | 11, _ => exact am_px_11
  | 12, _ => exact fun _ h => absurd h List.not_mem_nil
  | 13, _ => exact am_px_13
  | 14, _ => exact fun _ h => absurd h List.not_mem_nil
  | 15, _ => exact fun _ h => absurd h List.not_mem_nil
  | 16, _ => exact fun _ h => absurd h List.not_mem_nil
  | n + 17, h => exact absurd h (by omega)
theorem am_oi_all : (List.range 17).all (fun o => (am_oi o).all (am_oiok (am_cn o))) = true := by decide +kernel
theorem am_obj : Cond.instanceMethod objectInit ∈ lw_tbl ∧ Cond.code objectInit ⟨#[0xb1]⟩ 1 none ∈ lw_tbl := ⟨am_tb1 (List.mem_of_getElem? (i := 32) rfl), am_tb1 (List.mem_of_getElem? (i := 33) rfl)⟩
