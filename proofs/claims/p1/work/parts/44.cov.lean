/-! EVERY CALL IS ONE OF THE CASES; printed by wip/whole/gen_case.py -/
theorem lf_b (x : Int32) : (-2147483648 : Int) ≤ x.toInt ∧ x.toInt ≤ 2147483647 := by
  have h1 := Int32.le_toInt x
  have h2 := Int32.toInt_lt x
  constructor <;> omega
theorem lf_mk {xs : Nat → Int32} {a0 a1 a2 a3 a4 a5 : Int × Int} (h0 : a0.1 ≤ (xs 0).toInt ∧ (xs 0).toInt ≤ a0.2) (h1 : a1.1 ≤ (xs 1).toInt ∧ (xs 1).toInt ≤ a1.2) (h2 : a2.1 ≤ (xs 2).toInt ∧ (xs 2).toInt ≤ a2.2) (h3 : a3.1 ≤ (xs 3).toInt ∧ (xs 3).toInt ≤ a3.2) (h4 : a4.1 ≤ (xs 4).toInt ∧ (xs 4).toInt ≤ a4.2) (h5 : a5.1 ≤ (xs 5).toInt ∧ (xs 5).toInt ≤ a5.2) : sx_iv xs [a0, a1, a2, a3, a4, a5] := by
  intro k q hq
  match k, hq with
  | 0, hq => cases hq; exact h0
  | 1, hq => cases hq; exact h1
  | 2, hq => cases hq; exact h2
  | 3, hq => cases hq; exact h3
  | 4, hq => cases hq; exact h4
  | 5, hq => cases hq; exact h5
  | k + 6, hq => cases hq
def lf_Cov (xs : Nat → Int32) (c0 : Int32) : Prop := ∃ cs, sx_iv xs cs ∧ lf_run cs c0 = true
theorem lf_sc_ok {xs : Nat → Int32} {cs : List (Int × Int)} (h : sx_iv xs cs) : ∀ j, j < 6 → sx_rel xs ((lf_sc cs).getD j .null) (.int (xs j)) := by
  intro j hj
  have e : (lf_sc cs).getD j .null = (match cs[j]? with | some q => bif !(Nat.beq j 0) && decide (q.1 = q.2) then .int (Int32.ofInt q.1) else .retAddr j | none => .retAddr j) := by
    unfold lf_sc
    rw [List.getD_eq_getElem?_getD, List.getElem?_map, List.getElem?_range hj]
    rfl
  rw [e]
  have top : sx_rel xs (.retAddr j) (.int (xs j)) := ⟨xs j, rfl, fun _ => rfl⟩
  split
  · rename_i q hq
    obtain ⟨h1, h2⟩ := h j q hq
    cases hb : (!(Nat.beq j 0) && decide (q.1 = q.2)) with
    | true =>
      have h3 := of_decide_eq_true (am_b2 hb).2
      have e2 : xs j = Int32.ofInt q.1 := by
        rw [show q.1 = (xs j).toInt from by omega, Int32.ofInt_toInt]
      show Value.int (xs j) = Value.int (Int32.ofInt q.1)
      rw [e2]
    | false => exact top
  · exact top
theorem lf_c0 (xs : Nat → Int32) : lf_Cov xs 0 := by
  have b3 := lf_b (xs 3)
  have h3 : (-2147483648 ≤ (xs 3).toInt ∧ (xs 3).toInt ≤ 0) ∨ (1 ≤ (xs 3).toInt ∧ (xs 3).toInt ≤ 1) ∨ (2 ≤ (xs 3).toInt ∧ (xs 3).toInt ≤ 2) ∨ (3 ≤ (xs 3).toInt ∧ (xs 3).toInt ≤ 3) ∨ (4 ≤ (xs 3).toInt ∧ (xs 3).toInt ≤ 4) ∨ (5 ≤ (xs 3).toInt ∧ (xs 3).toInt ≤ 5) ∨ (6 ≤ (xs 3).toInt ∧ (xs 3).toInt ≤ 6) ∨ (7 ≤ (xs 3).toInt ∧ (xs 3).toInt ≤ 7) ∨ (8 ≤ (xs 3).toInt ∧ (xs 3).toInt ≤ 8) ∨ (9 ≤ (xs 3).toInt ∧ (xs 3).toInt ≤ 2147483647) := by omega
  rcases h3 with k3 | k3 | k3 | k3 | k3 | k3 | k3 | k3 | k3 | k3
  · exact ⟨_, lf_mk (lf_b (xs 0)) (lf_b (xs 1)) (lf_b (xs 2)) (k3) (lf_b (xs 4)) (lf_b (xs 5)), ca_0_0⟩
  · exact ⟨_, lf_mk (lf_b (xs 0)) (lf_b (xs 1)) (lf_b (xs 2)) (k3) (lf_b (xs 4)) (lf_b (xs 5)), ca_0_1⟩
  · exact ⟨_, lf_mk (lf_b (xs 0)) (lf_b (xs 1)) (lf_b (xs 2)) (k3) (lf_b (xs 4)) (lf_b (xs 5)), ca_0_2⟩
  · exact ⟨_, lf_mk (lf_b (xs 0)) (lf_b (xs 1)) (lf_b (xs 2)) (k3) (lf_b (xs 4)) (lf_b (xs 5)), ca_0_3⟩
  · exact ⟨_, lf_mk (lf_b (xs 0)) (lf_b (xs 1)) (lf_b (xs 2)) (k3) (lf_b (xs 4)) (lf_b (xs 5)), ca_0_4⟩
  · exact ⟨_, lf_mk (lf_b (xs 0)) (lf_b (xs 1)) (lf_b (xs 2)) (k3) (lf_b (xs 4)) (lf_b (xs 5)), ca_0_5⟩
  · exact ⟨_, lf_mk (lf_b (xs 0)) (lf_b (xs 1)) (lf_b (xs 2)) (k3) (lf_b (xs 4)) (lf_b (xs 5)), ca_0_6⟩
  · exact ⟨_, lf_mk (lf_b (xs 0)) (lf_b (xs 1)) (lf_b (xs 2)) (k3) (lf_b (xs 4)) (lf_b (xs 5)), ca_0_7⟩
  · exact ⟨_, lf_mk (lf_b (xs 0)) (lf_b (xs 1)) (lf_b (xs 2)) (k3) (lf_b (xs 4)) (lf_b (xs 5)), ca_0_8⟩
  · exact ⟨_, lf_mk (lf_b (xs 0)) (lf_b (xs 1)) (lf_b (xs 2)) (k3) (lf_b (xs 4)) (lf_b (xs 5)), ca_0_9⟩
theorem lf_c1 (xs : Nat → Int32) : lf_Cov xs 1 := by
  have b1 := lf_b (xs 1)
  have h1 : (-2147483648 ≤ (xs 1).toInt ∧ (xs 1).toInt ≤ -1) ∨ (0 ≤ (xs 1).toInt ∧ (xs 1).toInt ≤ 0) ∨ (1 ≤ (xs 1).toInt ∧ (xs 1).toInt ≤ 2147483647) := by omega
  rcases h1 with k1 | k1 | k1
  · exact ⟨_, lf_mk (lf_b (xs 0)) (k1) (lf_b (xs 2)) (lf_b (xs 3)) (lf_b (xs 4)) (lf_b (xs 5)), ca_1_0⟩
  · exact ⟨_, lf_mk (lf_b (xs 0)) (k1) (lf_b (xs 2)) (lf_b (xs 3)) (lf_b (xs 4)) (lf_b (xs 5)), ca_1_1⟩
  · exact ⟨_, lf_mk (lf_b (xs 0)) (k1) (lf_b (xs 2)) (lf_b (xs 3)) (lf_b (xs 4)) (lf_b (xs 5)), ca_1_2⟩
theorem lf_c2 (xs : Nat → Int32) : lf_Cov xs 2 := by
  have b1 := lf_b (xs 1)
  have h1 : (-2147483648 ≤ (xs 1).toInt ∧ (xs 1).toInt ≤ -1) ∨ (0 ≤ (xs 1).toInt ∧ (xs 1).toInt ≤ 0) ∨ (1 ≤ (xs 1).toInt ∧ (xs 1).toInt ≤ 2147483647) := by omega
  rcases h1 with k1 | k1 | k1
  · exact ⟨_, lf_mk (lf_b (xs 0)) (k1) (lf_b (xs 2)) (lf_b (xs 3)) (lf_b (xs 4)) (lf_b (xs 5)), ca_2_0⟩
  · exact ⟨_, lf_mk (lf_b (xs 0)) (k1) (lf_b (xs 2)) (lf_b (xs 3)) (lf_b (xs 4)) (lf_b (xs 5)), ca_2_1⟩
  · exact ⟨_, lf_mk (lf_b (xs 0)) (k1) (lf_b (xs 2)) (lf_b (xs 3)) (lf_b (xs 4)) (lf_b (xs 5)), ca_2_2⟩
theorem lf_c3 (xs : Nat → Int32) : lf_Cov xs 3 := by
  have b1 := lf_b (xs 1)
  have b2 := lf_b (xs 2)
  have h1 : (-2147483648 ≤ (xs 1).toInt ∧ (xs 1).toInt ≤ -1) ∨ (0 ≤ (xs 1).toInt ∧ (xs 1).toInt ≤ 0) ∨ (1 ≤ (xs 1).toInt ∧ (xs 1).toInt ≤ 2147483647) := by omega
  rcases h1 with k1 | k1 | k1
  · have h2 : (-2147483648 ≤ (xs 2).toInt ∧ (xs 2).toInt ≤ -1) ∨ (0 ≤ (xs 2).toInt ∧ (xs 2).toInt ≤ 0) ∨ (1 ≤ (xs 2).toInt ∧ (xs 2).toInt ≤ 2147483647) := by omega
    rcases h2 with k2 | k2 | k2
    · exact ⟨_, lf_mk (lf_b (xs 0)) (k1) (k2) (lf_b (xs 3)) (lf_b (xs 4)) (lf_b (xs 5)), ca_3_0⟩
    · exact ⟨_, lf_mk (lf_b (xs 0)) (k1) (k2) (lf_b (xs 3)) (lf_b (xs 4)) (lf_b (xs 5)), ca_3_1⟩
    · exact ⟨_, lf_mk (lf_b (xs 0)) (k1) (k2) (lf_b (xs 3)) (lf_b (xs 4)) (lf_b (xs 5)), ca_3_2⟩
  · have h2 : (-2147483648 ≤ (xs 2).toInt ∧ (xs 2).toInt ≤ -1) ∨ (0 ≤ (xs 2).toInt ∧ (xs 2).toInt ≤ 0) ∨ (1 ≤ (xs 2).toInt ∧ (xs 2).toInt ≤ 2147483647) := by omega
    rcases h2 with k2 | k2 | k2
    · exact ⟨_, lf_mk (lf_b (xs 0)) (k1) (k2) (lf_b (xs 3)) (lf_b (xs 4)) (lf_b (xs 5)), ca_3_3⟩
    · exact ⟨_, lf_mk (lf_b (xs 0)) (k1) (k2) (lf_b (xs 3)) (lf_b (xs 4)) (lf_b (xs 5)), ca_3_4⟩
    · exact ⟨_, lf_mk (lf_b (xs 0)) (k1) (k2) (lf_b (xs 3)) (lf_b (xs 4)) (lf_b (xs 5)), ca_3_5⟩
  · have h2 : (-2147483648 ≤ (xs 2).toInt ∧ (xs 2).toInt ≤ -1) ∨ (0 ≤ (xs 2).toInt ∧ (xs 2).toInt ≤ 0) ∨ (1 ≤ (xs 2).toInt ∧ (xs 2).toInt ≤ 2147483647) := by omega
    rcases h2 with k2 | k2 | k2
    · exact ⟨_, lf_mk (lf_b (xs 0)) (k1) (k2) (lf_b (xs 3)) (lf_b (xs 4)) (lf_b (xs 5)), ca_3_6⟩
    · exact ⟨_, lf_mk (lf_b (xs 0)) (k1) (k2) (lf_b (xs 3)) (lf_b (xs 4)) (lf_b (xs 5)), ca_3_7⟩
    · exact ⟨_, lf_mk (lf_b (xs 0)) (k1) (k2) (lf_b (xs 3)) (lf_b (xs 4)) (lf_b (xs 5)), ca_3_8⟩
theorem lf_c4 (xs : Nat → Int32) : lf_Cov xs 4 := by
  have b1 := lf_b (xs 1)
  have h1 : (-2147483648 ≤ (xs 1).toInt ∧ (xs 1).toInt ≤ -1) ∨ (0 ≤ (xs 1).toInt ∧ (xs 1).toInt ≤ 0) ∨ (1 ≤ (xs 1).toInt ∧ (xs 1).toInt ≤ 2147483647) := by omega
  rcases h1 with k1 | k1 | k1
  · exact ⟨_, lf_mk (lf_b (xs 0)) (k1) (lf_b (xs 2)) (lf_b (xs 3)) (lf_b (xs 4)) (lf_b (xs 5)), ca_4_0⟩
  · exact ⟨_, lf_mk (lf_b (xs 0)) (k1) (lf_b (xs 2)) (lf_b (xs 3)) (lf_b (xs 4)) (lf_b (xs 5)), ca_4_1⟩
  · exact ⟨_, lf_mk (lf_b (xs 0)) (k1) (lf_b (xs 2)) (lf_b (xs 3)) (lf_b (xs 4)) (lf_b (xs 5)), ca_4_2⟩
theorem lf_c5 (xs : Nat → Int32) : lf_Cov xs 5 := by
  have b1 := lf_b (xs 1)
  have h1 : (-2147483648 ≤ (xs 1).toInt ∧ (xs 1).toInt ≤ -1) ∨ (0 ≤ (xs 1).toInt ∧ (xs 1).toInt ≤ 0) ∨ (1 ≤ (xs 1).toInt ∧ (xs 1).toInt ≤ 2147483647) := by omega
  rcases h1 with k1 | k1 | k1
  · exact ⟨_, lf_mk (lf_b (xs 0)) (k1) (lf_b (xs 2)) (lf_b (xs 3)) (lf_b (xs 4)) (lf_b (xs 5)), ca_5_0⟩
  · exact ⟨_, lf_mk (lf_b (xs 0)) (k1) (lf_b (xs 2)) (lf_b (xs 3)) (lf_b (xs 4)) (lf_b (xs 5)), ca_5_1⟩
  · exact ⟨_, lf_mk (lf_b (xs 0)) (k1) (lf_b (xs 2)) (lf_b (xs 3)) (lf_b (xs 4)) (lf_b (xs 5)), ca_5_2⟩
theorem lf_c6 (xs : Nat → Int32) : lf_Cov xs 6 := by
  have b1 := lf_b (xs 1)
  have h1 : (-2147483648 ≤ (xs 1).toInt ∧ (xs 1).toInt ≤ -1) ∨ (0 ≤ (xs 1).toInt ∧ (xs 1).toInt ≤ 0) ∨ (1 ≤ (xs 1).toInt ∧ (xs 1).toInt ≤ 2147483647) := by omega
  rcases h1 with k1 | k1 | k1
  · exact ⟨_, lf_mk (lf_b (xs 0)) (k1) (lf_b (xs 2)) (lf_b (xs 3)) (lf_b (xs 4)) (lf_b (xs 5)), ca_6_0⟩
  · exact ⟨_, lf_mk (lf_b (xs 0)) (k1) (lf_b (xs 2)) (lf_b (xs 3)) (lf_b (xs 4)) (lf_b (xs 5)), ca_6_1⟩
  · exact ⟨_, lf_mk (lf_b (xs 0)) (k1) (lf_b (xs 2)) (lf_b (xs 3)) (lf_b (xs 4)) (lf_b (xs 5)), ca_6_2⟩
theorem lf_c7 (xs : Nat → Int32) : lf_Cov xs 7 := ⟨_, lf_mk (lf_b (xs 0)) (lf_b (xs 1)) (lf_b (xs 2)) (lf_b (xs 3)) (lf_b (xs 4)) (lf_b (xs 5)), ca_7_0⟩
theorem lf_c8 (xs : Nat → Int32) : lf_Cov xs 8 := by
  have b1 := lf_b (xs 1)
  have b2 := lf_b (xs 2)
  have h1 : (-1 ≤ (xs 1).toInt ∧ (xs 1).toInt ≤ -1) ∨ (-2147483648 ≤ (xs 1).toInt ∧ (xs 1).toInt ≤ -2) ∨ (0 ≤ (xs 1).toInt ∧ (xs 1).toInt ≤ 2147483647) := by omega
  rcases h1 with k1 | k1 | k1
  · have h2 : (-2147483648 ≤ (xs 2).toInt ∧ (xs 2).toInt ≤ -2) ∨ (-1 ≤ (xs 2).toInt ∧ (xs 2).toInt ≤ -1) ∨ (0 ≤ (xs 2).toInt ∧ (xs 2).toInt ≤ 2147483647) := by omega
    rcases h2 with k2 | k2 | k2
    · exact ⟨_, lf_mk (lf_b (xs 0)) (k1) (k2) (lf_b (xs 3)) (lf_b (xs 4)) (lf_b (xs 5)), ca_8_0⟩
    · exact ⟨_, lf_mk (lf_b (xs 0)) (k1) (k2) (lf_b (xs 3)) (lf_b (xs 4)) (lf_b (xs 5)), ca_8_1⟩
    · exact ⟨_, lf_mk (lf_b (xs 0)) (k1) (k2) (lf_b (xs 3)) (lf_b (xs 4)) (lf_b (xs 5)), ca_8_2⟩
  · exact ⟨_, lf_mk (lf_b (xs 0)) (k1) (lf_b (xs 2)) (lf_b (xs 3)) (lf_b (xs 4)) (lf_b (xs 5)), ca_8_3⟩
  · exact ⟨_, lf_mk (lf_b (xs 0)) (k1) (lf_b (xs 2)) (lf_b (xs 3)) (lf_b (xs 4)) (lf_b (xs 5)), ca_8_4⟩
theorem lf_c9 (xs : Nat → Int32) : lf_Cov xs 9 := by
  have b1 := lf_b (xs 1)
  have b2 := lf_b (xs 2)
  have h1 : (-2147483648 ≤ (xs 1).toInt ∧ (xs 1).toInt ≤ -1) ∨ (0 ≤ (xs 1).toInt ∧ (xs 1).toInt ≤ 0) ∨ (1 ≤ (xs 1).toInt ∧ (xs 1).toInt ≤ 1) ∨ (2 ≤ (xs 1).toInt ∧ (xs 1).toInt ≤ 2) ∨ (3 ≤ (xs 1).toInt ∧ (xs 1).toInt ≤ 2147483647) := by omega
  rcases h1 with k1 | k1 | k1 | k1 | k1
  · have h2 : (-2147483648 ≤ (xs 2).toInt ∧ (xs 2).toInt ≤ -1) ∨ (0 ≤ (xs 2).toInt ∧ (xs 2).toInt ≤ 0) ∨ (1 ≤ (xs 2).toInt ∧ (xs 2).toInt ≤ 2147483647) := by omega
    rcases h2 with k2 | k2 | k2
    · exact ⟨_, lf_mk (lf_b (xs 0)) (k1) (k2) (lf_b (xs 3)) (lf_b (xs 4)) (lf_b (xs 5)), ca_9_0⟩
    · exact ⟨_, lf_mk (lf_b (xs 0)) (k1) (k2) (lf_b (xs 3)) (lf_b (xs 4)) (lf_b (xs 5)), ca_9_1⟩
    · exact ⟨_, lf_mk (lf_b (xs 0)) (k1) (k2) (lf_b (xs 3)) (lf_b (xs 4)) (lf_b (xs 5)), ca_9_2⟩
  · have h2 : (-2147483648 ≤ (xs 2).toInt ∧ (xs 2).toInt ≤ -1) ∨ (0 ≤ (xs 2).toInt ∧ (xs 2).toInt ≤ 0) ∨ (1 ≤ (xs 2).toInt ∧ (xs 2).toInt ≤ 2147483647) := by omega
    rcases h2 with k2 | k2 | k2
    · exact ⟨_, lf_mk (lf_b (xs 0)) (k1) (k2) (lf_b (xs 3)) (lf_b (xs 4)) (lf_b (xs 5)), ca_9_3⟩
    · exact ⟨_, lf_mk (lf_b (xs 0)) (k1) (k2) (lf_b (xs 3)) (lf_b (xs 4)) (lf_b (xs 5)), ca_9_4⟩
    · exact ⟨_, lf_mk (lf_b (xs 0)) (k1) (k2) (lf_b (xs 3)) (lf_b (xs 4)) (lf_b (xs 5)), ca_9_5⟩
  · have h2 : (-2147483648 ≤ (xs 2).toInt ∧ (xs 2).toInt ≤ -1) ∨ (0 ≤ (xs 2).toInt ∧ (xs 2).toInt ≤ 0) ∨ (1 ≤ (xs 2).toInt ∧ (xs 2).toInt ≤ 2147483647) := by omega
    rcases h2 with k2 | k2 | k2
    · exact ⟨_, lf_mk (lf_b (xs 0)) (k1) (k2) (lf_b (xs 3)) (lf_b (xs 4)) (lf_b (xs 5)), ca_9_6⟩
    · exact ⟨_, lf_mk (lf_b (xs 0)) (k1) (k2) (lf_b (xs 3)) (lf_b (xs 4)) (lf_b (xs 5)), ca_9_7⟩
    · exact ⟨_, lf_mk (lf_b (xs 0)) (k1) (k2) (lf_b (xs 3)) (lf_b (xs 4)) (lf_b (xs 5)), ca_9_8⟩
  · have h2 : (-2147483648 ≤ (xs 2).toInt ∧ (xs 2).toInt ≤ -1) ∨ (0 ≤ (xs 2).toInt ∧ (xs 2).toInt ≤ 0) ∨ (1 ≤ (xs 2).toInt ∧ (xs 2).toInt ≤ 2147483647) := by omega
    rcases h2 with k2 | k2 | k2
    · exact ⟨_, lf_mk (lf_b (xs 0)) (k1) (k2) (lf_b (xs 3)) (lf_b (xs 4)) (lf_b (xs 5)), ca_9_9⟩
    · exact ⟨_, lf_mk (lf_b (xs 0)) (k1) (k2) (lf_b (xs 3)) (lf_b (xs 4)) (lf_b (xs 5)), ca_9_10⟩
    · exact ⟨_, lf_mk (lf_b (xs 0)) (k1) (k2) (lf_b (xs 3)) (lf_b (xs 4)) (lf_b (xs 5)), ca_9_11⟩
  · have h2 : (-2147483648 ≤ (xs 2).toInt ∧ (xs 2).toInt ≤ -1) ∨ (0 ≤ (xs 2).toInt ∧ (xs 2).toInt ≤ 0) ∨ (1 ≤ (xs 2).toInt ∧ (xs 2).toInt ≤ 2147483647) := by omega
    rcases h2 with k2 | k2 | k2
    · exact ⟨_, lf_mk (lf_b (xs 0)) (k1) (k2) (lf_b (xs 3)) (lf_b (xs 4)) (lf_b (xs 5)), ca_9_12⟩
    · exact ⟨_, lf_mk (lf_b (xs 0)) (k1) (k2) (lf_b (xs 3)) (lf_b (xs 4)) (lf_b (xs 5)), ca_9_13⟩
    · exact ⟨_, lf_mk (lf_b (xs 0)) (k1) (k2) (lf_b (xs 3)) (lf_b (xs 4)) (lf_b (xs 5)), ca_9_14⟩
theorem lf_c10 (xs : Nat → Int32) : lf_Cov xs 10 := by
  have b1 := lf_b (xs 1)
  have h1 : (-2147483648 ≤ (xs 1).toInt ∧ (xs 1).toInt ≤ -1) ∨ (0 ≤ (xs 1).toInt ∧ (xs 1).toInt ≤ 0) ∨ (1 ≤ (xs 1).toInt ∧ (xs 1).toInt ≤ 1) ∨ (2 ≤ (xs 1).toInt ∧ (xs 1).toInt ≤ 2) ∨ (3 ≤ (xs 1).toInt ∧ (xs 1).toInt ≤ 2147483647) := by omega
  rcases h1 with k1 | k1 | k1 | k1 | k1
  · exact ⟨_, lf_mk (lf_b (xs 0)) (k1) (lf_b (xs 2)) (lf_b (xs 3)) (lf_b (xs 4)) (lf_b (xs 5)), ca_10_0⟩
  · exact ⟨_, lf_mk (lf_b (xs 0)) (k1) (lf_b (xs 2)) (lf_b (xs 3)) (lf_b (xs 4)) (lf_b (xs 5)), ca_10_1⟩
  · exact ⟨_, lf_mk (lf_b (xs 0)) (k1) (lf_b (xs 2)) (lf_b (xs 3)) (lf_b (xs 4)) (lf_b (xs 5)), ca_10_2⟩
  · exact ⟨_, lf_mk (lf_b (xs 0)) (k1) (lf_b (xs 2)) (lf_b (xs 3)) (lf_b (xs 4)) (lf_b (xs 5)), ca_10_3⟩
  · exact ⟨_, lf_mk (lf_b (xs 0)) (k1) (lf_b (xs 2)) (lf_b (xs 3)) (lf_b (xs 4)) (lf_b (xs 5)), ca_10_4⟩
theorem lf_c11 (xs : Nat → Int32) : lf_Cov xs 11 := by
  have b1 := lf_b (xs 1)
  have h1 : (-2147483648 ≤ (xs 1).toInt ∧ (xs 1).toInt ≤ -1) ∨ (0 ≤ (xs 1).toInt ∧ (xs 1).toInt ≤ 0) ∨ (1 ≤ (xs 1).toInt ∧ (xs 1).toInt ≤ 1) ∨ (2 ≤ (xs 1).toInt ∧ (xs 1).toInt ≤ 2147483647) := by omega
  rcases h1 with k1 | k1 | k1 | k1
  · exact ⟨_, lf_mk (lf_b (xs 0)) (k1) (lf_b (xs 2)) (lf_b (xs 3)) (lf_b (xs 4)) (lf_b (xs 5)), ca_11_0⟩
  · exact ⟨_, lf_mk (lf_b (xs 0)) (k1) (lf_b (xs 2)) (lf_b (xs 3)) (lf_b (xs 4)) (lf_b (xs 5)), ca_11_1⟩
  · exact ⟨_, lf_mk (lf_b (xs 0)) (k1) (lf_b (xs 2)) (lf_b (xs 3)) (lf_b (xs 4)) (lf_b (xs 5)), ca_11_2⟩
  · exact ⟨_, lf_mk (lf_b (xs 0)) (k1) (lf_b (xs 2)) (lf_b (xs 3)) (lf_b (xs 4)) (lf_b (xs 5)), ca_11_3⟩
theorem lf_c12 (xs : Nat → Int32) : lf_Cov xs 12 := ⟨_, lf_mk (lf_b (xs 0)) (lf_b (xs 1)) (lf_b (xs 2)) (lf_b (xs 3)) (lf_b (xs 4)) (lf_b (xs 5)), ca_12_0⟩
theorem lf_c13 (xs : Nat → Int32) : lf_Cov xs 13 := ⟨_, lf_mk (lf_b (xs 0)) (lf_b (xs 1)) (lf_b (xs 2)) (lf_b (xs 3)) (lf_b (xs 4)) (lf_b (xs 5)), ca_13_0⟩
theorem lf_c14 (xs : Nat → Int32) : lf_Cov xs 14 := ⟨_, lf_mk (lf_b (xs 0)) (lf_b (xs 1)) (lf_b (xs 2)) (lf_b (xs 3)) (lf_b (xs 4)) (lf_b (xs 5)), ca_14_0⟩
theorem lf_c15 (xs : Nat → Int32) : lf_Cov xs 15 := ⟨_, lf_mk (lf_b (xs 0)) (lf_b (xs 1)) (lf_b (xs 2)) (lf_b (xs 3)) (lf_b (xs 4)) (lf_b (xs 5)), ca_15_0⟩
theorem lf_c16 (xs : Nat → Int32) : lf_Cov xs 16 := by
  have b1 := lf_b (xs 1)
  have h1 : (-2147483648 ≤ (xs 1).toInt ∧ (xs 1).toInt ≤ -1) ∨ (0 ≤ (xs 1).toInt ∧ (xs 1).toInt ≤ 0) ∨ (1 ≤ (xs 1).toInt ∧ (xs 1).toInt ≤ 2147483647) := by omega
  rcases h1 with k1 | k1 | k1
  · exact ⟨_, lf_mk (lf_b (xs 0)) (k1) (lf_b (xs 2)) (lf_b (xs 3)) (lf_b (xs 4)) (lf_b (xs 5)), ca_16_0⟩
  · exact ⟨_, lf_mk (lf_b (xs 0)) (k1) (lf_b (xs 2)) (lf_b (xs 3)) (lf_b (xs 4)) (lf_b (xs 5)), ca_16_1⟩
  · exact ⟨_, lf_mk (lf_b (xs 0)) (k1) (lf_b (xs 2)) (lf_b (xs 3)) (lf_b (xs 4)) (lf_b (xs 5)), ca_16_2⟩
theorem lf_c17 (xs : Nat → Int32) : lf_Cov xs 17 := by
  have b1 := lf_b (xs 1)
  have h1 : (-2147483648 ≤ (xs 1).toInt ∧ (xs 1).toInt ≤ -1) ∨ (0 ≤ (xs 1).toInt ∧ (xs 1).toInt ≤ 0) ∨ (1 ≤ (xs 1).toInt ∧ (xs 1).toInt ≤ 2147483647) := by omega
  rcases h1 with k1 | k1 | k1
  · exact ⟨_, lf_mk (lf_b (xs 0)) (k1) (lf_b (xs 2)) (lf_b (xs 3)) (lf_b (xs 4)) (lf_b (xs 5)), ca_17_0⟩
  · exact ⟨_, lf_mk (lf_b (xs 0)) (k1) (lf_b (xs 2)) (lf_b (xs 3)) (lf_b (xs 4)) (lf_b (xs 5)), ca_17_1⟩
  · exact ⟨_, lf_mk (lf_b (xs 0)) (k1) (lf_b (xs 2)) (lf_b (xs 3)) (lf_b (xs 4)) (lf_b (xs 5)), ca_17_2⟩
theorem lf_c18 (xs : Nat → Int32) : lf_Cov xs 18 := by
  have b1 := lf_b (xs 1)
  have b2 := lf_b (xs 2)
  have h2 : (-2147483648 ≤ (xs 2).toInt ∧ (xs 2).toInt ≤ 0) ∨ (9 ≤ (xs 2).toInt ∧ (xs 2).toInt ≤ 2147483647) ∨ (1 ≤ (xs 2).toInt ∧ (xs 2).toInt ≤ 1) ∨ (2 ≤ (xs 2).toInt ∧ (xs 2).toInt ≤ 2) ∨ (3 ≤ (xs 2).toInt ∧ (xs 2).toInt ≤ 3) ∨ (4 ≤ (xs 2).toInt ∧ (xs 2).toInt ≤ 4) ∨ (5 ≤ (xs 2).toInt ∧ (xs 2).toInt ≤ 5) ∨ (6 ≤ (xs 2).toInt ∧ (xs 2).toInt ≤ 6) ∨ (7 ≤ (xs 2).toInt ∧ (xs 2).toInt ≤ 7) ∨ (8 ≤ (xs 2).toInt ∧ (xs 2).toInt ≤ 8) := by omega
  rcases h2 with k2 | k2 | k2 | k2 | k2 | k2 | k2 | k2 | k2 | k2
  · exact ⟨_, lf_mk (lf_b (xs 0)) (lf_b (xs 1)) (k2) (lf_b (xs 3)) (lf_b (xs 4)) (lf_b (xs 5)), ca_18_0⟩
  · exact ⟨_, lf_mk (lf_b (xs 0)) (lf_b (xs 1)) (k2) (lf_b (xs 3)) (lf_b (xs 4)) (lf_b (xs 5)), ca_18_1⟩
  · have h1 : (-2147483648 ≤ (xs 1).toInt ∧ (xs 1).toInt ≤ -1) ∨ (0 ≤ (xs 1).toInt ∧ (xs 1).toInt ≤ 2147483647) := by omega
    rcases h1 with k1 | k1
    · exact ⟨_, lf_mk (lf_b (xs 0)) (k1) (k2) (lf_b (xs 3)) (lf_b (xs 4)) (lf_b (xs 5)), ca_18_2⟩
    · exact ⟨_, lf_mk (lf_b (xs 0)) (k1) (k2) (lf_b (xs 3)) (lf_b (xs 4)) (lf_b (xs 5)), ca_18_3⟩
  · have h1 : (-2147483648 ≤ (xs 1).toInt ∧ (xs 1).toInt ≤ -1) ∨ (0 ≤ (xs 1).toInt ∧ (xs 1).toInt ≤ 2147483647) := by omega
    rcases h1 with k1 | k1
    · exact ⟨_, lf_mk (lf_b (xs 0)) (k1) (k2) (lf_b (xs 3)) (lf_b (xs 4)) (lf_b (xs 5)), ca_18_4⟩
    · exact ⟨_, lf_mk (lf_b (xs 0)) (k1) (k2) (lf_b (xs 3)) (lf_b (xs 4)) (lf_b (xs 5)), ca_18_5⟩
  · have h1 : (-2147483648 ≤ (xs 1).toInt ∧ (xs 1).toInt ≤ -1) ∨ (0 ≤ (xs 1).toInt ∧ (xs 1).toInt ≤ 2147483647) := by omega
    rcases h1 with k1 | k1
    · exact ⟨_, lf_mk (lf_b (xs 0)) (k1) (k2) (lf_b (xs 3)) (lf_b (xs 4)) (lf_b (xs 5)), ca_18_6⟩
    · exact ⟨_, lf_mk (lf_b (xs 0)) (k1) (k2) (lf_b (xs 3)) (lf_b (xs 4)) (lf_b (xs 5)), ca_18_7⟩
  · have h1 : (-2147483648 ≤ (xs 1).toInt ∧ (xs 1).toInt ≤ -1) ∨ (0 ≤ (xs 1).toInt ∧ (xs 1).toInt ≤ 2147483647) := by omega
    rcases h1 with k1 | k1
    · exact ⟨_, lf_mk (lf_b (xs 0)) (k1) (k2) (lf_b (xs 3)) (lf_b (xs 4)) (lf_b (xs 5)), ca_18_8⟩
    · exact ⟨_, lf_mk (lf_b (xs 0)) (k1) (k2) (lf_b (xs 3)) (lf_b (xs 4)) (lf_b (xs 5)), ca_18_9⟩
  · have h1 : (-2147483648 ≤ (xs 1).toInt ∧ (xs 1).toInt ≤ -1) ∨ (0 ≤ (xs 1).toInt ∧ (xs 1).toInt ≤ 2147483647) := by omega
    rcases h1 with k1 | k1
    · exact ⟨_, lf_mk (lf_b (xs 0)) (k1) (k2) (lf_b (xs 3)) (lf_b (xs 4)) (lf_b (xs 5)), ca_18_10⟩
    · exact ⟨_, lf_mk (lf_b (xs 0)) (k1) (k2) (lf_b (xs 3)) (lf_b (xs 4)) (lf_b (xs 5)), ca_18_11⟩
  · have h1 : (-2147483648 ≤ (xs 1).toInt ∧ (xs 1).toInt ≤ -1) ∨ (0 ≤ (xs 1).toInt ∧ (xs 1).toInt ≤ 2147483647) := by omega
    rcases h1 with k1 | k1
    · exact ⟨_, lf_mk (lf_b (xs 0)) (k1) (k2) (lf_b (xs 3)) (lf_b (xs 4)) (lf_b (xs 5)), ca_18_12⟩
    · exact ⟨_, lf_mk (lf_b (xs 0)) (k1) (k2) (lf_b (xs 3)) (lf_b (xs 4)) (lf_b (xs 5)), ca_18_13⟩
  · have h1 : (-2147483648 ≤ (xs 1).toInt ∧ (xs 1).toInt ≤ -1) ∨ (0 ≤ (xs 1).toInt ∧ (xs 1).toInt ≤ 2147483647) := by omega
    rcases h1 with k1 | k1
    · exact ⟨_, lf_mk (lf_b (xs 0)) (k1) (k2) (lf_b (xs 3)) (lf_b (xs 4)) (lf_b (xs 5)), ca_18_14⟩
    · exact ⟨_, lf_mk (lf_b (xs 0)) (k1) (k2) (lf_b (xs 3)) (lf_b (xs 4)) (lf_b (xs 5)), ca_18_15⟩
  · have h1 : (-2147483648 ≤ (xs 1).toInt ∧ (xs 1).toInt ≤ -1) ∨ (0 ≤ (xs 1).toInt ∧ (xs 1).toInt ≤ 2147483647) := by omega
    rcases h1 with k1 | k1
    · exact ⟨_, lf_mk (lf_b (xs 0)) (k1) (k2) (lf_b (xs 3)) (lf_b (xs 4)) (lf_b (xs 5)), ca_18_16⟩
    · exact ⟨_, lf_mk (lf_b (xs 0)) (k1) (k2) (lf_b (xs 3)) (lf_b (xs 4)) (lf_b (xs 5)), ca_18_17⟩
theorem lf_c19 (xs : Nat → Int32) : lf_Cov xs 19 := by
  have b1 := lf_b (xs 1)
  have h1 : (-2147483648 ≤ (xs 1).toInt ∧ (xs 1).toInt ≤ -1) ∨ (0 ≤ (xs 1).toInt ∧ (xs 1).toInt ≤ 0) ∨ (1 ≤ (xs 1).toInt ∧ (xs 1).toInt ≤ 1) ∨ (2 ≤ (xs 1).toInt ∧ (xs 1).toInt ≤ 2) ∨ (3 ≤ (xs 1).toInt ∧ (xs 1).toInt ≤ 2147483647) := by omega
  rcases h1 with k1 | k1 | k1 | k1 | k1
  · exact ⟨_, lf_mk (lf_b (xs 0)) (k1) (lf_b (xs 2)) (lf_b (xs 3)) (lf_b (xs 4)) (lf_b (xs 5)), ca_19_0⟩
  · exact ⟨_, lf_mk (lf_b (xs 0)) (k1) (lf_b (xs 2)) (lf_b (xs 3)) (lf_b (xs 4)) (lf_b (xs 5)), ca_19_1⟩
  · exact ⟨_, lf_mk (lf_b (xs 0)) (k1) (lf_b (xs 2)) (lf_b (xs 3)) (lf_b (xs 4)) (lf_b (xs 5)), ca_19_2⟩
  · exact ⟨_, lf_mk (lf_b (xs 0)) (k1) (lf_b (xs 2)) (lf_b (xs 3)) (lf_b (xs 4)) (lf_b (xs 5)), ca_19_3⟩
  · exact ⟨_, lf_mk (lf_b (xs 0)) (k1) (lf_b (xs 2)) (lf_b (xs 3)) (lf_b (xs 4)) (lf_b (xs 5)), ca_19_4⟩
theorem lf_c20 (xs : Nat → Int32) : lf_Cov xs 20 := ⟨_, lf_mk (lf_b (xs 0)) (lf_b (xs 1)) (lf_b (xs 2)) (lf_b (xs 3)) (lf_b (xs 4)) (lf_b (xs 5)), ca_20_0⟩
theorem lf_c21 (xs : Nat → Int32) : lf_Cov xs 21 := ⟨_, lf_mk (lf_b (xs 0)) (lf_b (xs 1)) (lf_b (xs 2)) (lf_b (xs 3)) (lf_b (xs 4)) (lf_b (xs 5)), ca_21_0⟩
theorem lf_c22 (xs : Nat → Int32) : lf_Cov xs 22 := ⟨_, lf_mk (lf_b (xs 0)) (lf_b (xs 1)) (lf_b (xs 2)) (lf_b (xs 3)) (lf_b (xs 4)) (lf_b (xs 5)), ca_22_0⟩
theorem lf_c23 (xs : Nat → Int32) : lf_Cov xs 23 := ⟨_, lf_mk (lf_b (xs 0)) (lf_b (xs 1)) (lf_b (xs 2)) (lf_b (xs 3)) (lf_b (xs 4)) (lf_b (xs 5)), ca_23_0⟩
theorem lf_c24 (xs : Nat → Int32) : lf_Cov xs 24 := ⟨_, lf_mk (lf_b (xs 0)) (lf_b (xs 1)) (lf_b (xs 2)) (lf_b (xs 3)) (lf_b (xs 4)) (lf_b (xs 5)), ca_24_0⟩
theorem lf_c25 (xs : Nat → Int32) : lf_Cov xs 25 := ⟨_, lf_mk (lf_b (xs 0)) (lf_b (xs 1)) (lf_b (xs 2)) (lf_b (xs 3)) (lf_b (xs 4)) (lf_b (xs 5)), ca_25_0⟩
theorem lf_c26 (xs : Nat → Int32) : lf_Cov xs 26 := ⟨_, lf_mk (lf_b (xs 0)) (lf_b (xs 1)) (lf_b (xs 2)) (lf_b (xs 3)) (lf_b (xs 4)) (lf_b (xs 5)), ca_26_0⟩
theorem lf_c27 (xs : Nat → Int32) : lf_Cov xs 27 := ⟨_, lf_mk (lf_b (xs 0)) (lf_b (xs 1)) (lf_b (xs 2)) (lf_b (xs 3)) (lf_b (xs 4)) (lf_b (xs 5)), ca_27_0⟩
theorem lf_c28 (xs : Nat → Int32) : lf_Cov xs 28 := ⟨_, lf_mk (lf_b (xs 0)) (lf_b (xs 1)) (lf_b (xs 2)) (lf_b (xs 3)) (lf_b (xs 4)) (lf_b (xs 5)), ca_28_0⟩
theorem lf_c29 (xs : Nat → Int32) : lf_Cov xs 29 := ⟨_, lf_mk (lf_b (xs 0)) (lf_b (xs 1)) (lf_b (xs 2)) (lf_b (xs 3)) (lf_b (xs 4)) (lf_b (xs 5)), ca_29_0⟩
theorem lf_c30 (xs : Nat → Int32) : lf_Cov xs 30 := ⟨_, lf_mk (lf_b (xs 0)) (lf_b (xs 1)) (lf_b (xs 2)) (lf_b (xs 3)) (lf_b (xs 4)) (lf_b (xs 5)), ca_30_0⟩
theorem lf_c31 (xs : Nat → Int32) : lf_Cov xs 31 := ⟨_, lf_mk (lf_b (xs 0)) (lf_b (xs 1)) (lf_b (xs 2)) (lf_b (xs 3)) (lf_b (xs 4)) (lf_b (xs 5)), ca_31_0⟩
