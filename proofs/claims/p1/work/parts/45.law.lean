/-! THE LAW'S WALK, of one call on a fresh object at most -/
theorem lf_all (xs : Nat → Int32) : lf_Cov xs (xs 0 &&& 31) := by
  generalize hy : xs 0 &&& 31 = y
  have h1 : y.toBitVec.toNat < 32 := by
    rw [← hy, Int32.toBitVec_and, BitVec.toNat_and]
    exact Nat.lt_of_le_of_lt Nat.and_le_right (by decide)
  have h2 : ∀ c : Int32, y.toBitVec.toNat = c.toBitVec.toNat → y = c := fun c h => Int32.toBitVec_inj.mp (BitVec.eq_of_toNat_eq h)
  generalize hn : y.toBitVec.toNat = n at h1 h2
  match n, h1 with
  | 0, _ => rw [h2 0 (by decide +kernel)]; exact lf_c0 xs
  | 1, _ => rw [h2 1 (by decide +kernel)]; exact lf_c1 xs
  | 2, _ => rw [h2 2 (by decide +kernel)]; exact lf_c2 xs
  | 3, _ => rw [h2 3 (by decide +kernel)]; exact lf_c3 xs
  | 4, _ => rw [h2 4 (by decide +kernel)]; exact lf_c4 xs
  | 5, _ => rw [h2 5 (by decide +kernel)]; exact lf_c5 xs
  | 6, _ => rw [h2 6 (by decide +kernel)]; exact lf_c6 xs
  | 7, _ => rw [h2 7 (by decide +kernel)]; exact lf_c7 xs
  | 8, _ => rw [h2 8 (by decide +kernel)]; exact lf_c8 xs
  | 9, _ => rw [h2 9 (by decide +kernel)]; exact lf_c9 xs
  | 10, _ => rw [h2 10 (by decide +kernel)]; exact lf_c10 xs
  | 11, _ => rw [h2 11 (by decide +kernel)]; exact lf_c11 xs
  | 12, _ => rw [h2 12 (by decide +kernel)]; exact lf_c12 xs
  | 13, _ => rw [h2 13 (by decide +kernel)]; exact lf_c13 xs
  | 14, _ => rw [h2 14 (by decide +kernel)]; exact lf_c14 xs
  | 15, _ => rw [h2 15 (by decide +kernel)]; exact lf_c15 xs
  | 16, _ => rw [h2 16 (by decide +kernel)]; exact lf_c16 xs
  | 17, _ => rw [h2 17 (by decide +kernel)]; exact lf_c17 xs
  | 18, _ => rw [h2 18 (by decide +kernel)]; exact lf_c18 xs
  | 19, _ => rw [h2 19 (by decide +kernel)]; exact lf_c19 xs
  | 20, _ => rw [h2 20 (by decide +kernel)]; exact lf_c20 xs
  | 21, _ => rw [h2 21 (by decide +kernel)]; exact lf_c21 xs
  | 22, _ => rw [h2 22 (by decide +kernel)]; exact lf_c22 xs
  | 23, _ => rw [h2 23 (by decide +kernel)]; exact lf_c23 xs
  | 24, _ => rw [h2 24 (by decide +kernel)]; exact lf_c24 xs
  | 25, _ => rw [h2 25 (by decide +kernel)]; exact lf_c25 xs
  | 26, _ => rw [h2 26 (by decide +kernel)]; exact lf_c26 xs
  | 27, _ => rw [h2 27 (by decide +kernel)]; exact lf_c27 xs
  | 28, _ => rw [h2 28 (by decide +kernel)]; exact lf_c28 xs
  | 29, _ => rw [h2 29 (by decide +kernel)]; exact lf_c29 xs
  | 30, _ => rw [h2 30 (by decide +kernel)]; exact lf_c30 xs
  | 31, _ => rw [h2 31 (by decide +kernel)]; exact lf_c31 xs
  | n + 32, h => exact absurd h (by omega)
def lf_top : List Value := [.retAddr 100, .retAddr 100, .retAddr 100, .retAddr 100, .retAddr 100, .retAddr 100]
def lf_short (n : Nat) : Bool := lx_run sx_mt (sx_tb []) n lf_top 0 20000 60 0 26 sx_fL [.ref 1000000300, .int 0] sx_fr
theorem lf_short_all : (List.range 6).all lf_short = true := by decide +kernel
theorem lf_iv0 (ρ : Nat → Int32) : sx_iv ρ [] := fun k q h => by cases h
def lf_h0 : am_H := (0, 0, 0, fun _ => (0, 0, fun _ => .null))
/-- the law's road up to its first look at the script -/
theorem lf_ctor (ρ : Nat → Int32) : ∃ (lo : List (Nat × Value)) (st : List Value) (h : am_H), am_G am_i_L_law 0 [(0, .ref 1000000300)] [] lf_h0 (26, lo, st, h) ∧ sx_rL ρ sx_fL lo ∧ sx_rs ρ [.ref 1000000300, .int 0] st ∧ sx_hr ρ sx_fr h := by
  have hc := sx_ct_ok
  unfold sx_ct at hc
  split at hc
  · rename_i u hu
    obtain ⟨hc, c4⟩ := am_b2 hc
    obtain ⟨hc, c3⟩ := am_b2 hc
    obtain ⟨c1, c2⟩ := am_b2 hc
    have c1 := Nat.eq_of_beq_eq_true c1
    have c2 : u.2.1 = sx_fL := of_decide_eq_true c2
    have c3 : u.2.2.1 = [.ref 1000000300, .int 0] := of_decide_eq_true c3
    have hav : sx_rs ρ [.ref 1000000300] [.ref 1000000300] := sx_mk rfl trivial
    obtain ⟨⟨pc, lo, st, h⟩, g1, g2, g3, g4, g5⟩ := sy_to_ok sx_mt_ok (sx_tb_ok (lf_iv0 ρ)) (sx_al_rL (n := 8) hav) (show sx_rs ρ [] [] from trivial) (show sx_hr ρ sx_h0 lf_h0 from ⟨rfl, rfl, rfl, by decide, fun o ho => absurd ho (Nat.not_lt_zero _)⟩) hu
    dsimp only at g2 g3 g4 g5
    rw [c1] at g2
    subst g2
    rw [c2] at g3
    rw [c3] at g4
    exact ⟨lo, st, h, g1, g3, g4, sx_app_ok c4 g5⟩
  · cases hc
