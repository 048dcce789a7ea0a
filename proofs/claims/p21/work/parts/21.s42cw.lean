/-! THE LAW'S ROAD UP TO ITS FIRST LOOK AT THE SCRIPT -/
theorem lf_iv0 (ρ : Nat → Int32) : sx_iv ρ [] := fun k q h => by cases h
noncomputable def lf_h0 : am_H := (0, 0, 0, fun _ => (0, 0, fun _ => .null))
theorem lf_aux (ρ : Nat → Int32) {r : Option (Nat × List Value × List Value × sx_H)} (hr : sx_to sx_mt (sx_tb []) am_i_L_law 100000 0 (sx_al 8 [.ref 1000000300]) [] sx_h0 = r) (hc : sx_ck r = true) : ∃ (lo : List (Nat × Value)) (st : List Value) (h : am_H), am_G am_i_L_law 0 [(0, .ref 1000000300)] [] lf_h0 (26, lo, st, h) ∧ sx_rL ρ sx_fL lo ∧ sx_rs ρ [.ref 1000000300, .int 0] st ∧ sx_hr ρ sx_fr h := by
  cases r with
  | none => cases hc
  | some u =>
    have hu := hr
    obtain ⟨hc, c4⟩ := am_b2 hc
    obtain ⟨hc, c3⟩ := am_b2 hc
    obtain ⟨c1, c2⟩ := am_b2 hc
    have c1 := Nat.eq_of_beq_eq_true c1
    have c2 : u.2.1 = sx_fL := of_decide_eq_true c2
    have c3 : u.2.2.1 = [.ref 1000000300, .int 0] := of_decide_eq_true c3
    have hav : sx_rs ρ [.ref 1000000300] [.ref 1000000300] := sx_mk rfl trivial
    obtain ⟨⟨pc, lo, st, h⟩, g1, g2, g3, g4, g5⟩ := sx_to_ok sx_mt_ok (sx_tb_ok (lf_iv0 ρ)) (sx_al_rL (n := 8) hav) (show sx_rs ρ [] [] from trivial) (show sx_hr ρ sx_h0 lf_h0 from ⟨rfl, rfl, rfl, by decide, fun o ho => absurd ho (Nat.not_lt_zero _)⟩) hu
    dsimp only at g2 g3 g4 g5
    rw [c1] at g2
    subst g2
    rw [c2] at g3
    rw [c3] at g4
    exact ⟨lo, st, h, g1, g3, g4, sx_app_ok c4 g5⟩
/-- the law's road up to its first look at the script -/
theorem lf_ctor (ρ : Nat → Int32) : ∃ (lo : List (Nat × Value)) (st : List Value) (h : am_H), am_G am_i_L_law 0 [(0, .ref 1000000300)] [] lf_h0 (26, lo, st, h) ∧ sx_rL ρ sx_fL lo ∧ sx_rs ρ [.ref 1000000300, .int 0] st ∧ sx_hr ρ sx_fr h := lf_aux ρ (r := sx_to sx_mt (sx_tb []) am_i_L_law 100000 0 (sx_al 8 [.ref 1000000300]) [] sx_h0) rfl sx_ct_ok
