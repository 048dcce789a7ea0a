/-! LOOPS TAKEN AS ONE STEP: how they are called -/
abbrev sx_Mac : Type := List Value → sx_H → Option sx_H
def sx_clean (c : sx_C) : Bool := Nat.beq c.1 20 && c.2.2.1.isNone && c.2.2.2.isEmpty
def mac_az : sx_Mac := fun av F => match av with
  | [.ref b, .int nn] => match sx_vl (sx_cl F b) 0, sx_vl (sx_cl F b) 1 with
    | .ref a, .int sz => bif (Nat.blt b F.1 && Nat.blt a F.1 && !(Nat.beq a b) && Nat.beq (sx_cl F b).1 1) && (sx_clean (sx_cl F a) && !decide (nn < 0) && !decide (sz < 0) && Nat.ble (sz.toNatClampNeg + nn.toNatClampNeg) (sx_cl F a).2.1 && Nat.blt (sx_cl F a).2.1 2147483648) then some (sx_put F b (sx_up (sx_cl F b) 1 (.int (nI (sz.toNatClampNeg + nn.toNatClampNeg))))) else none
    | _, _ => none
  | _ => none
def mac_pz : sx_Mac := fun av F => match av with
  | [.ref m, .int t] => match sx_vl (sx_cl F m) 3, sx_vl (sx_cl F m) 4 with
    | .ref a, .int sz => bif (Nat.blt m F.1 && Nat.blt a F.1 && !(Nat.beq a m) && Nat.beq (sx_cl F m).1 11) && (sx_clean (sx_cl F a) && !decide (t < 0) && !decide (sz < 0) && Nat.ble sz.toNatClampNeg t.toNatClampNeg && Nat.ble t.toNatClampNeg (sx_cl F a).2.1 && Nat.blt (sx_cl F a).2.1 2147483648) then some (sx_put F m (sx_up (sx_cl F m) 4 (.int (nI t.toNatClampNeg)))) else none
    | _, _ => none
  | _ => none
def sx_smear (c : sx_C) : sx_C := (c.1, c.2.1, some (.retAddr 100), [])
def sx_allI (c : sx_C) : Bool := Nat.beq c.1 20 && (match c.2.2.1 with | some v => sx_isI v | none => true) && c.2.2.2.all (fun e => sx_isI e.2)
def mac_lc : sx_Mac := fun av F => match av with
  | [.ref m, .int bs, .int n] => match sx_vl (sx_cl F m) 27, sx_vl (sx_cl F m) 28 with
    | .ref a, .ref b => bif (Nat.blt m F.1 && Nat.blt a F.1 && Nat.blt b F.1 && Nat.beq (sx_cl F m).1 11 && Nat.beq (sx_cl F a).1 20 && sx_allI (sx_cl F b)) && (!(Nat.beq b m) && !decide (bs < 0) && !decide (n < 0) && Nat.ble (bs.toNatClampNeg + n.toNatClampNeg) (sx_cl F a).2.1 && Nat.ble (bs.toNatClampNeg + n.toNatClampNeg) (sx_cl F b).2.1 && Nat.blt (sx_cl F a).2.1 2147483648 && Nat.blt (sx_cl F b).2.1 2147483648) then some (sx_put F b (sx_smear (sx_cl F b))) else none
    | _, _ => none
  | _ => none
def mac_tab (mi : Nat) : Option sx_Mac := bif Nat.beq mi am_i_X2_addZeros then some mac_az else bif Nat.beq mi am_i_X12_putZeros then some mac_pz else bif Nat.beq mi am_i_X12_layCodes then some mac_lc else none
section MAE
variable {ρ : Nat → Int32} {F F' : sx_H} {h : am_H} {av av' : List Value}
theorem sx_clean_ok {c : sx_C} (hc : sx_clean c = true) : c.1 = 20 ∧ ∀ i, sx_vl c i = .int 0 := by
  obtain ⟨hc, h3⟩ := am_b2 hc
  obtain ⟨h1, h2⟩ := am_b2 hc
  obtain ⟨k, len, d, o⟩ := c
  have h1 : k = 20 := Nat.eq_of_beq_eq_true h1
  subst h1
  cases d with
  | some v => cases h2
  | none =>
    cases o with
    | cons e r => cases h3
    | nil => exact ⟨rfl, fun i => rfl⟩
theorem sx_nb {b : Bool} (h : (!b) = true) : b = false := by cases b with | true => cases h | false => rfl
theorem sx_neb {a b : Nat} (h : (!(Nat.beq a b)) = true) : a ≠ b := fun e => by
  subst e
  rw [Nat.beq_refl] at h
  cases h
theorem mac_az_ok (hav : sx_rs ρ av av') (hh : sx_hr ρ F h) (hx : mac_az av F = some F') : ∃ h', am_T am_i_X2_addZeros av' h none h' ∧ sx_hr ρ F' h' := by
  unfold mac_az at hx
  split at hx
  · rename_i b nn
    split at hx
    · rename_i a sz h0 h1
      obtain ⟨hb, rfl⟩ := am_cf hx
      obtain ⟨hb1, hb2⟩ := am_b2 hb
      obtain ⟨hb1, c4⟩ := am_b2 hb1
      obtain ⟨hb1, c3⟩ := am_b2 hb1
      obtain ⟨c1, c2⟩ := am_b2 hb1
      obtain ⟨hb2, c9⟩ := am_b2 hb2
      obtain ⟨hb2, c8⟩ := am_b2 hb2
      obtain ⟨hb2, c7⟩ := am_b2 hb2
      obtain ⟨c5, c6⟩ := am_b2 hb2
      have c1 := Nat.blt_eq.mp c1
      have c2 := Nat.blt_eq.mp c2
      have c3 := sx_neb c3
      have c4 := Nat.eq_of_beq_eq_true c4
      obtain ⟨c5, c5'⟩ := sx_clean_ok c5
      obtain ⟨j, hj, rfl⟩ := nI_of (of_decide_eq_false (sx_nb c6))
      obtain ⟨k, hk, rfl⟩ := nI_of (of_decide_eq_false (sx_nb c7))
      have c8 := Nat.le_of_ble_eq_true c8
      have c9 := Nat.blt_eq.mp c9
      rw [nI_clamp hj, nI_clamp hk] at *
      obtain ⟨t1, rfl, hs2⟩ := sx_cR hav
      obtain ⟨t2, rfl, hs3⟩ := sx_cI hs2
      have e0 := sx_c0 hs3
      subst e0
      have g0 : sx_hg ρ F (sx_vu (fun o => sx_vl (sx_cl F o)) b 1 (.int (nI k))) h := sx_hg_ext (sx_hg_of hh) (fun o ho i => by
        by_cases z : o = b ∧ i = 1
        · rw [z.1, z.2, sx_vu_s, h1]
        · rw [sx_vu_n (by
            by_cases y : o = b
            · exact Or.inr (fun q => z ⟨y, q⟩)
            · exact Or.inl y)])
      obtain ⟨h', P, g⟩ := zz_az (val := fun o => sx_vl (sx_cl F o)) (n := (sx_cl F a).2.1) (m := j) (by omega) hj c1 c2 c3 c4 c5 rfl h0 c5' j 0 k h (by omega) (by omega) g0
      refine ⟨h', ?_, sx_hg_to c1 g⟩
      show am_P am_i_X2_addZeros 0 [(0, .ref b), (1, .int (nI j))] [] h none h'
      exact am_P.many (u := (2, [(2, .int (nI 0)), (0, .ref b), (1, .int (nI j))], [], h)) 2 rfl P
    · cases hx
  · cases hx
theorem mac_pz_ok (hav : sx_rs ρ av av') (hh : sx_hr ρ F h) (hx : mac_pz av F = some F') : ∃ h', am_T am_i_X12_putZeros av' h none h' ∧ sx_hr ρ F' h' := by
  unfold mac_pz at hx
  split at hx
  · rename_i b nn
    split at hx
    · rename_i a sz h0 h1
      obtain ⟨hb, rfl⟩ := am_cf hx
      obtain ⟨hb1, hb2⟩ := am_b2 hb
      obtain ⟨hb1, c4⟩ := am_b2 hb1
      obtain ⟨hb1, c3⟩ := am_b2 hb1
      obtain ⟨c1, c2⟩ := am_b2 hb1
      obtain ⟨hb2, c9⟩ := am_b2 hb2
      obtain ⟨hb2, c8⟩ := am_b2 hb2
      obtain ⟨hb2, c7b⟩ := am_b2 hb2
      obtain ⟨hb2, c7⟩ := am_b2 hb2
      obtain ⟨c5, c6⟩ := am_b2 hb2
      have c1 := Nat.blt_eq.mp c1
      have c2 := Nat.blt_eq.mp c2
      have c3 := sx_neb c3
      have c4 := Nat.eq_of_beq_eq_true c4
      obtain ⟨c5, c5'⟩ := sx_clean_ok c5
      obtain ⟨j, hj, rfl⟩ := nI_of (of_decide_eq_false (sx_nb c6))
      obtain ⟨k, hk, rfl⟩ := nI_of (of_decide_eq_false (sx_nb c7))
      have c7b := Nat.le_of_ble_eq_true c7b
      have c8 := Nat.le_of_ble_eq_true c8
      have c9 := Nat.blt_eq.mp c9
      rw [nI_clamp hj] at *
      rw [nI_clamp hk] at c7b
      obtain ⟨t1, rfl, hs2⟩ := sx_cR hav
      obtain ⟨t2, rfl, hs3⟩ := sx_cI hs2
      have e0 := sx_c0 hs3
      subst e0
      have g0 : sx_hg ρ F (sx_vu (fun o => sx_vl (sx_cl F o)) b 4 (.int (nI k))) h := sx_hg_ext (sx_hg_of hh) (fun o ho i => by
        by_cases z : o = b ∧ i = 4
        · rw [z.1, z.2, sx_vu_s, h1]
        · rw [sx_vu_n (by
            by_cases y : o = b
            · exact Or.inr (fun q => z ⟨y, q⟩)
            · exact Or.inl y)])
      obtain ⟨h', P, g⟩ := zz_pz (val := fun o => sx_vl (sx_cl F o)) (n := (sx_cl F a).2.1) (t := j) (by omega) c8 c1 c2 c3 c4 c5 rfl h0 c5' (j - k) k h (by omega) g0
      exact ⟨h', P, sx_hg_to c1 g⟩
    · cases hx
  · cases hx
theorem sx_allI_ok {c : sx_C} (hc : sx_allI c = true) : c.1 = 20 ∧ ∀ i, sx_isI (sx_vl c i) = true := by
  obtain ⟨hc, h3⟩ := am_b2 hc
  obtain ⟨h1, h2⟩ := am_b2 hc
  have h1 := Nat.eq_of_beq_eq_true h1
  refine ⟨h1, fun i => ?_⟩
  unfold sx_vl
  split
  · rename_i v hv
    exact List.all_eq_true.mp h3 _ (am_fnd_mem hv)
  · split
    · rename_i v hv
      rw [hv] at h2
      exact h2
    · rw [h1]
      rfl
theorem sx_smear_ok {b : Nat} (hb : b < F.1) (hi : sx_allI (sx_cl F b) = true) (hh : sx_hr ρ F h) : sx_hr ρ (sx_put F b (sx_smear (sx_cl F b))) h := by
  obtain ⟨h1, h2, h3, h4, h5⟩ := hh
  refine ⟨h1, h2, h3, h4, fun q hq => ?_⟩
  have hq : q < F.1 := hq
  obtain ⟨k1, k2, k3⟩ := h5 q hq
  by_cases e : q = b
  · subst e
    have e1 : sx_cl (sx_put F q (sx_smear (sx_cl F q))) q = sx_smear (sx_cl F q) := sx_ts_s 9 _ _ _
    rw [e1]
    refine ⟨k1, k2, fun i => ?_⟩
    obtain ⟨x, hx⟩ := sx_isI_ok ((sx_allI_ok hi).2 i) (k3 i)
    rw [hx]
    exact sx_top
  · have e1 : sx_cl (sx_put F b (sx_smear (sx_cl F b))) q = sx_cl F q := sx_ts_n 9 _ _ _ _ e (by omega) (by omega)
    rw [e1]
    exact ⟨k1, k2, k3⟩
set_option maxRecDepth 100000 in
theorem mac_lc_ok (hav : sx_rs ρ av av') (hh : sx_hr ρ F h) (hx : mac_lc av F = some F') : ∃ h', am_T am_i_X12_layCodes av' h none h' ∧ sx_hr ρ F' h' := by
  unfold mac_lc at hx
  split at hx
  · rename_i m bs nn
    split at hx
    · rename_i a b h0 h1
      obtain ⟨hb, rfl⟩ := am_cf hx
      obtain ⟨hb1, hb2⟩ := am_b2 hb
      obtain ⟨hb1, c6⟩ := am_b2 hb1
      obtain ⟨hb1, c5⟩ := am_b2 hb1
      obtain ⟨hb1, c4⟩ := am_b2 hb1
      obtain ⟨hb1, c3⟩ := am_b2 hb1
      obtain ⟨c1, c2⟩ := am_b2 hb1
      obtain ⟨hb2, d7⟩ := am_b2 hb2
      obtain ⟨hb2, d6⟩ := am_b2 hb2
      obtain ⟨hb2, d5⟩ := am_b2 hb2
      obtain ⟨hb2, d4⟩ := am_b2 hb2
      obtain ⟨hb2, d3⟩ := am_b2 hb2
      obtain ⟨d1, d2⟩ := am_b2 hb2
      have c1 := Nat.blt_eq.mp c1
      have c2 := Nat.blt_eq.mp c2
      have c3 := Nat.blt_eq.mp c3
      have c4 := Nat.eq_of_beq_eq_true c4
      have c5 := Nat.eq_of_beq_eq_true c5
      have d1 := sx_neb d1
      obtain ⟨j, hj, rfl⟩ := nI_of (of_decide_eq_false (sx_nb d2))
      obtain ⟨k, hk, rfl⟩ := nI_of (of_decide_eq_false (sx_nb d3))
      rw [nI_clamp hj, nI_clamp hk] at d4 d5
      have d4 := Nat.le_of_ble_eq_true d4
      have d5 := Nat.le_of_ble_eq_true d5
      have d6 := Nat.blt_eq.mp d6
      have d7 := Nat.blt_eq.mp d7
      obtain ⟨t1, rfl, hs2⟩ := sx_cR hav
      obtain ⟨t2, rfl, hs3⟩ := sx_cI hs2
      obtain ⟨t3, rfl, hs4⟩ := sx_cI hs3
      have e0 := sx_c0 hs4
      subst e0
      have h4 := hh.2.2.2.1
      have g := sx_smear_ok c3 c6 hh
      have en : ∀ q, q < F.1 → q ≠ b → sx_cl (sx_put F b (sx_smear (sx_cl F b))) q = sx_cl F q := fun q hq hqb => sx_ts_n 9 _ _ _ _ hqb (by omega) (by omega)
      have es : sx_cl (sx_put F b (sx_smear (sx_cl F b))) b = sx_smear (sx_cl F b) := sx_ts_s 9 _ _ _
      have ea : (sx_cl (sx_put F b (sx_smear (sx_cl F b))) a).1 = 20 ∧ (sx_cl (sx_put F b (sx_smear (sx_cl F b))) a).2.1 = (sx_cl F a).2.1 := by
        by_cases z : a = b
        · subst z
          rw [es]
          exact ⟨c5, rfl⟩
        · rw [en a c2 z]
          exact ⟨c5, rfl⟩
      obtain ⟨h', P, g2⟩ := zz_lc (F := sx_put F b (sx_smear (sx_cl F b))) (val := fun o => sx_vl (sx_cl (sx_put F b (sx_smear (sx_cl F b))) o)) (m := m) (a := a) (b := b) (base := j) (n := k) c1 c2 c3 (by rw [en m c1 (Ne.symm d1)]; exact c4) ea.1 (by rw [es]; exact (sx_allI_ok c6).1) (by rw [ea.2]; exact d4) (by rw [es]; exact d5) (by rw [ea.2]; omega) (by rw [es]; show (sx_cl F b).2.1 < _; omega) (by show sx_vl (sx_cl _ m) 27 = _; rw [en m c1 (Ne.symm d1)]; exact h0) (by show sx_vl (sx_cl _ m) 28 = _; rw [en m c1 (Ne.symm d1)]; exact h1) (fun i => by show sx_vl (sx_cl _ b) i = _; rw [es]; rfl) 14 1 rfl k j (2 * (Int32.ofInt 0)) h rfl g
      refine ⟨h', ?_, g2⟩
      show am_P am_i_X12_layCodes 0 [(0, .ref m), (1, .int (nI j)), (2, .int (nI k))] [] h none h'
      exact am_P.many (u := (19, [(5, .int (nI j)), (3, .int (2 * (Int32.ofInt 0))), (4, .int (nI 1)), (0, .ref m), (1, .int (nI j)), (2, .int (nI k))], [], h)) 13 rfl P
    · cases hx
  · cases hx
theorem mac_ok {mi : Nat} {mac : sx_Mac} (hm : mac_tab mi = some mac) (hav : sx_rs ρ av av') (hh : sx_hr ρ F h) (hx : mac av F = some F') : ∃ h', am_T mi av' h none h' ∧ sx_hr ρ F' h' := by
  unfold mac_tab at hm
  cases b1 : Nat.beq mi am_i_X2_addZeros with
  | true =>
    rw [b1] at hm
    cases hm
    rw [Nat.eq_of_beq_eq_true b1]
    exact mac_az_ok hav hh hx
  | false =>
    rw [b1] at hm
    cases b2 : Nat.beq mi am_i_X12_putZeros with
    | true =>
      rw [b2] at hm
      cases hm
      rw [Nat.eq_of_beq_eq_true b2]
      exact mac_pz_ok hav hh hx
    | false =>
      rw [b2] at hm
      cases b3 : Nat.beq mi am_i_X12_layCodes with
      | true =>
        rw [b3] at hm
        cases hm
        rw [Nat.eq_of_beq_eq_true b3]
        exact mac_lc_ok hav hh hx
      | false =>
        rw [b3] at hm
        cases hm
end MAE
