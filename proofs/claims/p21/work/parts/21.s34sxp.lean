/-! OPERATIONS OVER OPEN VALUES: the heap's, and the rest -/
theorem sx_fit {ρ : Nat → Int32} {ty : FieldType} {v w : Value} (h : am_fit ty v = true) (hr : sx_rel ρ v w) : w = v := by
  unfold am_fit at h
  split at h <;> first | exact hr | cases h
section SXP
variable {ρ : Nat → Int32} {mi pc n : Nat} {M : am_M} {i : Instr}
noncomputable def sx_gf (l : List (Nat × Nat)) (nx : Nat) : sx_Op := fun L st f => match st with
  | .ref o :: r => bif Nat.blt o f.1 then (match am_fnd l (sx_cl f o).1 with
    | some sl => some (nx, L, sx_vl (sx_cl f o) sl :: r, f)
    | none => none) else none
  | _ => none
noncomputable def sx_gfl (own idx : Nat) (e : Nat × Nat) : Bool := match am_find (am_ft own) idx e.1 with
  | some u => Nat.beq u.1 e.2
  | none => false
theorem sx_o_gf {l : List (Nat × Nat)} {idx : Nat} (hM : am_tab[mi]? = some M) (hc : M.1.2.2.2.2.2 pc = some (.getfield idx, n)) (hl : l.all (sx_gfl M.1.1 idx) = true) : sx_ok ρ mi pc (sx_gf l (pc + 3)) := by
  intro L st f lo st' h u hL hst hh hu
  unfold sx_gf at hu
  split at hu
  · rename_i o r
    obtain ⟨ho, hu⟩ := am_cg hu
    have ho := Nat.blt_eq.mp ho
    split at hu
    · rename_i sl hs
      cases hu
      obtain ⟨t1, rfl, hs2⟩ := sx_cR hst
      have h1 := List.all_eq_true.mp hl _ (am_fnd_mem hs)
      unfold sx_gfl at h1
      split at h1
      · rename_i q hq
        have h1 : q.1 = sl := Nat.eq_of_beq_eq_true h1
        obtain ⟨k1, k2, k3⟩ := hh.2.2.2.2 o ho
        have hk : (h.2.2.2 o).1 = (sx_cl f o).1 := k1
        refine ⟨_, sx_one1 (u := (pc + 3, (h.2.2.2 o).2.2 sl :: t1, h)) hM hc rfl rfl rfl ?_, rfl, hL, sx_mk (k3 sl) hs2, hh⟩
        have hq : am_find (am_ft M.1.1) idx (sx_cl f o).1 = some q := hq
        simp only [am_s1, am_bt (show o < h.1 by rw [hh.1]; exact ho), cond_true, hk, hq, h1]
      · cases h1
    · cases hu
  · cases hu
noncomputable def sx_pf (l : List (Nat × Nat)) (nx : Nat) : sx_Op := fun L st f => match st with
  | v :: .ref o :: r => bif Nat.blt o f.1 then (match am_fnd l (sx_cl f o).1 with
    | some sl => bif am_fit (am_ty0 (sx_cl f o).1 sl) v then some (nx, L, r, sx_put f o (sx_up (sx_cl f o) sl v)) else none
    | none => none) else none
  | _ => none
noncomputable def sx_pfl (own idx : Nat) (ini : Bool) (e : Nat × Nat) : Bool := match am_find (am_ft own) idx e.1 with
  | some u => Nat.beq u.1 e.2 && (Nat.beq u.2.2 0 || (Nat.beq u.2.2 1 && ini))
  | none => false
theorem sx_o_pf {l : List (Nat × Nat)} {idx : Nat} (hM : am_tab[mi]? = some M) (hc : M.1.2.2.2.2.2 pc = some (.putfield idx, n)) (hl : l.all (sx_pfl M.1.1 idx M.1.2.2.1) = true) : sx_ok ρ mi pc (sx_pf l (pc + 3)) := by
  intro L st f lo st' h u hL hst hh hu
  unfold sx_pf at hu
  split at hu
  · rename_i v o r
    obtain ⟨ho, hu⟩ := am_cg hu
    have ho := Nat.blt_eq.mp ho
    split at hu
    · rename_i sl hs
      obtain ⟨hfit, rfl⟩ := am_cf hu
      obtain ⟨w, t1, rfl, hr1, hs2⟩ := sx_cV hst
      obtain ⟨t2, rfl, hs3⟩ := sx_cR hs2
      have e := sx_fit hfit hr1
      subst e
      have h1 := List.all_eq_true.mp hl _ (am_fnd_mem hs)
      unfold sx_pfl at h1
      split at h1
      · rename_i q hq
        obtain ⟨h1, h2⟩ := am_b2 h1
        have h1 : q.1 = sl := Nat.eq_of_beq_eq_true h1
        subst h1
        obtain ⟨k1, k2, k3⟩ := hh.2.2.2.2 o ho
        have hk : (h.2.2.2 o).1 = (sx_cl f o).1 := k1
        have hq : am_find (am_ft M.1.1) idx (sx_cl f o).1 = some q := hq
        refine ⟨_, sx_one1 (u := (pc + 3, t2, am_put h o ((h.2.2.2 o).1, (h.2.2.2 o).2.1, am_up (h.2.2.2 o).2.2 q.1 w))) hM hc rfl rfl rfl ?_, rfl, hL, hs3, sx_hr_up hh ho rfl rfl hr1⟩
        simp only [am_s1, am_bt (show o < h.1 by rw [hh.1]; exact ho), cond_true, hk, hq, h2, hfit, Bool.and_self]
      · cases h1
    · cases hu
  · cases hu
/-- an element of a row of ints -/
noncomputable def sx_iald (nx : Nat) : sx_Op := fun L st f => match st with
  | .int j :: .ref o :: r => bif Nat.blt o f.1 then (bif Nat.beq (sx_cl f o).1 20 && am_in j (sx_cl f o).2.1 then (bif sx_isI (sx_vl (sx_cl f o) j.toNatClampNeg) then some (nx, L, sx_vl (sx_cl f o) j.toNatClampNeg :: r, f) else none) else none)
    else (match am_fnd am_oal o with
      | some a => bif am_in j a.length then some (nx, L, .int (a.getD j.toNatClampNeg 0) :: r, f) else none
      | none => none)
  | _ => none
theorem sx_bf {a b : Nat} (h : Nat.blt a b = false) : ¬ a < b := fun q => by rw [Nat.blt_eq.mpr q] at h; cases h
theorem sx_o_iald (hM : am_tab[mi]? = some M) (hc : M.1.2.2.2.2.2 pc = some (.iaload, n)) : sx_ok ρ mi pc (sx_iald (pc + 1)) := by
  intro L st f lo st' h u hL hst hh hu
  unfold sx_iald at hu
  split at hu
  · rename_i j o r
    obtain ⟨t1, rfl, hs2⟩ := sx_cI hst
    obtain ⟨t2, rfl, hs3⟩ := sx_cR hs2
    cases hb : Nat.blt o f.1 with
    | true =>
      rw [hb] at hu
      have ho := Nat.blt_eq.mp hb
      obtain ⟨hk, hu⟩ := am_cg (show (bif _ then _ else none) = some u from hu)
      obtain ⟨hi, rfl⟩ := am_cf hu
      obtain ⟨k1, k2, k3⟩ := hh.2.2.2.2 o ho
      have hr := k3 j.toNatClampNeg
      obtain ⟨x, hx⟩ := sx_isI_ok hi hr
      rw [hx] at hr
      refine ⟨_, sx_one1 (u := (pc + 1, .int x :: t2, h)) hM hc rfl rfl rfl ?_, rfl, hL, sx_mk hr hs3, hh⟩
      rw [← k1, ← k2] at hk
      simp only [am_s1, am_bt (show o < h.1 by rw [hh.1]; exact ho), cond_true, hk, hx, am_i]
    | false =>
      rw [hb] at hu
      have hu : (match am_fnd am_oal o with | some a => bif am_in j a.length then some (pc + 1, L, Value.int (a.getD j.toNatClampNeg 0) :: r, f) else none | none => none) = some u := hu
      split at hu
      · rename_i a ha
        obtain ⟨hi, rfl⟩ := am_cf hu
        refine ⟨_, sx_one2 (u := (pc + 1, .int (a.getD j.toNatClampNeg 0) :: t2)) hM hc rfl rfl rfl ?_ ?_, rfl, hL, sx_mk rfl hs3, hh⟩
        · have hb2 : Nat.blt o h.1 = false := by rw [hh.1]; exact hb
          simp only [am_s1, hb2, cond_false]
        · simp only [am_s2, ha, hi, cond_true]
      · cases hu
  · cases hu
noncomputable def sx_iast (nx : Nat) : sx_Op := fun L st f => match st with
  | v :: .int j :: .ref o :: r => bif Nat.blt o f.1 && Nat.beq (sx_cl f o).1 20 && am_in j (sx_cl f o).2.1 && sx_isI v then some (nx, L, r, sx_put f o (sx_up (sx_cl f o) j.toNatClampNeg v)) else none
  | _ => none
theorem sx_o_iast (hM : am_tab[mi]? = some M) (hc : M.1.2.2.2.2.2 pc = some (.iastore, n)) : sx_ok ρ mi pc (sx_iast (pc + 1)) := by
  intro L st f lo st' h u hL hst hh hu
  unfold sx_iast at hu
  split at hu
  · rename_i v j o r
    obtain ⟨hb, rfl⟩ := am_cf hu
    obtain ⟨hb, hv⟩ := am_b2 hb
    obtain ⟨w, t0, rfl, hr1, hs1⟩ := sx_cV hst
    obtain ⟨t1, rfl, hs2⟩ := sx_cI hs1
    obtain ⟨t2, rfl, hs3⟩ := sx_cR hs2
    obtain ⟨x, rfl⟩ := sx_isI_ok hv hr1
    have ho := Nat.blt_eq.mp (am_b2 (am_b2 hb).1).1
    obtain ⟨k1, k2, k3⟩ := hh.2.2.2.2 o ho
    refine ⟨_, sx_one1 (u := (pc + 1, t2, am_put h o ((h.2.2.2 o).1, (h.2.2.2 o).2.1, am_up (h.2.2.2 o).2.2 j.toNatClampNeg (.int x)))) hM hc rfl rfl rfl ?_, rfl, hL, hs3, sx_hr_up hh ho rfl rfl hr1⟩
    rw [← k1, ← k2, ← hh.1] at hb
    simp only [am_s1, hb, cond_true]
  · cases hu
noncomputable def sx_lald (nx : Nat) : sx_Op := fun L st f => match st with
  | .int j :: .ref o :: r => bif Nat.blt o f.1 && Nat.beq (sx_cl f o).1 21 && am_in j (sx_cl f o).2.1 && sx_isL (sx_vl (sx_cl f o) j.toNatClampNeg) then some (nx, L, sx_vl (sx_cl f o) j.toNatClampNeg :: r, f) else none
  | _ => none
theorem sx_o_lald (hM : am_tab[mi]? = some M) (hc : M.1.2.2.2.2.2 pc = some (.laload, n)) : sx_ok ρ mi pc (sx_lald (pc + 1)) := by
  intro L st f lo st' h u hL hst hh hu
  unfold sx_lald at hu
  split at hu
  · rename_i j o r
    obtain ⟨hb, rfl⟩ := am_cf hu
    obtain ⟨hb, hv⟩ := am_b2 hb
    obtain ⟨t1, rfl, hs2⟩ := sx_cI hst
    obtain ⟨t2, rfl, hs3⟩ := sx_cR hs2
    have ho := Nat.blt_eq.mp (am_b2 (am_b2 hb).1).1
    obtain ⟨k1, k2, k3⟩ := hh.2.2.2.2 o ho
    have hr := k3 j.toNatClampNeg
    obtain ⟨x, hx⟩ := sx_isL_ok hv hr
    rw [hx] at hr
    refine ⟨_, sx_one1 (u := (pc + 1, .long x :: t2, h)) hM hc rfl rfl rfl ?_, rfl, hL, sx_mk hr hs3, hh⟩
    rw [← k1, ← k2, ← hh.1] at hb
    simp only [am_s1, hb, cond_true, hx, am_l]
  · cases hu
noncomputable def sx_last (nx : Nat) : sx_Op := fun L st f => match st with
  | v :: .int j :: .ref o :: r => bif Nat.blt o f.1 && Nat.beq (sx_cl f o).1 21 && am_in j (sx_cl f o).2.1 && sx_isL v then some (nx, L, r, sx_put f o (sx_up (sx_cl f o) j.toNatClampNeg v)) else none
  | _ => none
theorem sx_o_last (hM : am_tab[mi]? = some M) (hc : M.1.2.2.2.2.2 pc = some (.lastore, n)) : sx_ok ρ mi pc (sx_last (pc + 1)) := by
  intro L st f lo st' h u hL hst hh hu
  unfold sx_last at hu
  split at hu
  · rename_i v j o r
    obtain ⟨hb, rfl⟩ := am_cf hu
    obtain ⟨hb, hv⟩ := am_b2 hb
    obtain ⟨w, t0, rfl, hr1, hs1⟩ := sx_cV hst
    obtain ⟨t1, rfl, hs2⟩ := sx_cI hs1
    obtain ⟨t2, rfl, hs3⟩ := sx_cR hs2
    obtain ⟨x, rfl⟩ := sx_isL_ok hv hr1
    have ho := Nat.blt_eq.mp (am_b2 (am_b2 hb).1).1
    obtain ⟨k1, k2, k3⟩ := hh.2.2.2.2 o ho
    refine ⟨_, sx_one1 (u := (pc + 1, t2, am_put h o ((h.2.2.2 o).1, (h.2.2.2 o).2.1, am_up (h.2.2.2 o).2.2 j.toNatClampNeg (.long x)))) hM hc rfl rfl rfl ?_, rfl, hL, hs3, sx_hr_up hh ho rfl rfl hr1⟩
    rw [← k1, ← k2, ← hh.1] at hb
    simp only [am_s1, hb, cond_true]
  · cases hu
noncomputable def sx_aald (nx : Nat) : sx_Op := fun L st f => match st with
  | .int j :: .ref o :: r => bif Nat.blt o f.1 && (Nat.beq (sx_cl f o).1 23 || Nat.beq (sx_cl f o).1 24) && am_in j (sx_cl f o).2.1 && sx_isA (sx_vl (sx_cl f o) j.toNatClampNeg) then some (nx, L, sx_vl (sx_cl f o) j.toNatClampNeg :: r, f) else none
  | _ => none
theorem sx_rv {v : Value} (h : sx_isA v = true) : am_rv v = v := by cases v <;> first | rfl | cases h
theorem sx_o_aald (hM : am_tab[mi]? = some M) (hc : M.1.2.2.2.2.2 pc = some (.aaload, n)) : sx_ok ρ mi pc (sx_aald (pc + 1)) := by
  intro L st f lo st' h u hL hst hh hu
  unfold sx_aald at hu
  split at hu
  · rename_i j o r
    obtain ⟨hb, rfl⟩ := am_cf hu
    obtain ⟨hb, hv⟩ := am_b2 hb
    obtain ⟨t1, rfl, hs2⟩ := sx_cI hst
    obtain ⟨t2, rfl, hs3⟩ := sx_cR hs2
    have ho := Nat.blt_eq.mp (am_b2 (am_b2 hb).1).1
    obtain ⟨k1, k2, k3⟩ := hh.2.2.2.2 o ho
    have hr := k3 j.toNatClampNeg
    have hx := sx_isA_ok hv hr
    refine ⟨_, sx_one1 (u := (pc + 1, sx_vl (sx_cl f o) j.toNatClampNeg :: t2, h)) hM hc rfl rfl rfl ?_, rfl, hL, sx_mk (by rw [hx] at hr; exact hr) hs3, hh⟩
    rw [← k1, ← k2, ← hh.1] at hb
    simp only [am_s1, hb, cond_true, hx, sx_rv hv]
  · cases hu
noncomputable def sx_aast (nx : Nat) : sx_Op := fun L st f => match st with
  | .ref q :: .int j :: .ref o :: r => bif Nat.blt o f.1 && Nat.blt q f.1 && am_in j (sx_cl f o).2.1 && ((Nat.beq (sx_cl f o).1 24 && Nat.beq (sx_cl f q).1 6) || (Nat.beq (sx_cl f o).1 23 && (Nat.beq (sx_cl f q).1 0 || Nat.beq (sx_cl f q).1 3 || Nat.beq (sx_cl f q).1 4))) then some (nx, L, r, sx_put f o (sx_up (sx_cl f o) j.toNatClampNeg (.ref q))) else none
  | _ => none
theorem sx_o_aast (hM : am_tab[mi]? = some M) (hc : M.1.2.2.2.2.2 pc = some (.aastore, n)) : sx_ok ρ mi pc (sx_aast (pc + 1)) := by
  intro L st f lo st' h u hL hst hh hu
  unfold sx_aast at hu
  split at hu
  · rename_i q j o r
    obtain ⟨hb, rfl⟩ := am_cf hu
    obtain ⟨t0, rfl, hs1⟩ := sx_cR hst
    obtain ⟨t1, rfl, hs2⟩ := sx_cI hs1
    obtain ⟨t2, rfl, hs3⟩ := sx_cR hs2
    have ho := Nat.blt_eq.mp (am_b2 (am_b2 (am_b2 hb).1).1).1
    have hq := Nat.blt_eq.mp (am_b2 (am_b2 (am_b2 hb).1).1).2
    obtain ⟨k1, k2, k3⟩ := hh.2.2.2.2 o ho
    obtain ⟨g1, -, -⟩ := hh.2.2.2.2 q hq
    refine ⟨_, sx_one1 (u := (pc + 1, t2, am_put h o ((h.2.2.2 o).1, (h.2.2.2 o).2.1, am_up (h.2.2.2 o).2.2 j.toNatClampNeg (.ref q)))) hM hc rfl rfl rfl ?_, rfl, hL, hs3, sx_hr_up (v := .ref q) hh ho rfl rfl (show Value.ref q = Value.ref q from rfl)⟩
    rw [← k1, ← k2, ← g1, ← hh.1] at hb
    simp only [am_s1, hb, cond_true]
  · cases hu
noncomputable def sx_alen (nx : Nat) : sx_Op := fun L st f => match st with
  | .ref o :: r => bif Nat.blt o f.1 then (bif am_isA (sx_cl f o).1 then some (nx, L, .int (Int32.ofNat (sx_cl f o).2.1) :: r, f) else none)
    else (match am_fnd am_oal o with
      | some a => some (nx, L, .int (Int32.ofNat a.length) :: r, f)
      | none => none)
  | _ => none
theorem sx_o_alen (hM : am_tab[mi]? = some M) (hc : M.1.2.2.2.2.2 pc = some (.arraylength, n)) : sx_ok ρ mi pc (sx_alen (pc + 1)) := by
  intro L st f lo st' h u hL hst hh hu
  unfold sx_alen at hu
  split at hu
  · rename_i o r
    obtain ⟨t2, rfl, hs3⟩ := sx_cR hst
    cases hb : Nat.blt o f.1 with
    | true =>
      rw [hb] at hu
      have ho := Nat.blt_eq.mp hb
      obtain ⟨hk, rfl⟩ := am_cf (show (bif _ then _ else none) = some u from hu)
      obtain ⟨k1, k2, k3⟩ := hh.2.2.2.2 o ho
      refine ⟨_, sx_one1 (u := (pc + 1, .int (Int32.ofNat (sx_cl f o).2.1) :: t2, h)) hM hc rfl rfl rfl ?_, rfl, hL, sx_mk rfl hs3, hh⟩
      rw [← k1] at hk
      simp only [am_s1, am_bt (show o < h.1 by rw [hh.1]; exact ho), cond_true, hk, k2, Bool.and_self]
    | false =>
      rw [hb] at hu
      have hu : (match am_fnd am_oal o with | some a => some (pc + 1, L, Value.int (Int32.ofNat a.length) :: r, f) | none => none) = some u := hu
      split at hu
      · rename_i a ha
        cases hu
        refine ⟨_, sx_one2 (u := (pc + 1, .int (Int32.ofNat a.length) :: t2)) hM hc rfl rfl rfl ?_ ?_, rfl, hL, sx_mk rfl hs3, hh⟩
        · have hb2 : Nat.blt o h.1 = false := by rw [hh.1]; exact hb
          simp only [am_s1, hb2, Bool.false_and, cond_false]
        · simp only [am_s2, ha]
      · cases hu
  · cases hu
noncomputable def sx_nw (ci nx : Nat) : sx_Op := fun L st f => bif Nat.blt f.1 512 then some (nx, L, .ref f.1 :: st, sx_new f (am_nf ci) (ci, 0, none, [])) else none
theorem sx_ty (ci j : Nat) : sx_nf (defaultValue (am_ty0 ci j)) = true := by
  unfold am_ty0
  split <;> first | rfl | (unfold tyX1; split <;> rfl) | (unfold tyX2; split <;> rfl) | (unfold tyX3; split <;> rfl) | (unfold tyX4; split <;> rfl) | (unfold tyX5; split <;> rfl) | (unfold tyX6; split <;> rfl) | (unfold tyX7; split <;> rfl) | (unfold tyX8; split <;> rfl) | (unfold tyX9; split <;> rfl) | (unfold tyX10; split <;> rfl) | (unfold tyX11; split <;> rfl) | (unfold tyX12; split <;> rfl)
theorem sx_o_nw {idx ci : Nat} (hM : am_tab[mi]? = some M) (hc : M.1.2.2.2.2.2 pc = some (.new idx, n)) (hf : am_fnd (am_nt M.1.1) idx = some ci) (hci : Nat.blt ci 12 = true) : sx_ok ρ mi pc (sx_nw ci (pc + 3)) := by
  intro L st f lo st' h u hL hst hh hu
  obtain ⟨hb, rfl⟩ := am_cf (show (bif Nat.blt f.1 512 then _ else none) = some u from hu)
  have h5 := Nat.blt_eq.mp hb
  refine ⟨_, sx_one1 (u := (pc + 3, .ref h.1 :: st', am_new h (am_nf ci) (ci, 0, fun j => defaultValue (am_ty0 ci j)))) hM hc rfl rfl rfl ?_, rfl, hL, sx_mk (by rw [hh.1]; exact (rfl : Value.ref f.1 = Value.ref f.1)) hst, sx_hr_new hh hb (fun j => ?_)⟩
  · simp only [am_s1, hf, am_bt (show h.1 < 1000000000 by rw [hh.1]; omega), cond_true]
  · unfold sx_df
    rw [hci]
    exact sx_nf_ok (sx_ty ci j)
noncomputable def sx_na (kd nx : Nat) : sx_Op := fun L st f => match st with
  | .int k :: r => bif Nat.blt f.1 512 && (!decide (k < 0) && Nat.ble (k.toNatClampNeg * 8) 536870912) then some (nx, L, .ref f.1 :: r, sx_new f k.toNatClampNeg (kd, k.toNatClampNeg, none, [])) else none
  | _ => none
theorem sx_o_na {ty : ArrayType} {u0 : Nat × Nat × Value} (hM : am_tab[mi]? = some M) (hc : M.1.2.2.2.2.2 pc = some (.newarray ty, n)) (hf : am_at ty = some u0) (hd : ∀ j, sx_df u0.2.1 j = u0.2.2) (hn : sx_nf u0.2.2 = true) : sx_ok ρ mi pc (sx_na u0.2.1 (pc + 2)) := by
  intro L st f lo st' h u hL hst hh hu
  unfold sx_na at hu
  split at hu
  · rename_i k r
    obtain ⟨hb, rfl⟩ := am_cf hu
    obtain ⟨b1, b2⟩ := am_b2 hb
    have h5 := Nat.blt_eq.mp b1
    obtain ⟨t2, rfl, hs3⟩ := sx_cI hst
    refine ⟨_, sx_one1 (u := (pc + 2, .ref h.1 :: t2, am_new h k.toNatClampNeg (u0.2.1, k.toNatClampNeg, fun _ => u0.2.2))) hM hc rfl rfl rfl ?_, rfl, hL, sx_mk (by rw [hh.1]; exact (rfl : Value.ref f.1 = Value.ref f.1)) hs3, sx_hr_new hh b1 (fun j => ?_)⟩
    · simp only [am_s1, hf, am_bt (show h.1 < 1000000000 by rw [hh.1]; omega), Bool.true_and, b2, cond_true]
    · rw [hd]
      exact sx_nf_ok hn
  · cases hu
noncomputable def sx_ana (kd nx : Nat) : sx_Op := fun L st f => match st with
  | .int k :: r => bif Nat.blt f.1 512 && (!decide (k < 0) && Nat.ble (k.toNatClampNeg * 4) 536870912) then some (nx, L, .ref f.1 :: r, sx_new f k.toNatClampNeg (kd, k.toNatClampNeg, none, [])) else none
  | _ => none
theorem sx_o_ana {idx kd : Nat} (hM : am_tab[mi]? = some M) (hc : M.1.2.2.2.2.2 pc = some (.anewarray idx, n)) (hf : am_fnd (am_qt M.1.1) idx = some kd) (hd : ∀ j, sx_df kd j = .null) : sx_ok ρ mi pc (sx_ana kd (pc + 3)) := by
  intro L st f lo st' h u hL hst hh hu
  unfold sx_ana at hu
  split at hu
  · rename_i k r
    obtain ⟨hb, rfl⟩ := am_cf hu
    obtain ⟨b1, b2⟩ := am_b2 hb
    have h5 := Nat.blt_eq.mp b1
    obtain ⟨t2, rfl, hs3⟩ := sx_cI hst
    refine ⟨_, sx_one1 (u := (pc + 3, .ref h.1 :: t2, am_new h k.toNatClampNeg (kd, k.toNatClampNeg, fun _ => .null))) hM hc rfl rfl rfl ?_, rfl, hL, sx_mk (by rw [hh.1]; exact (rfl : Value.ref f.1 = Value.ref f.1)) hs3, sx_hr_new hh b1 (fun j => ?_)⟩
    · simp only [am_s1, hf, am_bt (show h.1 < 1000000000 by rw [hh.1]; omega), Bool.true_and, b2, cond_true]
    · rw [hd]
      exact (rfl : Value.null = Value.null)
  · cases hu
/-! Object's constructor, Math's two, texts -/
noncomputable def sx_oi (lo nx : Nat) : sx_Op := fun L st f => match st with
  | .ref _ :: r => bif Nat.ble ((r.map fun v => v.category).sum + 12) lo then some (nx, L, r, f) else none
  | _ => none
theorem sx_o_oi {idx : Nat} (hM : am_tab[mi]? = some M) (hc : M.1.2.2.2.2.2 pc = some (.invokespecial idx, n)) (ht : ∀ st h, am_tgt M.1.1 (.invokespecial idx) st h = none) (ho : ((am_oi M.1.1).contains idx && Nat.ble 1 M.1.2.2.2.1) = true) : sx_ok ρ mi pc (sx_oi M.1.2.2.2.2.1 (pc + 3)) := by
  intro L st f lo st' h u hL hst hh hu
  unfold sx_oi at hu
  split at hu
  · rename_i o r
    obtain ⟨hb, rfl⟩ := am_cf hu
    obtain ⟨t2, rfl, hs3⟩ := sx_cR hst
    refine ⟨_, sx_one2 (u := (pc + 3, t2)) hM hc rfl (ht _ _) rfl rfl ?_, rfl, hL, hs3, hh⟩
    have e : t2.map (fun v => v.category) = r.map fun v => v.category := sx_rs_cats hs3
    simp only [am_s2, e, ho, hb, Bool.and_self, cond_true]
  · cases hu
noncomputable def sx_mm (lo k nx : Nat) : sx_Op := fun L st f => match st with
  | .int y :: .int x :: r => bif Nat.ble ((r.map fun v => v.category).sum + 13) lo then some (nx, L, .int (if Nat.beq k 0 then (if y < x then y else x) else (if x < y then y else x)) :: r, f) else none
  | _ => none
theorem sx_o_mm {idx k : Nat} (hM : am_tab[mi]? = some M) (hc : M.1.2.2.2.2.2 pc = some (.invokestatic idx, n)) (ht : ∀ st h, am_tgt M.1.1 (.invokestatic idx) st h = none) (hk : am_fnd (am_mt M.1.1) idx = some k) (ho : Nat.ble 1 M.1.2.2.2.1 = true) : sx_ok ρ mi pc (sx_mm M.1.2.2.2.2.1 k (pc + 3)) := by
  intro L st f lo st' h u hL hst hh hu
  unfold sx_mm at hu
  split at hu
  · rename_i y x r
    obtain ⟨hb, rfl⟩ := am_cf hu
    obtain ⟨t1, rfl, hs2⟩ := sx_cI hst
    obtain ⟨t2, rfl, hs3⟩ := sx_cI hs2
    refine ⟨_, sx_one2 (u := (pc + 3, .int (if Nat.beq k 0 then (if y < x then y else x) else (if x < y then y else x)) :: t2)) hM hc rfl (ht _ _) rfl rfl ?_, rfl, hL, sx_mk rfl hs3, hh⟩
    have e : t2.map (fun v => v.category) = r.map fun v => v.category := sx_rs_cats hs3
    simp only [am_s2, hk, e, ho, hb, Bool.and_self, cond_true]
  · cases hu
noncomputable def sx_tl (fr lo nx : Nat) : sx_Op := fun L st f => match st with
  | .ref o :: r => match am_fnd am_otl o with
    | some a => bif Nat.ble 5 fr && Nat.ble 145 lo && Nat.ble ((r.map fun v => v.category).sum) 8 then some (nx, L, .int (Int32.ofNat a.length) :: r, f) else none
    | none => none
  | _ => none
theorem sx_o_tl {idx : Nat} (hM : am_tab[mi]? = some M) (hc : M.1.2.2.2.2.2 pc = some (.invokevirtual idx, n)) (ht : ∀ st h, am_tgt M.1.1 (.invokevirtual idx) st h = none) (hk : am_fnd (am_tx M.1.1) idx = some 0) : sx_ok ρ mi pc (sx_tl M.1.2.2.2.1 M.1.2.2.2.2.1 (pc + 3)) := by
  intro L st f lo st' h u hL hst hh hu
  unfold sx_tl at hu
  split at hu
  · rename_i o r
    split at hu
    · rename_i a ha
      obtain ⟨hb, rfl⟩ := am_cf hu
      obtain ⟨t2, rfl, hs3⟩ := sx_cR hst
      refine ⟨_, sx_one2 (u := (pc + 3, .int (Int32.ofNat a.length) :: t2)) hM hc rfl (ht _ _) rfl rfl ?_, rfl, hL, sx_mk rfl hs3, hh⟩
      have e : t2.map (fun v => v.category) = r.map fun v => v.category := sx_rs_cats hs3
      simp only [am_s2, hk, ha, e, hb, cond_true]
    · cases hu
  · cases hu
noncomputable def sx_tc (fr lo nx : Nat) : sx_Op := fun L st f => match st with
  | .int j :: .ref o :: r => match am_fnd am_otl o with
    | some a => bif Nat.ble 5 fr && Nat.ble 145 lo && Nat.ble ((r.map fun v => v.category).sum) 8 && am_in j a.length then some (nx, L, .int (a.getD j.toNatClampNeg 0) :: r, f) else none
    | none => none
  | _ => none
theorem sx_o_tc {idx : Nat} (hM : am_tab[mi]? = some M) (hc : M.1.2.2.2.2.2 pc = some (.invokevirtual idx, n)) (ht : ∀ st h, am_tgt M.1.1 (.invokevirtual idx) st h = none) (hk : am_fnd (am_tx M.1.1) idx = some 1) : sx_ok ρ mi pc (sx_tc M.1.2.2.2.1 M.1.2.2.2.2.1 (pc + 3)) := by
  intro L st f lo st' h u hL hst hh hu
  unfold sx_tc at hu
  split at hu
  · rename_i j o r
    split at hu
    · rename_i a ha
      obtain ⟨hb, rfl⟩ := am_cf hu
      obtain ⟨t1, rfl, hs2⟩ := sx_cI hst
      obtain ⟨t2, rfl, hs3⟩ := sx_cR hs2
      refine ⟨_, sx_one2 (u := (pc + 3, .int (a.getD j.toNatClampNeg 0) :: t2)) hM hc rfl (ht _ _) rfl rfl ?_, rfl, hL, sx_mk rfl hs3, hh⟩
      have e : t2.map (fun v => v.category) = r.map fun v => v.category := sx_rs_cats hs3
      simp only [am_s2, hk, ha, e, hb, cond_true]
    · cases hu
  · cases hu
/-- no operation -/
noncomputable def sx_no : sx_Op := fun _ _ _ => none
theorem sx_o_no : sx_ok ρ mi pc sx_no := by
  intro L st f lo st' h u hL hst hh hu
  cases hu
end SXP
