/-! a field of an int that isn't said -/
section SXQ
variable {ρ : Nat → Int32} {mi pc n : Nat} {M : am_M}
def sx_pq (l : List (Nat × Nat)) (nx : Nat) : sx_Op := fun L st f => match st with
  | v :: .ref o :: r => bif Nat.blt o f.1 then (match am_fnd l (sx_cl f o).1 with
    | some sl => bif am_fit (am_ty0 (sx_cl f o).1 sl) v || (sx_isI v && decide (am_ty0 (sx_cl f o).1 sl = .int)) then some (nx, L, r, sx_put f o (sx_up (sx_cl f o) sl v)) else none
    | none => none) else none
  | _ => none
theorem sx_fitq {ty : FieldType} {v w : Value} (h : (am_fit ty v || (sx_isI v && decide (ty = .int))) = true) (hr : sx_rel ρ v w) : am_fit ty w = true := by
  rcases Bool.or_eq_true_iff.mp h with h | h
  · rw [sx_fit h hr]
    exact h
  · obtain ⟨h1, h2⟩ := am_b2 h
    have h2 := of_decide_eq_true h2
    subst h2
    obtain ⟨x, rfl⟩ := sx_isI_ok h1 hr
    rfl
theorem sx_o_pq {l : List (Nat × Nat)} {idx : Nat} (hM : am_tab[mi]? = some M) (hc : M.1.2.2.2.2.2 pc = some (.putfield idx, n)) (hl : l.all (sx_pfl M.1.1 idx M.1.2.2.1) = true) : sx_ok ρ mi pc (sx_pq l (pc + 3)) := by
  intro L st f lo st' h u hL hst hh hu
  unfold sx_pq at hu
  split at hu
  · rename_i v o r
    obtain ⟨ho, hu⟩ := am_cg hu
    have ho := Nat.blt_eq.mp ho
    split at hu
    · rename_i sl hs
      obtain ⟨hfit, rfl⟩ := am_cf hu
      obtain ⟨w, t1, rfl, hr1, hs2⟩ := sx_cV hst
      obtain ⟨t2, rfl, hs3⟩ := sx_cR hs2
      have hfw := sx_fitq hfit hr1
      have h1 := List.all_eq_true.mp hl _ (am_fnd_mem hs)
      unfold sx_pfl at h1
      split at h1
      · rename_i q hq
        obtain ⟨h1, h2⟩ := am_b2 h1
        have h1 : q.1 = sl := Nat.eq_of_beq_eq_true h1
        subst h1
        obtain ⟨k1, k2, k3⟩ := hh.2.2.2.2 o ho
        have hk : (h.2.2.2 o).1 = (sx_cl f o).1 := k1
        have hq : am_find (am_ft M.1.1) idx (sx_cl f o).1 = some q := hq
        refine ⟨_, sx_one1 (u := (pc + 3, t2, am_put h o ((h.2.2.2 o).1, (h.2.2.2 o).2.1, am_up (h.2.2.2 o).2.2 q.1 w))) hM hc rfl rfl rfl ?_, rfl, hL, hs3, sx_hr_up hh ho rfl rfl hr1⟩
        simp only [am_s1, am_bt (show o < h.1 by rw [hh.1]; exact ho), cond_true, hk, hq, h2, hfw, Bool.and_self]
      · cases h1
    · cases hu
  · cases hu
end SXQ
theorem sx_pq_l : ([(11, 33)] : List (Nat × Nat)).all (sx_pfl 12 364 false) = true := by decide +kernel
def sx_tq (iv : List (Int × Int)) (mi pc : Nat) : Option sx_Op := bif Nat.beq mi am_i_X12_putBit && Nat.beq pc 12 then some (sx_pq [(11, 33)] 15) else sx_tb iv mi pc
theorem sx_tq_ok {ρ : Nat → Int32} {iv : List (Int × Int)} (hv : sx_iv ρ iv) : sx_tbok ρ (sx_tq iv) := by
  intro mi pc op h
  unfold sx_tq at h
  cases hb : (Nat.beq mi am_i_X12_putBit && Nat.beq pc 12) with
  | true =>
    rw [hb] at h
    cases h
    obtain ⟨h1, h2⟩ := am_b2 hb
    rw [Nat.eq_of_beq_eq_true h1, Nat.eq_of_beq_eq_true h2]
    exact sx_o_pq (idx := 364) sx_m_X12_putBit rfl sx_pq_l
  | false =>
    rw [hb] at h
    exact sx_tb_ok hv mi pc op h
