/-! RULES: the heap's instructions, one by one -/
section AMH
variable {mi pc : Nat} {lo : List (Nat × Value)} {st : List Value} {h h' : am_H} {v : Option Value} {M : am_M} {n : Nat}
theorem am_P.s1 {i : Instr} {u : Nat × List Value × am_H} (hM : am_tab[mi]? = some M) (hc : M.1.2.2.2.2.2 pc = some (i, n)) (hr : am_retv i M.2.2.1 st = none) (ht : am_tgt M.1.1 i st h = none) (h0 : am_s0 M.1.2.1 i pc lo st = none) (h1 : am_s1 M.1.1 M.1.2.2.1 i pc st h = some u) (hP : am_P mi u.1 lo u.2.1 u.2.2 v h') : am_P mi pc lo st h v h' := by
  refine am_P.many 1 (u := (u.1, lo, u.2.1, u.2.2)) ?_ hP
  show (match am_one mi pc lo st h with | some u => am_many 0 mi u.1 u.2.1 u.2.2.1 u.2.2.2 | none => none) = _
  have : am_one mi pc lo st h = some (u.1, lo, u.2.1, u.2.2) := by
    unfold am_one
    rw [hM]; dsimp only
    rw [hc]; dsimp only
    rw [hr]; dsimp only
    rw [ht]; dsimp only
    rw [h0]; dsimp only
    rw [h1]
  rw [this]
  rfl
theorem am_bt {a b : Nat} (h : a < b) : Nat.blt a b = true := Nat.blt_eq.mpr h
theorem am_P.getf {idx o ci : Nat} {u : Nat × Nat × Nat} (hM : am_tab[mi]? = some M) (hc : M.1.2.2.2.2.2 pc = some (.getfield idx, n)) (ho : o < h.1) (hk : (h.2.2.2 o).1 = ci) (hf : am_find (am_ft M.1.1) idx ci = some u) (hP : am_P mi (pc + 3) lo ((h.2.2.2 o).2.2 u.1 :: st) h v h') : am_P mi pc lo (.ref o :: st) h v h' := by
  refine am_P.s1 (u := (pc + 3, (h.2.2.2 o).2.2 u.1 :: st, h)) hM hc rfl rfl rfl ?_ hP
  simp only [am_s1, am_bt ho, cond_true, hk, hf]
theorem am_P.putf {idx o ci : Nat} {u : Nat × Nat × Nat} {x : Value} (hM : am_tab[mi]? = some M) (hc : M.1.2.2.2.2.2 pc = some (.putfield idx, n)) (ho : o < h.1) (hk : (h.2.2.2 o).1 = ci) (hf : am_find (am_ft M.1.1) idx ci = some u) (hb : ((Nat.beq u.2.2 0 || (Nat.beq u.2.2 1 && M.1.2.2.1)) && am_fit (am_ty0 ci u.1) x) = true) (hP : am_P mi (pc + 3) lo st (am_put h o (ci, (h.2.2.2 o).2.1, am_up (h.2.2.2 o).2.2 u.1 x)) v h') : am_P mi pc lo (x :: .ref o :: st) h v h' := by
  refine am_P.s1 (u := (pc + 3, st, am_put h o (ci, (h.2.2.2 o).2.1, am_up (h.2.2.2 o).2.2 u.1 x))) hM hc rfl rfl rfl ?_ hP
  simp only [am_s1, am_bt ho, cond_true, hk, hf, hb]
theorem am_P.iald {o : Nat} {j : Int32} (hM : am_tab[mi]? = some M) (hc : M.1.2.2.2.2.2 pc = some (.iaload, n)) (ho : o < h.1) (hk : (h.2.2.2 o).1 = 20) (hj : am_in j (h.2.2.2 o).2.1 = true) (hP : am_P mi (pc + 1) lo (.int (am_i ((h.2.2.2 o).2.2 j.toNatClampNeg)) :: st) h v h') : am_P mi pc lo (.int j :: .ref o :: st) h v h' := by
  refine am_P.s1 (u := (pc + 1, .int (am_i ((h.2.2.2 o).2.2 j.toNatClampNeg)) :: st, h)) hM hc rfl rfl rfl ?_ hP
  simp only [am_s1, am_bt ho, cond_true, hk, hj, Nat.beq_refl, Bool.and_self]
theorem am_P.iast {o : Nat} {j x : Int32} (hM : am_tab[mi]? = some M) (hc : M.1.2.2.2.2.2 pc = some (.iastore, n)) (ho : o < h.1) (hk : (h.2.2.2 o).1 = 20) (hj : am_in j (h.2.2.2 o).2.1 = true) (hP : am_P mi (pc + 1) lo st (am_put h o (20, (h.2.2.2 o).2.1, am_up (h.2.2.2 o).2.2 j.toNatClampNeg (.int x))) v h') : am_P mi pc lo (.int x :: .int j :: .ref o :: st) h v h' := by
  refine am_P.s1 (u := (pc + 1, st, am_put h o (20, (h.2.2.2 o).2.1, am_up (h.2.2.2 o).2.2 j.toNatClampNeg (.int x)))) hM hc rfl rfl rfl ?_ hP
  simp only [am_s1, am_bt ho, cond_true, hk, hj, Nat.beq_refl, Bool.and_self]
theorem am_P.alen {o ci : Nat} (hM : am_tab[mi]? = some M) (hc : M.1.2.2.2.2.2 pc = some (.arraylength, n)) (ho : o < h.1) (hk : (h.2.2.2 o).1 = ci) (hi : am_isA ci = true) (hP : am_P mi (pc + 1) lo (.int (Int32.ofNat (h.2.2.2 o).2.1) :: st) h v h') : am_P mi pc lo (.ref o :: st) h v h' := by
  refine am_P.s1 (u := (pc + 1, .int (Int32.ofNat (h.2.2.2 o).2.1) :: st, h)) hM hc rfl rfl rfl ?_ hP
  simp only [am_s1, am_bt ho, cond_true, hk, hi, Bool.and_self]
/-- a call by the receiver's class -/
theorem am_P.callV {idx o ci np kd mi1 : Nat} {As rest : List Value} {M' : am_M} {v1 : Option Value} {h1 : am_H} (hM : am_tab[mi]? = some M) (hc : M.1.2.2.2.2.2 pc = some (.invokevirtual idx, n)) (hnp : am_fnd (am_vn M.1.1) idx = some np) (hst : st.drop np = .ref o :: rest) (hAs : (st.take np).reverse = As) (ho : o < h.1) (hk : (h.2.2.2 o).1 = ci) (hf : am_fv (am_vt M.1.1) idx ci = some (mi1, kd)) (hM' : am_tab[mi1]? = some M') (hcan : am_can M M' (.invokevirtual idx) (mi1, .ref o :: As, rest) = true) (hT : am_T mi1 (.ref o :: As) h v1 h1) (hP : am_P mi (pc + 3) lo (v1.toList ++ rest) h1 v h') : am_P mi pc lo st h v h' := by
  refine am_P.call (w := (mi1, .ref o :: As, rest)) (v1 := v1) hM hc rfl ?_ hM' hcan hT hP
  simp only [am_tgt, hnp, hst, hAs, am_bt ho, cond_true, hk, hf]
end AMH
/-! the rows of bytes -/
/-- b is a Bytes: its cells are a (n of them, f), its size is sz -/
def by_at (h : am_H) (b a n : Nat) (sz : Int32) (f : Nat → Value) : Prop := b < h.1 ∧ (h.2.2.2 b).1 = 1 ∧ (h.2.2.2 b).2.2 0 = .ref a ∧ (h.2.2.2 b).2.2 1 = .int sz ∧ a < h.1 ∧ h.2.2.2 a = (20, n, f)
set_option maxRecDepth 100000 in
theorem by_size {h : am_H} {b a n : Nat} {sz : Int32} {f : Nat → Value} (hb : by_at h b a n sz f) : am_T am_i_X2_size [.ref b] h (some (.int sz)) h := by
  obtain ⟨b1, b2, b3, b4, b5, b6⟩ := hb
  refine am_P.many 1 rfl ?_
  refine am_P.getf (M := am_m_X2_size) rfl rfl b1 b2 rfl ?_
  rw [b4]
  exact am_P.ret (M := am_m_X2_size) rfl rfl rfl
