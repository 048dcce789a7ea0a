/-! THE LAW'S CASES; printed by wip/whole/gen_law.py -/
/-- a turn's script -/
noncomputable def SB (sl : Nat) (xs : Nat → Int32) (i a1 a2 a3 a4 a5 : Int32) : Prop := (am_in (i + 1) sl = true ∧ xs (i + 1).toNatClampNeg = a1) ∧ (am_in (i + 2) sl = true ∧ xs (i + 2).toNatClampNeg = a2) ∧ (am_in (i + 3) sl = true ∧ xs (i + 3).toNatClampNeg = a3) ∧ (am_in (i + 4) sl = true ∧ xs (i + 4).toNatClampNeg = a4) ∧ (am_in (i + 5) sl = true ∧ xs (i + 5).toNatClampNeg = a5)
section SBS
variable {sl : Nat} {xs : Nat → Int32} {i a1 a2 a3 a4 a5 : Int32}
theorem SB.e1 (s : SB sl xs i a1 a2 a3 a4 a5) : am_in (i + 1) sl = true ∧ xs (i + 1).toNatClampNeg = a1 := s.1
theorem SB.e2 (s : SB sl xs i a1 a2 a3 a4 a5) : am_in (i + 2) sl = true ∧ xs (i + 2).toNatClampNeg = a2 := s.2.1
theorem SB.e3 (s : SB sl xs i a1 a2 a3 a4 a5) : am_in (i + 3) sl = true ∧ xs (i + 3).toNatClampNeg = a3 := s.2.2.1
theorem SB.e4 (s : SB sl xs i a1 a2 a3 a4 a5) : am_in (i + 4) sl = true ∧ xs (i + 4).toNatClampNeg = a4 := s.2.2.2.1
theorem SB.e5 (s : SB sl xs i a1 a2 a3 a4 a5) : am_in (i + 5) sl = true ∧ xs (i + 5).toNatClampNeg = a5 := s.2.2.2.2
end SBS
theorem LG.ld {sl : Nat} {xs : Nat → Int32} {G : Nat → Nat → List (Option Value) → List Value → am_H → Prop} {x pc : Nat} {L : List (Option Value)} {st : List Value} {h : am_H} {j a : Int32} (g : LG sl xs G) (hc : am_c_L_law pc = some (.iaload, 1)) (hj : am_in j sl = true ∧ xs j.toNatClampNeg = a) (hG : G x (pc + 1) L (.int a :: st) h) : G x pc L (.int j :: .ref 1000000300 :: st) h := g.sld hc hj.1 (by rw [hj.2]; exact hG)
theorem ne_t {K : Nat} (hb : K < 100) (hK : K ≠ 0) : am_cc .ne (nI K) 0 = true := by
  have : nI K ≠ 0 := fun e => hK (by
    have e2 : Int32.ofNat K = Int32.ofNat 0 := e
    have e3 := congrArg Int32.toInt e2
    rw [Int32.toInt_ofNat_of_lt (by omega), Int32.toInt_ofNat_of_lt (by decide)] at e3
    omega)
  show (!decide (nI K = 0)) = true
  rw [decide_eq_false this]
  rfl
theorem cmp_e {x y : Int64} (h : x = y) : lg_cmp x y = 0 := by
  subst h
  unfold lg_cmp
  simp
theorem kb_count {w : Int32} : coK w ≤ 9 := by
  unfold coK
  repeat first | decide | split
set_option maxRecDepth 100000 in
theorem lw_0 {sl N x : Nat} {xs : Nat → Int32} {G : Nat → Nat → List (Option Value) → List Value → am_H → Prop} {i a1 a2 a3 a4 a5 : Int32} {c : hS} {h : am_H} {b t : List Nat} {ms : List Mb} (hN : 1000000 ≤ N) (g : LG sl xs G) (sb : SB sl xs i a1 a2 a3 a4 a5) (q : JP c h b t ms) (hx : x ≤ 600) (kk : ∀ x' c' h' b' t' ms', x' ≤ x + 1 → JP c' h' b' t' ms' → G x' 866 [some (.ref 1000000300), some (.ref 0), some (.ref 201), some (.ref 219), some (.int i)] [] h') : G x 136 [some (.ref 1000000300), some (.ref 0), some (.ref 201), some (.ref 219), some (.int i)] [] h := by
  refine g.many (pc' := 142) (L' := [some (.ref 1000000300), some (.ref 0), some (.ref 201), some (.ref 219), some (.int i)]) (st' := [.int (i + 1), .ref 1000000300, .ref 0]) 5 rfl ?_
  refine g.ld rfl sb.e1 ?_
  refine g.many (pc' := 152) (L' := [some (.ref 1000000300), some (.ref 0), some (.ref 201), some (.ref 219), some (.int i)]) (st' := [.int (i + 2), .ref 1000000300, .long (j_lshl (a1).toInt64 32), .ref 0]) 7 rfl ?_
  refine g.ld rfl sb.e2 ?_
  refine g.many (pc' := 164) (L' := [some (.ref 1000000300), some (.ref 0), some (.ref 201), some (.ref 219), some (.int i)]) (st' := [.int (i + 3), .ref 1000000300, .long ((j_lshl (a1).toInt64 32) ||| ((a2).toInt64 &&& (4294967295))), .ref 0]) 8 rfl ?_
  refine g.ld rfl sb.e3 ?_
  refine g.many (pc' := 166) (L' := [some (.ref 1000000300), some (.ref 0), some (.ref 201), some (.ref 219), some (.int i)]) (st' := [.ref 219, .int a3, .long ((j_lshl (a1).toInt64 32) ||| ((a2).toInt64 &&& (4294967295))), .ref 0]) 1 rfl ?_
  obtain ⟨h1, c1, e1, k1, k2, k3, k4, k5⟩ := H_type hN q (((j_lshl (a1).toInt64 32) ||| ((a2).toInt64 &&& (4294967295)))) a3
  have le1 := k1.2.2
  refine g.call (av := [.ref 0, .long ((j_lshl (a1).toInt64 32) ||| ((a2).toInt64 &&& (4294967295))), .int a3, .ref 219]) (r := []) lx_e_type sx_m_L_type rfl rfl rfl rfl (by decide) k1 k2.1 (by omega) ?_
  refine g.many (pc' := 177) (L' := [some (.ref 1000000300), some (.ref 0), some (.ref 201), some (.ref 219), some (.int i), some (.int (nI (tyK b a3)))]) (st' := [.int (i + 1), .ref 1000000300, .ref 201]) 6 rfl ?_
  refine g.ld rfl sb.e1 ?_
  refine g.many (pc' := 187) (L' := [some (.ref 1000000300), some (.ref 0), some (.ref 201), some (.ref 219), some (.int i), some (.int (nI (tyK b a3)))]) (st' := [.int (i + 2), .ref 1000000300, .long (j_lshl (a1).toInt64 32), .ref 201]) 7 rfl ?_
  refine g.ld rfl sb.e2 ?_
  refine g.many (pc' := 199) (L' := [some (.ref 1000000300), some (.ref 0), some (.ref 201), some (.ref 219), some (.int i), some (.int (nI (tyK b a3)))]) (st' := [.int (i + 3), .ref 1000000300, .long ((j_lshl (a1).toInt64 32) ||| ((a2).toInt64 &&& (4294967295))), .ref 201]) 8 rfl ?_
  refine g.ld rfl sb.e3 ?_
  obtain ⟨v2, c2, h2, t1, q2, t2, t3, t4⟩ := rf_call k2 k3 (MN_g (m_type hN k4)) (ok_X12_type (em_M c1) N c1 (((j_lshl (a1).toInt64 32) ||| ((a2).toInt64 &&& (4294967295)))) a3)
  refine g.callV (idx := 83) (o := 201) (ci := 11) (np := 2) (kd := 0) (As := [.long ((j_lshl (a1).toInt64 32) ||| ((a2).toInt64 &&& (4294967295))), .int a3]) (rest := []) rfl rfl rfl rfl k2.1 (by decide) (k2.2.2 201 (by decide)).2.1 rfl mt_X12_type rfl t1 q2.1.1 ?_
  refine g.many (pc' := 866) (L' := [some (.ref 1000000300), some (.ref 0), some (.ref 201), some (.ref 219), some (.int i), some (.int (nI (tyK b a3))), some (.int v2)]) (st' := []) 2 rfl ?_
  refine g.weak (m := [true, true, true, true, true]) rfl ?_
  exact kk _ _ _ _ _ _ (by omega) q2
set_option maxRecDepth 100000 in
theorem lw_1 {sl N x : Nat} {xs : Nat → Int32} {G : Nat → Nat → List (Option Value) → List Value → am_H → Prop} {i a1 a2 a3 a4 a5 : Int32} {c : hS} {h : am_H} {b t : List Nat} {ms : List Mb} (hN : 1000000 ≤ N) (g : LG sl xs G) (sb : SB sl xs i a1 a2 a3 a4 a5) (q : JP c h b t ms) (hx : x ≤ 600) (kk : ∀ x' c' h' b' t' ms', x' ≤ x + 1 → JP c' h' b' t' ms' → G x' 866 [some (.ref 1000000300), some (.ref 0), some (.ref 201), some (.ref 219), some (.int i)] [] h') : G x 208 [some (.ref 1000000300), some (.ref 0), some (.ref 201), some (.ref 219), some (.int i)] [] h := by
  refine g.many (pc' := 214) (L' := [some (.ref 1000000300), some (.ref 0), some (.ref 201), some (.ref 219), some (.int i)]) (st' := [.int (i + 1), .ref 1000000300, .ref 0]) 5 rfl ?_
  refine g.ld rfl sb.e1 ?_
  obtain ⟨h1, c1, e1, k1, k2, k3, k4, k5⟩ := H_keep hN q a1
  have le1 := k1.2.2
  refine g.call (av := [.ref 0, .int a1]) (r := []) lx_e_keep sx_m_L_keep rfl rfl rfl rfl (by decide) k1 k2.1 (by omega) ?_
  refine g.many (pc' := 226) (L' := [some (.ref 1000000300), some (.ref 0), some (.ref 201), some (.ref 219), some (.int i), some (.int (nI (keK b a1)))]) (st' := [.int (i + 1), .ref 1000000300, .ref 201]) 6 rfl ?_
  refine g.ld rfl sb.e1 ?_
  obtain ⟨v2, c2, h2, t1, q2, t2, t3, t4⟩ := rf_call k2 k3 (MN_g (m_keep k4)) (ok_X12_keep (em_M c1) c1 a1)
  refine g.callV (idx := 87) (o := 201) (ci := 11) (np := 1) (kd := 0) (As := [.int a1]) (rest := []) rfl rfl rfl rfl k2.1 (by decide) (k2.2.2 201 (by decide)).2.1 rfl mt_X12_keep rfl t1 q2.1.1 ?_
  refine g.many (pc' := 866) (L' := [some (.ref 1000000300), some (.ref 0), some (.ref 201), some (.ref 219), some (.int i), some (.int (nI (keK b a1)))]) (st' := []) 1 rfl ?_
  refine g.weak (m := [true, true, true, true, true]) rfl ?_
  exact kk _ _ _ _ _ _ (by omega) q2
set_option maxRecDepth 100000 in
theorem lw_2 {sl N x : Nat} {xs : Nat → Int32} {G : Nat → Nat → List (Option Value) → List Value → am_H → Prop} {i a1 a2 a3 a4 a5 : Int32} {c : hS} {h : am_H} {b t : List Nat} {ms : List Mb} (hN : 1000000 ≤ N) (g : LG sl xs G) (sb : SB sl xs i a1 a2 a3 a4 a5) (q : JP c h b t ms) (hx : x ≤ 600) (kk : ∀ x' c' h' b' t' ms', x' ≤ x + 1 → JP c' h' b' t' ms' → G x' 866 [some (.ref 1000000300), some (.ref 0), some (.ref 201), some (.ref 219), some (.int i)] [] h') : G x 233 [some (.ref 1000000300), some (.ref 0), some (.ref 201), some (.ref 219), some (.int i)] [] h := by
  refine g.many (pc' := 239) (L' := [some (.ref 1000000300), some (.ref 0), some (.ref 201), some (.ref 219), some (.int i)]) (st' := [.int (i + 1), .ref 1000000300, .ref 0]) 5 rfl ?_
  refine g.ld rfl sb.e1 ?_
  refine g.many (pc' := 241) (L' := [some (.ref 1000000300), some (.ref 0), some (.ref 201), some (.ref 219), some (.int i)]) (st' := [.ref 219, .int a1, .ref 0]) 1 rfl ?_
  obtain ⟨h1, c1, e1, k1, k2, k3, k4, k5⟩ := H_typed hN q a1
  have le1 := k1.2.2
  refine g.call (av := [.ref 0, .int a1, .ref 219]) (r := []) lx_e_typed sx_m_L_typed rfl rfl rfl rfl (by decide) k1 k2.1 (by omega) ?_
  refine g.many (pc' := 252) (L' := [some (.ref 1000000300), some (.ref 0), some (.ref 201), some (.ref 219), some (.int i), some (.int (nI (tdK b a1)))]) (st' := [.int (i + 1), .ref 1000000300, .ref 201]) 6 rfl ?_
  refine g.ld rfl sb.e1 ?_
  obtain ⟨v2, c2, h2, t1, q2, t2, t3, t4⟩ := rf_call k2 k3 (MN_g (m_typed k4)) (ok_X12_typed (em_M c1) c1 a1)
  refine g.callV (idx := 91) (o := 201) (ci := 11) (np := 1) (kd := 0) (As := [.int a1]) (rest := []) rfl rfl rfl rfl k2.1 (by decide) (k2.2.2 201 (by decide)).2.1 rfl mt_X12_typed rfl t1 q2.1.1 ?_
  refine g.many (pc' := 866) (L' := [some (.ref 1000000300), some (.ref 0), some (.ref 201), some (.ref 219), some (.int i), some (.int (nI (tdK b a1))), some (.int v2)]) (st' := []) 2 rfl ?_
  refine g.weak (m := [true, true, true, true, true]) rfl ?_
  exact kk _ _ _ _ _ _ (by omega) q2
set_option maxRecDepth 100000 in
theorem lw_3_f {sl N x : Nat} {xs : Nat → Int32} {G : Nat → Nat → List (Option Value) → List Value → am_H → Prop} {i a1 a2 a3 a4 a5 : Int32} {c : hS} {h : am_H} {b t : List Nat} {ms : List Mb} (hN : 1000000 ≤ N) (g : LG sl xs G) (sb : SB sl xs i a1 a2 a3 a4 a5) (q : JP c h b t ms) (hx : x ≤ 600) (ha : a2 = 0) (kk : ∀ x' c' h' b' t' ms', x' ≤ x + 1 → JP c' h' b' t' ms' → G x' 866 [some (.ref 1000000300), some (.ref 0), some (.ref 201), some (.ref 219), some (.int i)] [] h') : G x 261 [some (.ref 1000000300), some (.ref 0), some (.ref 201), some (.ref 219), some (.int i)] [] h := by
  refine g.many (pc' := 267) (L' := [some (.ref 1000000300), some (.ref 0), some (.ref 201), some (.ref 219), some (.int i)]) (st' := [.int (i + 1), .ref 1000000300, .ref 0]) 5 rfl ?_
  refine g.ld rfl sb.e1 ?_
  refine g.many (pc' := 273) (L' := [some (.ref 1000000300), some (.ref 0), some (.ref 201), some (.ref 219), some (.int i)]) (st' := [.int (i + 2), .ref 1000000300, .int a1, .ref 0]) 4 rfl ?_
  refine g.ld rfl sb.e2 ?_
  refine g.many (pc' := (bif am_cc .eq a2 0 then 281 else 277)) (L' := [some (.ref 1000000300), some (.ref 0), some (.ref 201), some (.ref 219), some (.int i)]) (st' := [.int a1, .ref 0]) 1 rfl ?_
  rw [show am_cc .eq a2 0 = true from decide_eq_true ha, cond_true]
  refine g.many (pc' := 283) (L' := [some (.ref 1000000300), some (.ref 0), some (.ref 201), some (.ref 219), some (.int i)]) (st' := [.ref 219, .int 0, .int a1, .ref 0]) 2 rfl ?_
  obtain ⟨h1, c1, e1, k1, k2, k3, k4, k5⟩ := H_come hN q a1 false
  have le1 := k1.2.2
  refine g.call (av := [.ref 0, .int a1, .int 0, .ref 219]) (r := []) lx_e_come sx_m_L_come rfl rfl rfl rfl (by decide) k1 k2.1 (by omega) ?_
  refine g.many (pc' := 294) (L' := [some (.ref 1000000300), some (.ref 0), some (.ref 201), some (.ref 219), some (.int i), some (.int (nI (cmK b ms a1 false)))]) (st' := [.int (i + 1), .ref 1000000300, .ref 201]) 6 rfl ?_
  refine g.ld rfl sb.e1 ?_
  refine g.many (pc' := 300) (L' := [some (.ref 1000000300), some (.ref 0), some (.ref 201), some (.ref 219), some (.int i), some (.int (nI (cmK b ms a1 false)))]) (st' := [.int (i + 2), .ref 1000000300, .int a1, .ref 201]) 4 rfl ?_
  refine g.ld rfl sb.e2 ?_
  refine g.many (pc' := (bif am_cc .eq a2 0 then 308 else 304)) (L' := [some (.ref 1000000300), some (.ref 0), some (.ref 201), some (.ref 219), some (.int i), some (.int (nI (cmK b ms a1 false)))]) (st' := [.int a1, .ref 201]) 1 rfl ?_
  rw [show am_cc .eq a2 0 = true from decide_eq_true ha, cond_true]
  refine g.many (pc' := 309) (L' := [some (.ref 1000000300), some (.ref 0), some (.ref 201), some (.ref 219), some (.int i), some (.int (nI (cmK b ms a1 false)))]) (st' := [.int 0, .int a1, .ref 201]) 1 rfl ?_
  obtain ⟨v2, c2, h2, t1, q2, t2, t3, t4⟩ := rf_call k2 k3 (MN_g (m_come hN k4)) (ok_X12_come (em_M c1) N c1 a1 (bI false))
  refine g.callV (idx := 95) (o := 201) (ci := 11) (np := 2) (kd := 0) (As := [.int a1, .int 0]) (rest := []) rfl rfl rfl rfl k2.1 (by decide) (k2.2.2 201 (by decide)).2.1 rfl mt_X12_come rfl t1 q2.1.1 ?_
  refine g.many (pc' := 866) (L' := [some (.ref 1000000300), some (.ref 0), some (.ref 201), some (.ref 219), some (.int i), some (.int (nI (cmK b ms a1 false))), some (.int v2)]) (st' := []) 2 rfl ?_
  refine g.weak (m := [true, true, true, true, true]) rfl ?_
  exact kk _ _ _ _ _ _ (by omega) q2
set_option maxRecDepth 100000 in
theorem lw_3_t {sl N x : Nat} {xs : Nat → Int32} {G : Nat → Nat → List (Option Value) → List Value → am_H → Prop} {i a1 a2 a3 a4 a5 : Int32} {c : hS} {h : am_H} {b t : List Nat} {ms : List Mb} (hN : 1000000 ≤ N) (g : LG sl xs G) (sb : SB sl xs i a1 a2 a3 a4 a5) (q : JP c h b t ms) (hx : x ≤ 600) (ha : ¬ a2 = 0) (kk : ∀ x' c' h' b' t' ms', x' ≤ x + 1 → JP c' h' b' t' ms' → G x' 866 [some (.ref 1000000300), some (.ref 0), some (.ref 201), some (.ref 219), some (.int i)] [] h') : G x 261 [some (.ref 1000000300), some (.ref 0), some (.ref 201), some (.ref 219), some (.int i)] [] h := by
  refine g.many (pc' := 267) (L' := [some (.ref 1000000300), some (.ref 0), some (.ref 201), some (.ref 219), some (.int i)]) (st' := [.int (i + 1), .ref 1000000300, .ref 0]) 5 rfl ?_
  refine g.ld rfl sb.e1 ?_
  refine g.many (pc' := 273) (L' := [some (.ref 1000000300), some (.ref 0), some (.ref 201), some (.ref 219), some (.int i)]) (st' := [.int (i + 2), .ref 1000000300, .int a1, .ref 0]) 4 rfl ?_
  refine g.ld rfl sb.e2 ?_
  refine g.many (pc' := (bif am_cc .eq a2 0 then 281 else 277)) (L' := [some (.ref 1000000300), some (.ref 0), some (.ref 201), some (.ref 219), some (.int i)]) (st' := [.int a1, .ref 0]) 1 rfl ?_
  rw [show am_cc .eq a2 0 = false from decide_eq_false ha, cond_false]
  refine g.many (pc' := 283) (L' := [some (.ref 1000000300), some (.ref 0), some (.ref 201), some (.ref 219), some (.int i)]) (st' := [.ref 219, .int 1, .int a1, .ref 0]) 3 rfl ?_
  obtain ⟨h1, c1, e1, k1, k2, k3, k4, k5⟩ := H_come hN q a1 true
  have le1 := k1.2.2
  refine g.call (av := [.ref 0, .int a1, .int 1, .ref 219]) (r := []) lx_e_come sx_m_L_come rfl rfl rfl rfl (by decide) k1 k2.1 (by omega) ?_
  refine g.many (pc' := 294) (L' := [some (.ref 1000000300), some (.ref 0), some (.ref 201), some (.ref 219), some (.int i), some (.int (nI (cmK b ms a1 true)))]) (st' := [.int (i + 1), .ref 1000000300, .ref 201]) 6 rfl ?_
  refine g.ld rfl sb.e1 ?_
  refine g.many (pc' := 300) (L' := [some (.ref 1000000300), some (.ref 0), some (.ref 201), some (.ref 219), some (.int i), some (.int (nI (cmK b ms a1 true)))]) (st' := [.int (i + 2), .ref 1000000300, .int a1, .ref 201]) 4 rfl ?_
  refine g.ld rfl sb.e2 ?_
  refine g.many (pc' := (bif am_cc .eq a2 0 then 308 else 304)) (L' := [some (.ref 1000000300), some (.ref 0), some (.ref 201), some (.ref 219), some (.int i), some (.int (nI (cmK b ms a1 true)))]) (st' := [.int a1, .ref 201]) 1 rfl ?_
  rw [show am_cc .eq a2 0 = false from decide_eq_false ha, cond_false]
  refine g.many (pc' := 309) (L' := [some (.ref 1000000300), some (.ref 0), some (.ref 201), some (.ref 219), some (.int i), some (.int (nI (cmK b ms a1 true)))]) (st' := [.int 1, .int a1, .ref 201]) 2 rfl ?_
  obtain ⟨v2, c2, h2, t1, q2, t2, t3, t4⟩ := rf_call k2 k3 (MN_g (m_come hN k4)) (ok_X12_come (em_M c1) N c1 a1 (bI true))
  refine g.callV (idx := 95) (o := 201) (ci := 11) (np := 2) (kd := 0) (As := [.int a1, .int 1]) (rest := []) rfl rfl rfl rfl k2.1 (by decide) (k2.2.2 201 (by decide)).2.1 rfl mt_X12_come rfl t1 q2.1.1 ?_
  refine g.many (pc' := 866) (L' := [some (.ref 1000000300), some (.ref 0), some (.ref 201), some (.ref 219), some (.int i), some (.int (nI (cmK b ms a1 true))), some (.int v2)]) (st' := []) 2 rfl ?_
  refine g.weak (m := [true, true, true, true, true]) rfl ?_
  exact kk _ _ _ _ _ _ (by omega) q2
set_option maxRecDepth 100000 in
theorem lw_3 {sl N x : Nat} {xs : Nat → Int32} {G : Nat → Nat → List (Option Value) → List Value → am_H → Prop} {i a1 a2 a3 a4 a5 : Int32} {c : hS} {h : am_H} {b t : List Nat} {ms : List Mb} (hN : 1000000 ≤ N) (g : LG sl xs G) (sb : SB sl xs i a1 a2 a3 a4 a5) (q : JP c h b t ms) (hx : x ≤ 600) (kk : ∀ x' c' h' b' t' ms', x' ≤ x + 1 → JP c' h' b' t' ms' → G x' 866 [some (.ref 1000000300), some (.ref 0), some (.ref 201), some (.ref 219), some (.int i)] [] h') : G x 261 [some (.ref 1000000300), some (.ref 0), some (.ref 201), some (.ref 219), some (.int i)] [] h := by
  by_cases ha : a2 = 0
  · exact lw_3_f hN g sb q hx ha kk
  · exact lw_3_t hN g sb q hx ha kk
set_option maxRecDepth 100000 in
theorem lw_4 {sl N x : Nat} {xs : Nat → Int32} {G : Nat → Nat → List (Option Value) → List Value → am_H → Prop} {i a1 a2 a3 a4 a5 : Int32} {c : hS} {h : am_H} {b t : List Nat} {ms : List Mb} (hN : 1000000 ≤ N) (g : LG sl xs G) (sb : SB sl xs i a1 a2 a3 a4 a5) (q : JP c h b t ms) (hx : x ≤ 600) (kk : ∀ x' c' h' b' t' ms', x' ≤ x + 1 → JP c' h' b' t' ms' → G x' 866 [some (.ref 1000000300), some (.ref 0), some (.ref 201), some (.ref 219), some (.int i)] [] h') : G x 317 [some (.ref 1000000300), some (.ref 0), some (.ref 201), some (.ref 219), some (.int i)] [] h := by
  refine g.many (pc' := 323) (L' := [some (.ref 1000000300), some (.ref 0), some (.ref 201), some (.ref 219), some (.int i)]) (st' := [.int (i + 1), .ref 1000000300, .ref 0]) 5 rfl ?_
  refine g.ld rfl sb.e1 ?_
  refine g.many (pc' := 325) (L' := [some (.ref 1000000300), some (.ref 0), some (.ref 201), some (.ref 219), some (.int i)]) (st' := [.ref 219, .int a1, .ref 0]) 1 rfl ?_
  obtain ⟨h1, c1, e1, k1, k2, k3, k4, k5⟩ := H_go hN q a1
  have le1 := k1.2.2
  refine g.call (av := [.ref 0, .int a1, .ref 219]) (r := []) lx_e_go sx_m_L_go rfl rfl rfl rfl (by decide) k1 k2.1 (by omega) ?_
  refine g.many (pc' := 336) (L' := [some (.ref 1000000300), some (.ref 0), some (.ref 201), some (.ref 219), some (.int i), some (.int (nI (goK ms a1)))]) (st' := [.int (i + 1), .ref 1000000300, .ref 201]) 6 rfl ?_
  refine g.ld rfl sb.e1 ?_
  obtain ⟨v2, c2, h2, t1, q2, t2, t3, t4⟩ := rf_call k2 k3 (MN_g (m_go hN k4)) (ok_X12_go (em_M c1) N c1 a1)
  refine g.callV (idx := 98) (o := 201) (ci := 11) (np := 1) (kd := 0) (As := [.int a1]) (rest := []) rfl rfl rfl rfl k2.1 (by decide) (k2.2.2 201 (by decide)).2.1 rfl mt_X12_go rfl t1 q2.1.1 ?_
  refine g.many (pc' := 866) (L' := [some (.ref 1000000300), some (.ref 0), some (.ref 201), some (.ref 219), some (.int i), some (.int (nI (goK ms a1))), some (.int v2)]) (st' := []) 2 rfl ?_
  refine g.weak (m := [true, true, true, true, true]) rfl ?_
  exact kk _ _ _ _ _ _ (by omega) q2
set_option maxRecDepth 100000 in
theorem lw_5 {sl N x : Nat} {xs : Nat → Int32} {G : Nat → Nat → List (Option Value) → List Value → am_H → Prop} {i a1 a2 a3 a4 a5 : Int32} {c : hS} {h : am_H} {b t : List Nat} {ms : List Mb} (hN : 1000000 ≤ N) (g : LG sl xs G) (sb : SB sl xs i a1 a2 a3 a4 a5) (q : JP c h b t ms) (hx : x ≤ 600) (kk : ∀ x' c' h' b' t' ms', x' ≤ x + 1 → JP c' h' b' t' ms' → G x' 866 [some (.ref 1000000300), some (.ref 0), some (.ref 201), some (.ref 219), some (.int i)] [] h') : G x 345 [some (.ref 1000000300), some (.ref 0), some (.ref 201), some (.ref 219), some (.int i)] [] h := by
  refine g.many (pc' := 351) (L' := [some (.ref 1000000300), some (.ref 0), some (.ref 201), some (.ref 219), some (.int i)]) (st' := [.int (i + 1), .ref 1000000300, .ref 0]) 5 rfl ?_
  refine g.ld rfl sb.e1 ?_
  refine g.many (pc' := 357) (L' := [some (.ref 1000000300), some (.ref 0), some (.ref 201), some (.ref 219), some (.int i)]) (st' := [.int (i + 2), .ref 1000000300, .int a1, .ref 0]) 4 rfl ?_
  refine g.ld rfl sb.e2 ?_
  refine g.many (pc' := 359) (L' := [some (.ref 1000000300), some (.ref 0), some (.ref 201), some (.ref 219), some (.int i)]) (st' := [.ref 219, .int a2, .int a1, .ref 0]) 1 rfl ?_
  obtain ⟨h1, c1, e1, k1, k2, k3, k4, k5⟩ := H_name hN q a1 a2
  have le1 := k1.2.2
  refine g.call (av := [.ref 0, .int a1, .int a2, .ref 219]) (r := []) lx_e_name sx_m_L_name rfl rfl rfl rfl (by decide) k1 k2.1 (by omega) ?_
  refine g.many (pc' := 370) (L' := [some (.ref 1000000300), some (.ref 0), some (.ref 201), some (.ref 219), some (.int i), some (.int (nI (naK ms a1 a2)))]) (st' := [.int (i + 1), .ref 1000000300, .ref 201]) 6 rfl ?_
  refine g.ld rfl sb.e1 ?_
  refine g.many (pc' := 376) (L' := [some (.ref 1000000300), some (.ref 0), some (.ref 201), some (.ref 219), some (.int i), some (.int (nI (naK ms a1 a2)))]) (st' := [.int (i + 2), .ref 1000000300, .int a1, .ref 201]) 4 rfl ?_
  refine g.ld rfl sb.e2 ?_
  obtain ⟨v2, c2, h2, t1, q2, t2, t3, t4⟩ := rf_call k2 k3 (MN_g (m_name k4)) (ok_X12_name (em_M c1) c1 a1 a2)
  refine g.callV (idx := 102) (o := 201) (ci := 11) (np := 2) (kd := 0) (As := [.int a1, .int a2]) (rest := []) rfl rfl rfl rfl k2.1 (by decide) (k2.2.2 201 (by decide)).2.1 rfl mt_X12_name rfl t1 q2.1.1 ?_
  refine g.many (pc' := 866) (L' := [some (.ref 1000000300), some (.ref 0), some (.ref 201), some (.ref 219), some (.int i), some (.int (nI (naK ms a1 a2))), some (.int v2)]) (st' := []) 2 rfl ?_
  refine g.weak (m := [true, true, true, true, true]) rfl ?_
  exact kk _ _ _ _ _ _ (by omega) q2
set_option maxRecDepth 100000 in
theorem lw_6 {sl N x : Nat} {xs : Nat → Int32} {G : Nat → Nat → List (Option Value) → List Value → am_H → Prop} {i a1 a2 a3 a4 a5 : Int32} {c : hS} {h : am_H} {b t : List Nat} {ms : List Mb} (hN : 1000000 ≤ N) (g : LG sl xs G) (sb : SB sl xs i a1 a2 a3 a4 a5) (q : JP c h b t ms) (hx : x ≤ 600) (kk : ∀ x' c' h' b' t' ms', x' ≤ x + 1 → JP c' h' b' t' ms' → G x' 866 [some (.ref 1000000300), some (.ref 0), some (.ref 201), some (.ref 219), some (.int i)] [] h') : G x 385 [some (.ref 1000000300), some (.ref 0), some (.ref 201), some (.ref 219), some (.int i)] [] h := by
  refine g.many (pc' := 391) (L' := [some (.ref 1000000300), some (.ref 0), some (.ref 201), some (.ref 219), some (.int i)]) (st' := [.int (i + 1), .ref 1000000300, .ref 0]) 5 rfl ?_
  refine g.ld rfl sb.e1 ?_
  refine g.many (pc' := 397) (L' := [some (.ref 1000000300), some (.ref 0), some (.ref 201), some (.ref 219), some (.int i)]) (st' := [.int (i + 2), .ref 1000000300, .int a1, .ref 0]) 4 rfl ?_
  refine g.ld rfl sb.e2 ?_
  refine g.many (pc' := 399) (L' := [some (.ref 1000000300), some (.ref 0), some (.ref 201), some (.ref 219), some (.int i)]) (st' := [.ref 219, .int a2, .int a1, .ref 0]) 1 rfl ?_
  obtain ⟨h1, c1, e1, k1, k2, k3, k4, k5⟩ := H_byteAt hN q a1 a2
  have le1 := k1.2.2
  refine g.call (av := [.ref 0, .int a1, .int a2, .ref 219]) (r := []) lx_e_byteAt sx_m_L_byteAt rfl rfl rfl rfl (by decide) k1 k2.1 (by omega) ?_
  refine g.many (pc' := 410) (L' := [some (.ref 1000000300), some (.ref 0), some (.ref 201), some (.ref 219), some (.int i), some (.int (nI (byK ms a1 a2)))]) (st' := [.int (i + 1), .ref 1000000300, .ref 201]) 6 rfl ?_
  refine g.ld rfl sb.e1 ?_
  refine g.many (pc' := 416) (L' := [some (.ref 1000000300), some (.ref 0), some (.ref 201), some (.ref 219), some (.int i), some (.int (nI (byK ms a1 a2)))]) (st' := [.int (i + 2), .ref 1000000300, .int a1, .ref 201]) 4 rfl ?_
  refine g.ld rfl sb.e2 ?_
  obtain ⟨v2, c2, h2, t1, q2, t2, t3, t4⟩ := rf_call k2 k3 (MN_g (m_byteAt k4)) (ok_X12_byteAt (em_M c1) c1 a1 a2)
  refine g.callV (idx := 105) (o := 201) (ci := 11) (np := 2) (kd := 0) (As := [.int a1, .int a2]) (rest := []) rfl rfl rfl rfl k2.1 (by decide) (k2.2.2 201 (by decide)).2.1 rfl mt_X12_byteAt rfl t1 q2.1.1 ?_
  refine g.many (pc' := 866) (L' := [some (.ref 1000000300), some (.ref 0), some (.ref 201), some (.ref 219), some (.int i), some (.int (nI (byK ms a1 a2))), some (.int v2)]) (st' := []) 2 rfl ?_
  refine g.weak (m := [true, true, true, true, true]) rfl ?_
  exact kk _ _ _ _ _ _ (by omega) q2
set_option maxRecDepth 100000 in
theorem lw_7 {sl N x : Nat} {xs : Nat → Int32} {G : Nat → Nat → List (Option Value) → List Value → am_H → Prop} {i a1 a2 a3 a4 a5 : Int32} {c : hS} {h : am_H} {b t : List Nat} {ms : List Mb} (hN : 1000000 ≤ N) (g : LG sl xs G) (sb : SB sl xs i a1 a2 a3 a4 a5) (q : JP c h b t ms) (hx : x ≤ 600) (kk : ∀ x' c' h' b' t' ms', x' ≤ x + 1 → JP c' h' b' t' ms' → G x' 866 [some (.ref 1000000300), some (.ref 0), some (.ref 201), some (.ref 219), some (.int i)] [] h') : G x 425 [some (.ref 1000000300), some (.ref 0), some (.ref 201), some (.ref 219), some (.int i)] [] h := by
  refine g.many (pc' := 426) (L' := [some (.ref 1000000300), some (.ref 0), some (.ref 201), some (.ref 219), some (.int i)]) (st' := [.ref 0]) 1 rfl ?_
  obtain ⟨h1, c1, k1, k2, k3, k4⟩ := cl_call q (c_kind hN q.2.1) q.2.1 (ok_X11_kind (em_C c) N c)
  refine g.callV (idx := 106) (o := 0) (ci := 10) (np := 0) (kd := 0) (As := []) (rest := []) rfl rfl rfl rfl q.1.1 (by decide) (q.1.2.1 0 (by decide)).2.1 rfl mt_X11_kind rfl k1 k2.1 ?_
  refine g.many (pc' := 431) (L' := [some (.ref 1000000300), some (.ref 0), some (.ref 201), some (.ref 219), some (.int i)]) (st' := [.ref 201]) 2 rfl ?_
  obtain ⟨v2, c2, h2, t1, q2, t2, t3, t4⟩ := rf_call k2 k3 (MN_g (m_kind hN k4)) (ok_X12_kind (em_M c1) N c1)
  refine g.callV (idx := 110) (o := 201) (ci := 11) (np := 0) (kd := 0) (As := []) (rest := []) rfl rfl rfl rfl k2.1 (by decide) (k2.2.2 201 (by decide)).2.1 rfl mt_X12_kind rfl t1 q2.1.1 ?_
  refine g.many (pc' := 866) (L' := [some (.ref 1000000300), some (.ref 0), some (.ref 201), some (.ref 219), some (.int i)]) (st' := []) 2 rfl ?_
  refine g.weak (m := [true, true, true, true, true]) rfl ?_
  exact kk _ _ _ _ _ _ (by omega) q2
set_option maxRecDepth 100000 in
theorem lw_8 {sl N x : Nat} {xs : Nat → Int32} {G : Nat → Nat → List (Option Value) → List Value → am_H → Prop} {i a1 a2 a3 a4 a5 : Int32} {c : hS} {h : am_H} {b t : List Nat} {ms : List Mb} (hN : 1000000 ≤ N) (g : LG sl xs G) (sb : SB sl xs i a1 a2 a3 a4 a5) (q : JP c h b t ms) (hx : x ≤ 600) (kk : ∀ x' c' h' b' t' ms', x' ≤ x + 1 → JP c' h' b' t' ms' → G x' 866 [some (.ref 1000000300), some (.ref 0), some (.ref 201), some (.ref 219), some (.int i)] [] h') : G x 438 [some (.ref 1000000300), some (.ref 0), some (.ref 201), some (.ref 219), some (.int i)] [] h := by
  refine g.many (pc' := 444) (L' := [some (.ref 1000000300), some (.ref 0), some (.ref 201), some (.ref 219), some (.int i)]) (st' := [.int (i + 1), .ref 1000000300, .ref 0]) 5 rfl ?_
  refine g.ld rfl sb.e1 ?_
  refine g.many (pc' := 450) (L' := [some (.ref 1000000300), some (.ref 0), some (.ref 201), some (.ref 219), some (.int i)]) (st' := [.int (i + 2), .ref 1000000300, .int a1, .ref 0]) 4 rfl ?_
  refine g.ld rfl sb.e2 ?_
  refine g.many (pc' := 452) (L' := [some (.ref 1000000300), some (.ref 0), some (.ref 201), some (.ref 219), some (.int i)]) (st' := [.ref 219, .int a2, .int a1, .ref 0]) 1 rfl ?_
  obtain ⟨h1, c1, e1, k1, k2, k3, k4, k5⟩ := H_child hN q a1 a2
  have le1 := k1.2.2
  refine g.call (av := [.ref 0, .int a1, .int a2, .ref 219]) (r := []) lx_e_child sx_m_L_child rfl rfl rfl rfl (by decide) k1 k2.1 (by omega) ?_
  refine g.many (pc' := 463) (L' := [some (.ref 1000000300), some (.ref 0), some (.ref 201), some (.ref 219), some (.int i), some (.int (nI (chK b ms a1 a2)))]) (st' := [.int (i + 1), .ref 1000000300, .ref 201]) 6 rfl ?_
  refine g.ld rfl sb.e1 ?_
  refine g.many (pc' := 469) (L' := [some (.ref 1000000300), some (.ref 0), some (.ref 201), some (.ref 219), some (.int i), some (.int (nI (chK b ms a1 a2)))]) (st' := [.int (i + 2), .ref 1000000300, .int a1, .ref 201]) 4 rfl ?_
  refine g.ld rfl sb.e2 ?_
  obtain ⟨v2, c2, h2, t1, q2, t2, t3, t4⟩ := rf_call k2 k3 (MN_g (m_child hN k4)) (ok_X12_child (em_M c1) N c1 a1 a2)
  refine g.callV (idx := 113) (o := 201) (ci := 11) (np := 2) (kd := 0) (As := [.int a1, .int a2]) (rest := []) rfl rfl rfl rfl k2.1 (by decide) (k2.2.2 201 (by decide)).2.1 rfl mt_X12_child rfl t1 q2.1.1 ?_
  refine g.many (pc' := 866) (L' := [some (.ref 1000000300), some (.ref 0), some (.ref 201), some (.ref 219), some (.int i), some (.int (nI (chK b ms a1 a2))), some (.int v2)]) (st' := []) 2 rfl ?_
  refine g.weak (m := [true, true, true, true, true]) rfl ?_
  exact kk _ _ _ _ _ _ (by omega) q2
set_option maxRecDepth 100000 in
theorem lw_9_f {sl N x : Nat} {xs : Nat → Int32} {G : Nat → Nat → List (Option Value) → List Value → am_H → Prop} {i a1 a2 a3 a4 a5 : Int32} {c : hS} {h : am_H} {b t : List Nat} {ms : List Mb} (hN : 1000000 ≤ N) (g : LG sl xs G) (sb : SB sl xs i a1 a2 a3 a4 a5) (q : JP c h b t ms) (hx : x ≤ 600) (ha : a2 = 0) (kk : ∀ x' c' h' b' t' ms', x' ≤ x + 1 → JP c' h' b' t' ms' → G x' 866 [some (.ref 1000000300), some (.ref 0), some (.ref 201), some (.ref 219), some (.int i)] [] h') : G x 478 [some (.ref 1000000300), some (.ref 0), some (.ref 201), some (.ref 219), some (.int i)] [] h := by
  refine g.many (pc' := 484) (L' := [some (.ref 1000000300), some (.ref 0), some (.ref 201), some (.ref 219), some (.int i)]) (st' := [.int (i + 1), .ref 1000000300, .ref 0]) 5 rfl ?_
  refine g.ld rfl sb.e1 ?_
  refine g.many (pc' := 490) (L' := [some (.ref 1000000300), some (.ref 0), some (.ref 201), some (.ref 219), some (.int i)]) (st' := [.int (i + 2), .ref 1000000300, .int a1, .ref 0]) 4 rfl ?_
  refine g.ld rfl sb.e2 ?_
  refine g.many (pc' := (bif am_cc .eq a2 0 then 498 else 494)) (L' := [some (.ref 1000000300), some (.ref 0), some (.ref 201), some (.ref 219), some (.int i)]) (st' := [.int a1, .ref 0]) 1 rfl ?_
  rw [show am_cc .eq a2 0 = true from decide_eq_true ha, cond_true]
  refine g.many (pc' := 500) (L' := [some (.ref 1000000300), some (.ref 0), some (.ref 201), some (.ref 219), some (.int i)]) (st' := [.ref 219, .int 0, .int a1, .ref 0]) 2 rfl ?_
  obtain ⟨h1, c1, e1, k1, k2, k3, k4, k5⟩ := H_write hN q a1 false
  have le1 := k1.2.2
  refine g.call (av := [.ref 0, .int a1, .int 0, .ref 219]) (r := []) lx_e_write sx_m_L_write rfl rfl rfl rfl (by decide) k1 k2.1 (by omega) ?_
  refine g.many (pc' := 511) (L' := [some (.ref 1000000300), some (.ref 0), some (.ref 201), some (.ref 219), some (.int i), some (.int (nI (wrK a1)))]) (st' := [.int (i + 1), .ref 1000000300, .ref 201]) 6 rfl ?_
  refine g.ld rfl sb.e1 ?_
  refine g.many (pc' := 517) (L' := [some (.ref 1000000300), some (.ref 0), some (.ref 201), some (.ref 219), some (.int i), some (.int (nI (wrK a1)))]) (st' := [.int (i + 2), .ref 1000000300, .int a1, .ref 201]) 4 rfl ?_
  refine g.ld rfl sb.e2 ?_
  refine g.many (pc' := (bif am_cc .eq a2 0 then 525 else 521)) (L' := [some (.ref 1000000300), some (.ref 0), some (.ref 201), some (.ref 219), some (.int i), some (.int (nI (wrK a1)))]) (st' := [.int a1, .ref 201]) 1 rfl ?_
  rw [show am_cc .eq a2 0 = true from decide_eq_true ha, cond_true]
  refine g.many (pc' := 526) (L' := [some (.ref 1000000300), some (.ref 0), some (.ref 201), some (.ref 219), some (.int i), some (.int (nI (wrK a1)))]) (st' := [.int 0, .int a1, .ref 201]) 1 rfl ?_
  obtain ⟨v2, c2, h2, t1, q2, t2, t3, t4⟩ := rf_call k2 k3 (MN_g (m_write hN k4)) (ok_X12_write (em_M c1) N c1 a1 (bI false))
  refine g.callV (idx := 116) (o := 201) (ci := 11) (np := 2) (kd := 0) (As := [.int a1, .int 0]) (rest := []) rfl rfl rfl rfl k2.1 (by decide) (k2.2.2 201 (by decide)).2.1 rfl mt_X12_write rfl t1 q2.1.1 ?_
  refine g.many (pc' := 866) (L' := [some (.ref 1000000300), some (.ref 0), some (.ref 201), some (.ref 219), some (.int i), some (.int (nI (wrK a1))), some (.int v2)]) (st' := []) 2 rfl ?_
  refine g.weak (m := [true, true, true, true, true]) rfl ?_
  exact kk _ _ _ _ _ _ (by omega) q2
