/-! THE LAW'S CASES; printed by wip/whole/gen_law.py -/
set_option maxRecDepth 100000 in
theorem lw_9_t {sl N x : Nat} {xs : Nat → Int32} {G : Nat → Nat → List (Option Value) → List Value → am_H → Prop} {i a1 a2 a3 a4 a5 : Int32} {c : hS} {h : am_H} {b t : List Nat} {ms : List Mb} (hN : 1000000 ≤ N) (g : LG sl xs G) (sb : SB sl xs i a1 a2 a3 a4 a5) (q : JP c h b t ms) (hx : x ≤ 600) (ha : ¬ a2 = 0) (kk : ∀ x' c' h' b' t' ms', x' ≤ x + 1 → JP c' h' b' t' ms' → G x' 866 [some (.ref 1000000300), some (.ref 0), some (.ref 201), some (.ref 219), some (.int i)] [] h') : G x 478 [some (.ref 1000000300), some (.ref 0), some (.ref 201), some (.ref 219), some (.int i)] [] h := by
  refine g.many (pc' := 484) (L' := [some (.ref 1000000300), some (.ref 0), some (.ref 201), some (.ref 219), some (.int i)]) (st' := [.int (i + 1), .ref 1000000300, .ref 0]) 5 rfl ?_
  refine g.ld rfl sb.e1 ?_
  refine g.many (pc' := 490) (L' := [some (.ref 1000000300), some (.ref 0), some (.ref 201), some (.ref 219), some (.int i)]) (st' := [.int (i + 2), .ref 1000000300, .int a1, .ref 0]) 4 rfl ?_
  refine g.ld rfl sb.e2 ?_
  refine g.many (pc' := (bif am_cc .eq a2 0 then 498 else 494)) (L' := [some (.ref 1000000300), some (.ref 0), some (.ref 201), some (.ref 219), some (.int i)]) (st' := [.int a1, .ref 0]) 1 rfl ?_
  rw [show am_cc .eq a2 0 = false from decide_eq_false ha, cond_false]
  refine g.many (pc' := 500) (L' := [some (.ref 1000000300), some (.ref 0), some (.ref 201), some (.ref 219), some (.int i)]) (st' := [.ref 219, .int 1, .int a1, .ref 0]) 3 rfl ?_
  obtain ⟨h1, c1, e1, k1, k2, k3, k4, k5⟩ := H_write hN q a1 true
  have le1 := k1.2.2
  refine g.call (av := [.ref 0, .int a1, .int 1, .ref 219]) (r := []) lx_e_write sx_m_L_write rfl rfl rfl rfl (by decide) k1 k2.1 (by omega) ?_
  refine g.many (pc' := 511) (L' := [some (.ref 1000000300), some (.ref 0), some (.ref 201), some (.ref 219), some (.int i), some (.int (nI (wrK a1)))]) (st' := [.int (i + 1), .ref 1000000300, .ref 201]) 6 rfl ?_
  refine g.ld rfl sb.e1 ?_
  refine g.many (pc' := 517) (L' := [some (.ref 1000000300), some (.ref 0), some (.ref 201), some (.ref 219), some (.int i), some (.int (nI (wrK a1)))]) (st' := [.int (i + 2), .ref 1000000300, .int a1, .ref 201]) 4 rfl ?_
  refine g.ld rfl sb.e2 ?_
  refine g.many (pc' := (bif am_cc .eq a2 0 then 525 else 521)) (L' := [some (.ref 1000000300), some (.ref 0), some (.ref 201), some (.ref 219), some (.int i), some (.int (nI (wrK a1)))]) (st' := [.int a1, .ref 201]) 1 rfl ?_
  rw [show am_cc .eq a2 0 = false from decide_eq_false ha, cond_false]
  refine g.many (pc' := 526) (L' := [some (.ref 1000000300), some (.ref 0), some (.ref 201), some (.ref 219), some (.int i), some (.int (nI (wrK a1)))]) (st' := [.int 1, .int a1, .ref 201]) 2 rfl ?_
  obtain ⟨v2, c2, h2, t1, q2, t2, t3, t4⟩ := rf_call k2 k3 (MN_g (m_write hN k4)) (ok_X12_write (em_M c1) N c1 a1 (bI true))
  refine g.callV (idx := 116) (o := 201) (ci := 11) (np := 2) (kd := 0) (As := [.int a1, .int 1]) (rest := []) rfl rfl rfl rfl k2.1 (by decide) (k2.2.2 201 (by decide)).2.1 rfl mt_X12_write rfl t1 q2.1.1 ?_
  refine g.many (pc' := 866) (L' := [some (.ref 1000000300), some (.ref 0), some (.ref 201), some (.ref 219), some (.int i), some (.int (nI (wrK a1))), some (.int v2)]) (st' := []) 2 rfl ?_
  refine g.weak (m := [true, true, true, true, true]) rfl ?_
  exact kk _ _ _ _ _ _ (by omega) q2
set_option maxRecDepth 100000 in
theorem lw_9 {sl N x : Nat} {xs : Nat → Int32} {G : Nat → Nat → List (Option Value) → List Value → am_H → Prop} {i a1 a2 a3 a4 a5 : Int32} {c : hS} {h : am_H} {b t : List Nat} {ms : List Mb} (hN : 1000000 ≤ N) (g : LG sl xs G) (sb : SB sl xs i a1 a2 a3 a4 a5) (q : JP c h b t ms) (hx : x ≤ 600) (kk : ∀ x' c' h' b' t' ms', x' ≤ x + 1 → JP c' h' b' t' ms' → G x' 866 [some (.ref 1000000300), some (.ref 0), some (.ref 201), some (.ref 219), some (.int i)] [] h') : G x 478 [some (.ref 1000000300), some (.ref 0), some (.ref 201), some (.ref 219), some (.int i)] [] h := by
  by_cases ha : a2 = 0
  · exact lw_9_f hN g sb q hx ha kk
  · exact lw_9_t hN g sb q hx ha kk
set_option maxRecDepth 100000 in
theorem lw_10 {sl N x : Nat} {xs : Nat → Int32} {G : Nat → Nat → List (Option Value) → List Value → am_H → Prop} {i a1 a2 a3 a4 a5 : Int32} {c : hS} {h : am_H} {b t : List Nat} {ms : List Mb} (hN : 1000000 ≤ N) (g : LG sl xs G) (sb : SB sl xs i a1 a2 a3 a4 a5) (q : JP c h b t ms) (hx : x ≤ 600) (kk : ∀ x' c' h' b' t' ms', x' ≤ x + 1 → JP c' h' b' t' ms' → G x' 866 [some (.ref 1000000300), some (.ref 0), some (.ref 201), some (.ref 219), some (.int i)] [] h') : G x 534 [some (.ref 1000000300), some (.ref 0), some (.ref 201), some (.ref 219), some (.int i)] [] h := by
  refine g.many (pc' := 540) (L' := [some (.ref 1000000300), some (.ref 0), some (.ref 201), some (.ref 219), some (.int i)]) (st' := [.int (i + 1), .ref 1000000300, .ref 0]) 5 rfl ?_
  refine g.ld rfl sb.e1 ?_
  refine g.many (pc' := 542) (L' := [some (.ref 1000000300), some (.ref 0), some (.ref 201), some (.ref 219), some (.int i)]) (st' := [.ref 219, .int a1, .ref 0]) 1 rfl ?_
  obtain ⟨h1, c1, e1, k1, k2, k3, k4, k5⟩ := H_read hN q a1
  have le1 := k1.2.2
  refine g.call (av := [.ref 0, .int a1, .ref 219]) (r := []) lx_e_read sx_m_L_read rfl rfl rfl rfl (by decide) k1 k2.1 (by omega) ?_
  refine g.many (pc' := 553) (L' := [some (.ref 1000000300), some (.ref 0), some (.ref 201), some (.ref 219), some (.int i), some (.int (nI (wrK a1)))]) (st' := [.int (i + 1), .ref 1000000300, .ref 201]) 6 rfl ?_
  refine g.ld rfl sb.e1 ?_
  obtain ⟨v2, c2, h2, t1, q2, t2, t3, t4⟩ := rf_call k2 k3 (m_read hN k4) (ok_X12_read (em_M c1) N c1 a1)
  refine g.callV (idx := 119) (o := 201) (ci := 11) (np := 1) (kd := 0) (As := [.int a1]) (rest := []) rfl rfl rfl rfl k2.1 (by decide) (k2.2.2 201 (by decide)).2.1 rfl mt_X12_read rfl t1 q2.1.1 ?_
  refine g.many (pc' := 866) (L' := [some (.ref 1000000300), some (.ref 0), some (.ref 201), some (.ref 219), some (.int i), some (.int (nI (wrK a1))), some (.int v2)]) (st' := []) 2 rfl ?_
  refine g.weak (m := [true, true, true, true, true]) rfl ?_
  exact kk _ _ _ _ _ _ (by omega) q2
set_option maxRecDepth 100000 in
theorem lw_11 {sl N x : Nat} {xs : Nat → Int32} {G : Nat → Nat → List (Option Value) → List Value → am_H → Prop} {i a1 a2 a3 a4 a5 : Int32} {c : hS} {h : am_H} {b t : List Nat} {ms : List Mb} (hN : 1000000 ≤ N) (g : LG sl xs G) (sb : SB sl xs i a1 a2 a3 a4 a5) (q : JP c h b t ms) (hx : x ≤ 600) (kk : ∀ x' c' h' b' t' ms', x' ≤ x + 1 → JP c' h' b' t' ms' → G x' 866 [some (.ref 1000000300), some (.ref 0), some (.ref 201), some (.ref 219), some (.int i)] [] h') : G x 562 [some (.ref 1000000300), some (.ref 0), some (.ref 201), some (.ref 219), some (.int i)] [] h := by
  refine g.many (pc' := 568) (L' := [some (.ref 1000000300), some (.ref 0), some (.ref 201), some (.ref 219), some (.int i)]) (st' := [.int (i + 1), .ref 1000000300, .ref 0]) 5 rfl ?_
  refine g.ld rfl sb.e1 ?_
  refine g.many (pc' := 570) (L' := [some (.ref 1000000300), some (.ref 0), some (.ref 201), some (.ref 219), some (.int i)]) (st' := [.ref 219, .int a1, .ref 0]) 1 rfl ?_
  obtain ⟨V, h1, c1, e1, k1, k2, k3, k4, k5⟩ := H_fault hN q a1
  have le1 := k1.2.2
  refine g.call (av := [.ref 0, .int a1, .ref 219]) (r := []) lx_e_fault sx_m_L_fault rfl rfl rfl rfl (by decide) k1 k2.1 (by omega) ?_
  refine g.many (pc' := 581) (L' := [some (.ref 1000000300), some (.ref 0), some (.ref 201), some (.ref 219), some (.int i), some (.int (nI (faK a1)))]) (st' := [.int (i + 1), .ref 1000000300, .ref 201]) 6 rfl ?_
  refine g.ld rfl sb.e1 ?_
  obtain ⟨v2, c2, h2, t1, q2⟩ := rf_callF k2 k3 (m_fault k4) (ok_X12_fault (em_M c1) c1 a1)
  refine g.callV (idx := 122) (o := 201) (ci := 11) (np := 1) (kd := 0) (As := [.int a1]) (rest := []) rfl rfl rfl rfl k2.1 (by decide) (k2.2.2 201 (by decide)).2.1 rfl mt_X12_fault rfl t1 q2.1.1 ?_
  refine g.many (pc' := 866) (L' := [some (.ref 1000000300), some (.ref 0), some (.ref 201), some (.ref 219), some (.int i), some (.int (nI (faK a1))), some (.int v2)]) (st' := []) 2 rfl ?_
  refine g.weak (m := [true, true, true, true, true]) rfl ?_
  exact kk _ _ _ _ _ _ (by omega) q2
set_option maxRecDepth 100000 in
theorem lw_12 {sl N x : Nat} {xs : Nat → Int32} {G : Nat → Nat → List (Option Value) → List Value → am_H → Prop} {i a1 a2 a3 a4 a5 : Int32} {c : hS} {h : am_H} {b t : List Nat} {ms : List Mb} (hN : 1000000 ≤ N) (g : LG sl xs G) (sb : SB sl xs i a1 a2 a3 a4 a5) (q : JP c h b t ms) (hx : x ≤ 600) (kk : ∀ x' c' h' b' t' ms', x' ≤ x + 1 → JP c' h' b' t' ms' → G x' 866 [some (.ref 1000000300), some (.ref 0), some (.ref 201), some (.ref 219), some (.int i)] [] h') : G x 590 [some (.ref 1000000300), some (.ref 0), some (.ref 201), some (.ref 219), some (.int i)] [] h := by
  refine g.many (pc' := 591) (L' := [some (.ref 1000000300), some (.ref 0), some (.ref 201), some (.ref 219), some (.int i)]) (st' := [.ref 0]) 1 rfl ?_
  obtain ⟨cc, w1, w2⟩ := c_pack hN q.2.1
  obtain ⟨h1, c1, k1, k2, k3, k4⟩ := cl_call q w1 w2 (ok_X11_pack (em_C c) N c)
  refine g.callV (idx := 123) (o := 0) (ci := 10) (np := 0) (kd := 0) (As := []) (rest := []) rfl rfl rfl rfl q.1.1 (by decide) (q.1.2.1 0 (by decide)).2.1 rfl mt_X11_pack rfl k1 k2.1 ?_
  refine g.many (pc' := 596) (L' := [some (.ref 1000000300), some (.ref 0), some (.ref 201), some (.ref 219), some (.int i)]) (st' := [.ref 201]) 2 rfl ?_
  obtain ⟨v2, c2, h2, t1, q2, t2, t3, t4⟩ := rf_call k2 k3 (MN_g (m_pack hN k4)) (ok_X12_pack (em_M c1) N c1)
  refine g.callV (idx := 126) (o := 201) (ci := 11) (np := 0) (kd := 0) (As := []) (rest := []) rfl rfl rfl rfl k2.1 (by decide) (k2.2.2 201 (by decide)).2.1 rfl mt_X12_pack rfl t1 q2.1.1 ?_
  refine g.many (pc' := 866) (L' := [some (.ref 1000000300), some (.ref 0), some (.ref 201), some (.ref 219), some (.int i)]) (st' := []) 2 rfl ?_
  refine g.weak (m := [true, true, true, true, true]) rfl ?_
  exact kk _ _ _ _ _ _ (by omega) q2
set_option maxRecDepth 100000 in
theorem lw_13 {sl N x : Nat} {xs : Nat → Int32} {G : Nat → Nat → List (Option Value) → List Value → am_H → Prop} {i a1 a2 a3 a4 a5 : Int32} {c : hS} {h : am_H} {b t : List Nat} {ms : List Mb} (hN : 1000000 ≤ N) (g : LG sl xs G) (sb : SB sl xs i a1 a2 a3 a4 a5) (q : JP c h b t ms) (hx : x ≤ 600) (kk : ∀ x' c' h' b' t' ms', x' ≤ x + 1 → JP c' h' b' t' ms' → G x' 866 [some (.ref 1000000300), some (.ref 0), some (.ref 201), some (.ref 219), some (.int i)] [] h') : G x 603 [some (.ref 1000000300), some (.ref 0), some (.ref 201), some (.ref 219), some (.int i)] [] h := by
  refine g.many (pc' := 604) (L' := [some (.ref 1000000300), some (.ref 0), some (.ref 201), some (.ref 219), some (.int i)]) (st' := [.ref 0]) 1 rfl ?_
  obtain ⟨cc, w1, w2⟩ := c_unpack hN q.2.1
  obtain ⟨h1, c1, k1, k2, k3, k4⟩ := cl_call q w1 w2 (ok_X11_unpack (em_C c) N c)
  refine g.callV (idx := 127) (o := 0) (ci := 10) (np := 0) (kd := 0) (As := []) (rest := []) rfl rfl rfl rfl q.1.1 (by decide) (q.1.2.1 0 (by decide)).2.1 rfl mt_X11_unpack rfl k1 k2.1 ?_
  refine g.many (pc' := 609) (L' := [some (.ref 1000000300), some (.ref 0), some (.ref 201), some (.ref 219), some (.int i)]) (st' := [.ref 201]) 2 rfl ?_
  obtain ⟨v2, c2, h2, t1, q2, t2, t3, t4⟩ := rf_call k2 k3 (MN_g (m_unpack hN k4)) (ok_X12_unpack (em_M c1) N c1)
  refine g.callV (idx := 130) (o := 201) (ci := 11) (np := 0) (kd := 0) (As := []) (rest := []) rfl rfl rfl rfl k2.1 (by decide) (k2.2.2 201 (by decide)).2.1 rfl mt_X12_unpack rfl t1 q2.1.1 ?_
  refine g.many (pc' := 866) (L' := [some (.ref 1000000300), some (.ref 0), some (.ref 201), some (.ref 219), some (.int i)]) (st' := []) 2 rfl ?_
  refine g.weak (m := [true, true, true, true, true]) rfl ?_
  exact kk _ _ _ _ _ _ (by omega) q2
set_option maxRecDepth 100000 in
theorem lw_14 {sl N x : Nat} {xs : Nat → Int32} {G : Nat → Nat → List (Option Value) → List Value → am_H → Prop} {i a1 a2 a3 a4 a5 : Int32} {c : hS} {h : am_H} {b t : List Nat} {ms : List Mb} (hN : 1000000 ≤ N) (g : LG sl xs G) (sb : SB sl xs i a1 a2 a3 a4 a5) (q : JP c h b t ms) (hx : x ≤ 600) (kk : ∀ x' c' h' b' t' ms', x' ≤ x + 1 → JP c' h' b' t' ms' → G x' 866 [some (.ref 1000000300), some (.ref 0), some (.ref 201), some (.ref 219), some (.int i)] [] h') : G x 616 [some (.ref 1000000300), some (.ref 0), some (.ref 201), some (.ref 219), some (.int i)] [] h := by
  refine g.many (pc' := 617) (L' := [some (.ref 1000000300), some (.ref 0), some (.ref 201), some (.ref 219), some (.int i)]) (st' := [.ref 0]) 1 rfl ?_
  obtain ⟨h1, c1, k1, k2, k3, k4⟩ := cl_call q (c_check hN q.2.1) q.2.1 (ok_X11_check (em_C c) N c)
  refine g.callV (idx := 131) (o := 0) (ci := 10) (np := 0) (kd := 0) (As := []) (rest := []) rfl rfl rfl rfl q.1.1 (by decide) (q.1.2.1 0 (by decide)).2.1 rfl mt_X11_check rfl k1 k2.1 ?_
  refine g.many (pc' := 622) (L' := [some (.ref 1000000300), some (.ref 0), some (.ref 201), some (.ref 219), some (.int i)]) (st' := [.ref 201]) 2 rfl ?_
  obtain ⟨v2, c2, h2, t1, q2, t2, t3, t4⟩ := rf_call k2 k3 (MN_g (m_check hN k4)) (ok_X12_check (em_M c1) N c1)
  refine g.callV (idx := 134) (o := 201) (ci := 11) (np := 0) (kd := 0) (As := []) (rest := []) rfl rfl rfl rfl k2.1 (by decide) (k2.2.2 201 (by decide)).2.1 rfl mt_X12_check rfl t1 q2.1.1 ?_
  refine g.many (pc' := 866) (L' := [some (.ref 1000000300), some (.ref 0), some (.ref 201), some (.ref 219), some (.int i)]) (st' := []) 2 rfl ?_
  refine g.weak (m := [true, true, true, true, true]) rfl ?_
  exact kk _ _ _ _ _ _ (by omega) q2
set_option maxRecDepth 100000 in
theorem lw_15 {sl N x : Nat} {xs : Nat → Int32} {G : Nat → Nat → List (Option Value) → List Value → am_H → Prop} {i a1 a2 a3 a4 a5 : Int32} {c : hS} {h : am_H} {b t : List Nat} {ms : List Mb} (hN : 1000000 ≤ N) (g : LG sl xs G) (sb : SB sl xs i a1 a2 a3 a4 a5) (q : JP c h b t ms) (hx : x ≤ 600) (kk : ∀ x' c' h' b' t' ms', x' ≤ x + 1 → JP c' h' b' t' ms' → G x' 866 [some (.ref 1000000300), some (.ref 0), some (.ref 201), some (.ref 219), some (.int i)] [] h') : G x 629 [some (.ref 1000000300), some (.ref 0), some (.ref 201), some (.ref 219), some (.int i)] [] h := by
  refine g.many (pc' := 635) (L' := [some (.ref 1000000300), some (.ref 0), some (.ref 201), some (.ref 219), some (.int i)]) (st' := [.int (i + 1), .ref 1000000300, .ref 0]) 5 rfl ?_
  refine g.ld rfl sb.e1 ?_
  refine g.many (pc' := 641) (L' := [some (.ref 1000000300), some (.ref 0), some (.ref 201), some (.ref 219), some (.int i)]) (st' := [.int (i + 2), .ref 1000000300, .int a1, .ref 0]) 4 rfl ?_
  refine g.ld rfl sb.e2 ?_
  refine g.many (pc' := 647) (L' := [some (.ref 1000000300), some (.ref 0), some (.ref 201), some (.ref 219), some (.int i)]) (st' := [.int (i + 3), .ref 1000000300, .int a2, .int a1, .ref 0]) 4 rfl ?_
  refine g.ld rfl sb.e3 ?_
  refine g.many (pc' := 653) (L' := [some (.ref 1000000300), some (.ref 0), some (.ref 201), some (.ref 219), some (.int i)]) (st' := [.int (i + 4), .ref 1000000300, .int a3, .int a2, .int a1, .ref 0]) 4 rfl ?_
  refine g.ld rfl sb.e4 ?_
  refine g.many (pc' := 659) (L' := [some (.ref 1000000300), some (.ref 0), some (.ref 201), some (.ref 219), some (.int i)]) (st' := [.int (i + 5), .ref 1000000300, .int a4, .int a3, .int a2, .int a1, .ref 0]) 4 rfl ?_
  refine g.ld rfl sb.e5 ?_
  refine g.many (pc' := 661) (L' := [some (.ref 1000000300), some (.ref 0), some (.ref 201), some (.ref 219), some (.int i)]) (st' := [.ref 219, .int a5, .int a4, .int a3, .int a2, .int a1, .ref 0]) 1 rfl ?_
  obtain ⟨h1, c1, e1, k1, k2, k3, k4, k5⟩ := H_feed hN q a1 a2 a3 a4 a5
  have le1 := k1.2.2
  refine g.call (av := [.ref 0, .int a1, .int a2, .int a3, .int a4, .int a5, .ref 219]) (r := []) lx_e_feed sx_m_L_feed rfl rfl rfl rfl (by decide) k1 k2.1 (by omega) ?_
  refine g.many (pc' := 672) (L' := [some (.ref 1000000300), some (.ref 0), some (.ref 201), some (.ref 219), some (.int i), some (.int (nI (feK t)))]) (st' := [.int (i + 1), .ref 1000000300, .ref 201]) 6 rfl ?_
  refine g.ld rfl sb.e1 ?_
  refine g.many (pc' := 678) (L' := [some (.ref 1000000300), some (.ref 0), some (.ref 201), some (.ref 219), some (.int i), some (.int (nI (feK t)))]) (st' := [.int (i + 2), .ref 1000000300, .int a1, .ref 201]) 4 rfl ?_
  refine g.ld rfl sb.e2 ?_
  refine g.many (pc' := 684) (L' := [some (.ref 1000000300), some (.ref 0), some (.ref 201), some (.ref 219), some (.int i), some (.int (nI (feK t)))]) (st' := [.int (i + 3), .ref 1000000300, .int a2, .int a1, .ref 201]) 4 rfl ?_
  refine g.ld rfl sb.e3 ?_
  refine g.many (pc' := 690) (L' := [some (.ref 1000000300), some (.ref 0), some (.ref 201), some (.ref 219), some (.int i), some (.int (nI (feK t)))]) (st' := [.int (i + 4), .ref 1000000300, .int a3, .int a2, .int a1, .ref 201]) 4 rfl ?_
  refine g.ld rfl sb.e4 ?_
  refine g.many (pc' := 696) (L' := [some (.ref 1000000300), some (.ref 0), some (.ref 201), some (.ref 219), some (.int i), some (.int (nI (feK t)))]) (st' := [.int (i + 5), .ref 1000000300, .int a4, .int a3, .int a2, .int a1, .ref 201]) 4 rfl ?_
  refine g.ld rfl sb.e5 ?_
  obtain ⟨v2, c2, h2, t1, q2, t2, t3, t4⟩ := rf_call k2 k3 (MN_g (m_feed hN k4)) (ok_X12_feed (em_M c1) N c1 a1 a2 a3 a4 a5)
  refine g.callV (idx := 138) (o := 201) (ci := 11) (np := 5) (kd := 0) (As := [.int a1, .int a2, .int a3, .int a4, .int a5]) (rest := []) rfl rfl rfl rfl k2.1 (by decide) (k2.2.2 201 (by decide)).2.1 rfl mt_X12_feed rfl t1 q2.1.1 ?_
  refine g.many (pc' := 866) (L' := [some (.ref 1000000300), some (.ref 0), some (.ref 201), some (.ref 219), some (.int i), some (.int (nI (feK t))), some (.int v2)]) (st' := []) 2 rfl ?_
  refine g.weak (m := [true, true, true, true, true]) rfl ?_
  exact kk _ _ _ _ _ _ (by omega) q2
set_option maxRecDepth 100000 in
theorem lw_16 {sl N x : Nat} {xs : Nat → Int32} {G : Nat → Nat → List (Option Value) → List Value → am_H → Prop} {i a1 a2 a3 a4 a5 : Int32} {c : hS} {h : am_H} {b t : List Nat} {ms : List Mb} (hN : 1000000 ≤ N) (g : LG sl xs G) (sb : SB sl xs i a1 a2 a3 a4 a5) (q : JP c h b t ms) (hx : x ≤ 600) (kk : ∀ x' c' h' b' t' ms', x' ≤ x + 1 → JP c' h' b' t' ms' → G x' 866 [some (.ref 1000000300), some (.ref 0), some (.ref 201), some (.ref 219), some (.int i)] [] h') : G x 705 [some (.ref 1000000300), some (.ref 0), some (.ref 201), some (.ref 219), some (.int i)] [] h := by
  refine g.many (pc' := 711) (L' := [some (.ref 1000000300), some (.ref 0), some (.ref 201), some (.ref 219), some (.int i)]) (st' := [.int (i + 1), .ref 1000000300, .ref 0]) 5 rfl ?_
  refine g.ld rfl sb.e1 ?_
  obtain ⟨h1, c1, e1, k1, k2, k3, k4, k5⟩ := H_end hN q a1
  have le1 := k1.2.2
  refine g.call (av := [.ref 0, .int a1]) (r := []) lx_e_end sx_m_L_end rfl rfl rfl rfl (by decide) k1 k2.1 (by omega) ?_
  refine g.many (pc' := 723) (L' := [some (.ref 1000000300), some (.ref 0), some (.ref 201), some (.ref 219), some (.int i), some (.int (nI (keK t a1)))]) (st' := [.int (i + 1), .ref 1000000300, .ref 201]) 6 rfl ?_
  refine g.ld rfl sb.e1 ?_
  obtain ⟨v2, c2, h2, t1, q2, t2, t3, t4⟩ := rf_call k2 k3 (MN_g (m_end k4)) (ok_X12_end (em_M c1) c1 a1)
  refine g.callV (idx := 141) (o := 201) (ci := 11) (np := 1) (kd := 0) (As := [.int a1]) (rest := []) rfl rfl rfl rfl k2.1 (by decide) (k2.2.2 201 (by decide)).2.1 rfl mt_X12_end rfl t1 q2.1.1 ?_
  refine g.many (pc' := 866) (L' := [some (.ref 1000000300), some (.ref 0), some (.ref 201), some (.ref 219), some (.int i), some (.int (nI (keK t a1)))]) (st' := []) 1 rfl ?_
  refine g.weak (m := [true, true, true, true, true]) rfl ?_
  exact kk _ _ _ _ _ _ (by omega) q2
set_option maxRecDepth 100000 in
theorem lw_17 {sl N x : Nat} {xs : Nat → Int32} {G : Nat → Nat → List (Option Value) → List Value → am_H → Prop} {i a1 a2 a3 a4 a5 : Int32} {c : hS} {h : am_H} {b t : List Nat} {ms : List Mb} (hN : 1000000 ≤ N) (g : LG sl xs G) (sb : SB sl xs i a1 a2 a3 a4 a5) (q : JP c h b t ms) (hx : x ≤ 600) (kk : ∀ x' c' h' b' t' ms', x' ≤ x + 1 → JP c' h' b' t' ms' → G x' 866 [some (.ref 1000000300), some (.ref 0), some (.ref 201), some (.ref 219), some (.int i)] [] h') : G x 730 [some (.ref 1000000300), some (.ref 0), some (.ref 201), some (.ref 219), some (.int i)] [] h := by
  refine g.many (pc' := 736) (L' := [some (.ref 1000000300), some (.ref 0), some (.ref 201), some (.ref 219), some (.int i)]) (st' := [.int (i + 1), .ref 1000000300, .ref 0]) 5 rfl ?_
  refine g.ld rfl sb.e1 ?_
  refine g.many (pc' := 742) (L' := [some (.ref 1000000300), some (.ref 0), some (.ref 201), some (.ref 219), some (.int i)]) (st' := [.int (i + 2), .ref 1000000300, .int a1, .ref 0]) 4 rfl ?_
  refine g.ld rfl sb.e2 ?_
  refine g.many (pc' := 744) (L' := [some (.ref 1000000300), some (.ref 0), some (.ref 201), some (.ref 219), some (.int i)]) (st' := [.ref 219, .int a2, .int a1, .ref 0]) 1 rfl ?_
  obtain ⟨h1, c1, e1, k1, k2, k3, k4, k5⟩ := H_poke hN q a1 a2
  have le1 := k1.2.2
  refine g.call (av := [.ref 0, .int a1, .int a2, .ref 219]) (r := []) lx_e_poke sx_m_L_poke rfl rfl rfl rfl (by decide) k1 k2.1 (by omega) ?_
  refine g.many (pc' := 755) (L' := [some (.ref 1000000300), some (.ref 0), some (.ref 201), some (.ref 219), some (.int i), some (.int (nI (poK t a1 a2)))]) (st' := [.int (i + 1), .ref 1000000300, .ref 201]) 6 rfl ?_
  refine g.ld rfl sb.e1 ?_
  refine g.many (pc' := 761) (L' := [some (.ref 1000000300), some (.ref 0), some (.ref 201), some (.ref 219), some (.int i), some (.int (nI (poK t a1 a2)))]) (st' := [.int (i + 2), .ref 1000000300, .int a1, .ref 201]) 4 rfl ?_
  refine g.ld rfl sb.e2 ?_
  obtain ⟨v2, c2, h2, t1, q2, t2, t3, t4⟩ := rf_call k2 k3 (MN_g (m_poke k4)) (ok_X12_poke (em_M c1) c1 a1 a2)
  refine g.callV (idx := 144) (o := 201) (ci := 11) (np := 2) (kd := 0) (As := [.int a1, .int a2]) (rest := []) rfl rfl rfl rfl k2.1 (by decide) (k2.2.2 201 (by decide)).2.1 rfl mt_X12_poke rfl t1 q2.1.1 ?_
  refine g.many (pc' := 866) (L' := [some (.ref 1000000300), some (.ref 0), some (.ref 201), some (.ref 219), some (.int i), some (.int (nI (poK t a1 a2))), some (.int v2)]) (st' := []) 2 rfl ?_
  refine g.weak (m := [true, true, true, true, true]) rfl ?_
  exact kk _ _ _ _ _ _ (by omega) q2
set_option maxRecDepth 100000 in
theorem lw_18 {sl N x : Nat} {xs : Nat → Int32} {G : Nat → Nat → List (Option Value) → List Value → am_H → Prop} {i a1 a2 a3 a4 a5 : Int32} {c : hS} {h : am_H} {b t : List Nat} {ms : List Mb} (hN : 1000000 ≤ N) (g : LG sl xs G) (sb : SB sl xs i a1 a2 a3 a4 a5) (q : JP c h b t ms) (hx : x ≤ 600) (kk : ∀ x' c' h' b' t' ms', x' ≤ x + 1 → JP c' h' b' t' ms' → G x' 866 [some (.ref 1000000300), some (.ref 0), some (.ref 201), some (.ref 219), some (.int i)] [] h') : G x 770 [some (.ref 1000000300), some (.ref 0), some (.ref 201), some (.ref 219), some (.int i)] [] h := by
  refine g.many (pc' := 776) (L' := [some (.ref 1000000300), some (.ref 0), some (.ref 201), some (.ref 219), some (.int i)]) (st' := [.int (i + 1), .ref 1000000300, .ref 0]) 5 rfl ?_
  refine g.ld rfl sb.e1 ?_
  refine g.many (pc' := 782) (L' := [some (.ref 1000000300), some (.ref 0), some (.ref 201), some (.ref 219), some (.int i)]) (st' := [.int (i + 2), .ref 1000000300, .int a1, .ref 0]) 4 rfl ?_
  refine g.ld rfl sb.e2 ?_
  refine g.many (pc' := 784) (L' := [some (.ref 1000000300), some (.ref 0), some (.ref 201), some (.ref 219), some (.int i)]) (st' := [.ref 219, .int a2, .int a1, .ref 0]) 1 rfl ?_
  obtain ⟨h1, c1, e1, k1, k2, k3, k4, k5⟩ := H_at hN q a1 a2
  have le1 := k1.2.2
  refine g.call (av := [.ref 0, .int a1, .int a2, .ref 219]) (r := []) lx_e_at sx_m_L_at rfl rfl rfl rfl (by decide) k1 k2.1 (by omega) ?_
  refine g.many (pc' := 795) (L' := [some (.ref 1000000300), some (.ref 0), some (.ref 201), some (.ref 219), some (.int i), some (.int (nI (atK t a1 a2)))]) (st' := [.int (i + 1), .ref 1000000300, .ref 201]) 6 rfl ?_
  refine g.ld rfl sb.e1 ?_
  refine g.many (pc' := 801) (L' := [some (.ref 1000000300), some (.ref 0), some (.ref 201), some (.ref 219), some (.int i), some (.int (nI (atK t a1 a2)))]) (st' := [.int (i + 2), .ref 1000000300, .int a1, .ref 201]) 4 rfl ?_
  refine g.ld rfl sb.e2 ?_
  obtain ⟨v2, c2, h2, t1, q2, t2, t3, t4⟩ := rf_call k2 k3 (MN_g (m_at hN k4)) (ok_X12_at (em_M c1) N c1 a1 a2)
  refine g.callV (idx := 147) (o := 201) (ci := 11) (np := 2) (kd := 0) (As := [.int a1, .int a2]) (rest := []) rfl rfl rfl rfl k2.1 (by decide) (k2.2.2 201 (by decide)).2.1 rfl mt_X12_at rfl t1 q2.1.1 ?_
  refine g.many (pc' := 866) (L' := [some (.ref 1000000300), some (.ref 0), some (.ref 201), some (.ref 219), some (.int i), some (.int (nI (atK t a1 a2))), some (.long v2)]) (st' := []) 2 rfl ?_
  refine g.weak (m := [true, true, true, true, true]) rfl ?_
  exact kk _ _ _ _ _ _ (by omega) q2
set_option maxRecDepth 100000 in
theorem lw_19 {sl N x : Nat} {xs : Nat → Int32} {G : Nat → Nat → List (Option Value) → List Value → am_H → Prop} {i a1 a2 a3 a4 a5 : Int32} {c : hS} {h : am_H} {b t : List Nat} {ms : List Mb} (hN : 1000000 ≤ N) (g : LG sl xs G) (sb : SB sl xs i a1 a2 a3 a4 a5) (q : JP c h b t ms) (hx : x ≤ 600) (kk : ∀ x' c' h' b' t' ms', x' ≤ x + 1 → JP c' h' b' t' ms' → G x' 866 [some (.ref 1000000300), some (.ref 0), some (.ref 201), some (.ref 219), some (.int i)] [] h') : G x 810 [some (.ref 1000000300), some (.ref 0), some (.ref 201), some (.ref 219), some (.int i)] [] h := by
  refine g.many (pc' := 816) (L' := [some (.ref 1000000300), some (.ref 0), some (.ref 201), some (.ref 219), some (.int i)]) (st' := [.int (i + 1), .ref 1000000300, .ref 0]) 5 rfl ?_
  refine g.ld rfl sb.e1 ?_
  refine g.many (pc' := 818) (L' := [some (.ref 1000000300), some (.ref 0), some (.ref 201), some (.ref 219), some (.int i)]) (st' := [.ref 219, .int a1, .ref 0]) 1 rfl ?_
  obtain ⟨h1, c1, e1, k1, k2, k3, k4, k5⟩ := H_count hN q a1
  have le1 := k1.2.2
  refine g.call (av := [.ref 0, .int a1, .ref 219]) (r := []) lx_e_count sx_m_L_count rfl rfl rfl rfl (by decide) k1 k2.1 (by omega) ?_
  refine g.many (pc' := 829) (L' := [some (.ref 1000000300), some (.ref 0), some (.ref 201), some (.ref 219), some (.int i), some (.int (nI (coK a1)))]) (st' := [.int (i + 1), .ref 1000000300, .ref 201]) 6 rfl ?_
  refine g.ld rfl sb.e1 ?_
  obtain ⟨v2, c2, h2, t1, q2, t2, t3, t4⟩ := rf_call k2 k3 (MN_g (m_count k4)) (ok_X12_count (em_M c1) c1 a1)
  refine g.callV (idx := 150) (o := 201) (ci := 11) (np := 1) (kd := 0) (As := [.int a1]) (rest := []) rfl rfl rfl rfl k2.1 (by decide) (k2.2.2 201 (by decide)).2.1 rfl mt_X12_count rfl t1 q2.1.1 ?_
  refine g.many (pc' := 836) (L' := [some (.ref 1000000300), some (.ref 0), some (.ref 201), some (.ref 219), some (.int i), some (.int (nI (coK a1))), some (.int v2)]) (st' := [.ref 201]) 2 rfl ?_
  obtain ⟨h3, t5, q3⟩ := rf_thrown q2 t2
  refine g.callV (idx := 151) (o := 201) (ci := 11) (np := 0) (kd := 0) (As := []) (rest := []) rfl rfl rfl rfl q2.1.1 (by decide) (q2.1.2.2 201 (by decide)).2.1 rfl mt_X12_thrown rfl t5 q3.1.1 ?_
  refine g.many (pc' := (bif am_cc .eq (nI (coK a1)) (nI (coK a1)) then 846 else 844)) (L' := [some (.ref 1000000300), some (.ref 0), some (.ref 201), some (.ref 219), some (.int i), some (.int (nI (coK a1))), some (.int v2)]) (st' := []) 2 rfl ?_
  rw [show am_cc .eq (nI (coK a1)) (nI (coK a1)) = true from decide_eq_true rfl, cond_true]
  refine g.many (pc' := (bif am_cc .ne (nI (coK a1)) 0 then 863 else 851)) (L' := [some (.ref 1000000300), some (.ref 0), some (.ref 201), some (.ref 219), some (.int i), some (.int (nI (coK a1))), some (.int v2)]) (st' := []) 2 rfl ?_
  by_cases hK : coK a1 = 0
  · rw [show am_cc .ne (nI (coK a1)) 0 = false from by rw [hK]; rfl, cond_false]
    refine g.many (pc' := 853) (L' := [some (.ref 1000000300), some (.ref 0), some (.ref 201), some (.ref 219), some (.int i), some (.int (nI (coK a1))), some (.int v2)]) (st' := [.int 0, .ref 219]) 2 rfl ?_
    refine g.one (lw_out q3.1 rfl) ?_
    refine g.many (pc' := (bif am_cc .eq (lg_cmp (c2.2.1 219 0) (v2).toInt64) 0 then 863 else 861)) (L' := [some (.ref 1000000300), some (.ref 0), some (.ref 201), some (.ref 219), some (.int i), some (.int (nI (coK a1))), some (.int v2)]) (st' := []) 4 rfl ?_
    rw [show (lg_cmp (c2.2.1 219 0) (v2).toInt64) = 0 from cmp_e (by rw [t4, k5 hK, t3 hK]), show am_cc .eq 0 0 = true from rfl, cond_true]
    refine g.many (pc' := 866) (L' := [some (.ref 1000000300), some (.ref 0), some (.ref 201), some (.ref 219), some (.int i), some (.int (nI (coK a1))), some (.int v2)]) (st' := []) 1 rfl ?_
    refine g.weak (m := [true, true, true, true, true]) rfl ?_
    exact kk _ _ _ _ _ _ (by omega) q3
  · rw [show am_cc .ne (nI (coK a1)) 0 = true from ne_t (Nat.lt_of_le_of_lt kb_count (by decide)) hK, cond_true]
    refine g.many (pc' := 866) (L' := [some (.ref 1000000300), some (.ref 0), some (.ref 201), some (.ref 219), some (.int i), some (.int (nI (coK a1))), some (.int v2)]) (st' := []) 1 rfl ?_
    refine g.weak (m := [true, true, true, true, true]) rfl ?_
    exact kk _ _ _ _ _ _ (by omega) q3
