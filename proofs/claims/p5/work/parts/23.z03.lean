/-! THAT THE MACHINE FOLLOWS THEM, printed by gen_l1.py -/
set_option maxRecDepth 100000 in
theorem ok_X3_placeSymbol_40 {Q : hS → am_H → Prop} (hQ : l1_em kc Q) (d : Nat) (p1 : Int32) (p2 : Int32) (hd : kc d = 2) : ∀ (c : hS), l1_G (wN wV) Q am_i_X3_placeSymbol 40 [some (.ref d), none, some (.int p2)] [] c (f_X3_placeSymbol_40 d p1 p2 c) := by
  intro c
  rw [f_X3_placeSymbol_40]
  refine l1_many mt_X3_placeSymbol (pc' := 41) (L' := [some (.ref d), none, some (.int p2)]) (st' := [.ref d]) 1 rfl ?_
  refine l1_getR hQ mt_X3_placeSymbol rfl (o := d) (ci := 2) (k := 1) (a := 0) (b := 1) hd rfl rfl rfl rfl (q := (d + 2)) rfl ?_
  refine l1_many mt_X3_placeSymbol (pc' := 46) (L' := [some (.ref d), none, some (.int p2)]) (st' := [.int p2, .ref (d + 2), .int p2, .ref (d + 2)]) 2 rfl ?_
  refine l1_ck (fun hx => ?_)
  refine l1_ald hQ mt_X3_placeSymbol rfl (o := (d + 2)) (kc2_1 hd) hx ?_
  refine l1_many mt_X3_placeSymbol (pc' := 49) (L' := [some (.ref d), none, some (.int p2)]) (st' := [.int ((c.1 (d + 2) p2.toNatClampNeg) + 1), .int p2, .ref (d + 2)]) 2 rfl ?_
  refine l1_ck (fun hx => ?_)
  refine l1_ast hQ mt_X3_placeSymbol rfl (o := (d + 2)) (kc2_1 hd) hx (fun c1 => ?_)
  exact l1_ret mt_X3_placeSymbol rfl rfl rfl
set_option maxRecDepth 100000 in
theorem en_X3_placeSymbol {Q : hS → am_H → Prop} (hQ : l1_em kc Q) (c : hS) (d : Nat) (p1 : Int32) (p2 : Int32) (hd : kc d = 2) : l1_G (wN wV) Q am_i_X3_placeSymbol 0 [some (.ref d), some (.int p1), some (.int p2)] [] c (f_X3_placeSymbol c d p1 p2) := by
  rw [f_X3_placeSymbol]
  refine l1_many mt_X3_placeSymbol (pc' := bif am_cc .le p2 0 then 50 else 4) (L' := [some (.ref d), some (.int p1), some (.int p2)]) (st' := []) 2 rfl ?_
  refine l1_bif rfl ?_ ?_
  · exact l1_ret mt_X3_placeSymbol rfl rfl rfl
  · refine l1_many mt_X3_placeSymbol (pc' := 6) (L' := [some (.ref d), some (.int p1), some (.int p2)]) (st' := [.ref d, .int p2]) 2 rfl ?_
    refine l1_getR hQ mt_X3_placeSymbol rfl (o := d) (ci := 2) (k := 1) (a := 0) (b := 1) hd rfl rfl rfl rfl (q := (d + 2)) rfl ?_
    refine l1_len hQ mt_X3_placeSymbol rfl (o := (d + 2)) (ci := 20) (kc2_1 hd) rfl rfl ?_
    refine l1_many mt_X3_placeSymbol (pc' := bif am_cc .ge p2 (Int32.ofNat (ln (d + 2))) then 50 else 13) (L' := [some (.ref d), some (.int p1), some (.int p2)]) (st' := []) 1 rfl ?_
    refine l1_bif rfl ?_ ?_
    · exact l1_ret mt_X3_placeSymbol rfl rfl rfl
    · refine l1_many mt_X3_placeSymbol (pc' := 14) (L' := [some (.ref d), some (.int p1), some (.int p2)]) (st' := [.ref d]) 1 rfl ?_
      refine l1_getR hQ mt_X3_placeSymbol rfl (o := d) (ci := 2) (k := 1) (a := 0) (b := 1) hd rfl rfl rfl rfl (q := (d + 2)) rfl ?_
      refine l1_many mt_X3_placeSymbol (pc' := 18) (L' := [some (.ref d), some (.int p1), some (.int p2)]) (st' := [.int p2, .ref (d + 2)]) 1 rfl ?_
      refine l1_ck (fun hx => ?_)
      refine l1_ald hQ mt_X3_placeSymbol rfl (o := (d + 2)) (kc2_1 hd) hx ?_
      refine l1_many mt_X3_placeSymbol (pc' := bif am_cc .lt (c.1 (d + 2) p2.toNatClampNeg) 0 then 40 else 24) (L' := [some (.ref d), some (.int p1), some (.int p2), some (.int (c.1 (d + 2) p2.toNatClampNeg))]) (st' := []) 3 rfl ?_
      refine l1_bif rfl ?_ ?_
      · refine l1_weak (m := [true, false, true, false]) (L' := [some (.ref d), none, some (.int p2)]) rfl ?_
        exact ok_X3_placeSymbol_40 hQ d p1 p2 hd c
      · refine l1_many mt_X3_placeSymbol (pc' := 26) (L' := [some (.ref d), some (.int p1), some (.int p2), some (.int (c.1 (d + 2) p2.toNatClampNeg))]) (st' := [.ref d, .int (c.1 (d + 2) p2.toNatClampNeg)]) 2 rfl ?_
        refine l1_getR hQ mt_X3_placeSymbol rfl (o := d) (ci := 2) (k := 2) (a := 0) (b := 1) hd rfl rfl rfl rfl (q := (d + 3)) rfl ?_
        refine l1_len hQ mt_X3_placeSymbol rfl (o := (d + 3)) (ci := 20) (kc2_2 hd) rfl rfl ?_
        refine l1_many mt_X3_placeSymbol (pc' := bif am_cc .ge (c.1 (d + 2) p2.toNatClampNeg) (Int32.ofNat (ln (d + 3))) then 40 else 33) (L' := [some (.ref d), some (.int p1), some (.int p2), some (.int (c.1 (d + 2) p2.toNatClampNeg))]) (st' := []) 1 rfl ?_
        refine l1_bif rfl ?_ ?_
        · refine l1_weak (m := [true, false, true, false]) (L' := [some (.ref d), none, some (.int p2)]) rfl ?_
          exact ok_X3_placeSymbol_40 hQ d p1 p2 hd c
        · refine l1_many mt_X3_placeSymbol (pc' := 34) (L' := [some (.ref d), some (.int p1), some (.int p2), some (.int (c.1 (d + 2) p2.toNatClampNeg))]) (st' := [.ref d]) 1 rfl ?_
          refine l1_getR hQ mt_X3_placeSymbol rfl (o := d) (ci := 2) (k := 2) (a := 0) (b := 1) hd rfl rfl rfl rfl (q := (d + 3)) rfl ?_
          refine l1_many mt_X3_placeSymbol (pc' := 39) (L' := [some (.ref d), some (.int p1), some (.int p2), some (.int (c.1 (d + 2) p2.toNatClampNeg))]) (st' := [.int p1, .int (c.1 (d + 2) p2.toNatClampNeg), .ref (d + 3)]) 2 rfl ?_
          refine l1_ck (fun hx => ?_)
          refine l1_ast hQ mt_X3_placeSymbol rfl (o := (d + 3)) (kc2_2 hd) hx (fun c1 => ?_)
          refine l1_weak (m := [true, false, true, false]) (L' := [some (.ref d), none, some (.int p2)]) rfl ?_
          exact ok_X3_placeSymbol_40 hQ d p1 p2 hd c1
theorem ok_X3_placeSymbol {Q : hS → am_H → Prop} (hQ : l1_em kc Q) (c : hS) (d : Nat) (p1 : Int32) (p2 : Int32) (hd : kc d = 2) : l1_T wV Q am_i_X3_placeSymbol [.ref d, .int p1, .int p2] c (f_X3_placeSymbol c d p1 p2) := l1_of (en_X3_placeSymbol hQ c d p1 p2 hd) ⟨rfl, rfl, rfl, trivial⟩
set_option maxRecDepth 100000 in
theorem ok_X3_order_110 {Q : hS → am_H → Prop} (hQ : l1_em kc Q) (N : Nat) (d : Nat) (p2 : Int32) (p3 : Int32) (hd : kc d = 2) : ∀ n : Nat, ∀ (c : hS) (v4 : Int32) (v5 : Int32), l1_G (wN wV) Q am_i_X3_order 110 [some (.ref d), some (.ref 32), some (.int p2), none, some (.int v4), some (.int v5)] [] c (f_X3_order_110 N d p2 p3 n c v4 v5) := by
  intro n
  induction n with
  | zero => intro c v4 v5; exact l1_none
  | succ n ih =>
    intro c v4 v5
    rw [f_X3_order_110]
    refine l1_many mt_X3_order (pc' := bif am_cc .ge v5 v4 then 135 else 117) (L' := [some (.ref d), some (.ref 32), some (.int p2), none, some (.int v4), some (.int v5)]) (st' := []) 3 rfl ?_
    refine l1_bif rfl ?_ ?_
    · exact l1_ret mt_X3_order rfl rfl rfl
    · refine l1_many mt_X3_order (pc' := 125) (L' := [some (.ref d), some (.ref 32), some (.int p2), none, some (.int v4), some (.int v5)]) (st' := [.int v5, .ref 32, .int (v5 - p2), .ref d]) 6 rfl ?_
      refine l1_ck (fun hx => ?_)
      refine l1_ald hQ mt_X3_order rfl (o := 32) rfl hx ?_
      refine l1_callV hQ mt_X3_order mt_X3_placeSymbol rfl rfl (o := d) (ci := 2) (As := [.int (v5 - p2), .int (c.1 32 v5.toNatClampNeg)]) (rest := []) rfl rfl hd rfl rfl rfl (st1 := fun _ => []) (fun _ => rfl) (ok_X3_placeSymbol hQ c d (v5 - p2) (c.1 32 v5.toNatClampNeg) hd) (fun _ c1 => ?_)
      refine l1_many mt_X3_order (pc' := 110) (L' := [some (.ref d), some (.ref 32), some (.int p2), none, some (.int v4), some (.int (v5 + 1))]) (st' := []) 2 rfl ?_
      exact ih c1 v4 (v5 + 1)
set_option maxRecDepth 100000 in
theorem ok_X3_order_54 {Q : hS → am_H → Prop} (hQ : l1_em kc Q) (N : Nat) (d : Nat) (p2 : Int32) (p3 : Int32) (hd : kc d = 2) : ∀ n : Nat, ∀ (c : hS) (v4 : Int32) (v5 : Int32), l1_G (wN wV) Q am_i_X3_order 54 [some (.ref d), some (.ref 32), some (.int p2), none, some (.int v4), some (.int v5)] [] c (f_X3_order_54 N d p2 p3 n c v4 v5) := by
  intro n
  induction n with
  | zero => intro c v4 v5; exact l1_none
  | succ n ih =>
    intro c v4 v5
    rw [f_X3_order_54]
    refine l1_many mt_X3_order (pc' := bif am_cc .ge v5 v4 then 99 else 61) (L' := [some (.ref d), some (.ref 32), some (.int p2), none, some (.int v4), some (.int v5)]) (st' := []) 3 rfl ?_
    refine l1_bif rfl ?_ ?_
    · refine l1_many mt_X3_order (pc' := 100) (L' := [some (.ref d), some (.ref 32), some (.int p2), none, some (.int v4), some (.int v5)]) (st' := [.ref d]) 1 rfl ?_
      refine l1_callV hQ mt_X3_order mt_X3_placeLengths rfl rfl (o := d) (ci := 2) (As := []) (rest := []) rfl rfl hd rfl rfl rfl (st1 := fun _ => []) (fun _ => rfl) (ok_X3_placeLengths hQ N c d hd) (fun _ c1 => ?_)
      refine l1_many mt_X3_order (pc' := 105) (L' := [some (.ref d), some (.ref 32), some (.int p2), none, some (.int v4), some (.int v5)]) (st' := [.int 0, .int p2]) 2 rfl ?_
      refine l1_max mt_X3_order rfl rfl rfl rfl ?_
      refine l1_many mt_X3_order (pc' := 110) (L' := [some (.ref d), some (.ref 32), some (.int p2), none, some (.int v4), some (.int (j_max p2 0))]) (st' := []) 1 rfl ?_
      exact ok_X3_order_110 hQ N d p2 p3 hd N c1 v4 (j_max p2 0)
    · refine l1_many mt_X3_order (pc' := 64) (L' := [some (.ref d), some (.ref 32), some (.int p2), none, some (.int v4), some (.int v5)]) (st' := [.int v5, .ref 32]) 2 rfl ?_
      refine l1_ck (fun hx => ?_)
      refine l1_ald hQ mt_X3_order rfl (o := 32) rfl hx ?_
      refine l1_many mt_X3_order (pc' := bif am_cc .le (c.1 32 v5.toNatClampNeg) 0 then 93 else 72) (L' := [some (.ref d), some (.ref 32), some (.int p2), none, some (.int v4), some (.int v5), some (.int (c.1 32 v5.toNatClampNeg))]) (st' := []) 3 rfl ?_
      refine l1_bif rfl ?_ ?_
      · refine l1_many mt_X3_order (pc' := 54) (L' := [some (.ref d), some (.ref 32), some (.int p2), none, some (.int v4), some (.int (v5 + 1)), some (.int (c.1 32 v5.toNatClampNeg))]) (st' := []) 2 rfl ?_
        refine l1_weak (m := [true, true, true, false, true, true, false]) (L' := [some (.ref d), some (.ref 32), some (.int p2), none, some (.int v4), some (.int (v5 + 1))]) rfl ?_
        exact ih c v4 (v5 + 1)
      · refine l1_many mt_X3_order (pc' := 75) (L' := [some (.ref d), some (.ref 32), some (.int p2), none, some (.int v4), some (.int v5), some (.int (c.1 32 v5.toNatClampNeg))]) (st' := [.ref d, .int (c.1 32 v5.toNatClampNeg)]) 2 rfl ?_
        refine l1_getR hQ mt_X3_order rfl (o := d) (ci := 2) (k := 0) (a := 0) (b := 1) hd rfl rfl rfl rfl (q := (d + 1)) rfl ?_
        refine l1_len hQ mt_X3_order rfl (o := (d + 1)) (ci := 20) (kc2_0 hd) rfl rfl ?_
        refine l1_many mt_X3_order (pc' := bif am_cc .ge (c.1 32 v5.toNatClampNeg) (Int32.ofNat (ln (d + 1))) then 93 else 82) (L' := [some (.ref d), some (.ref 32), some (.int p2), none, some (.int v4), some (.int v5), some (.int (c.1 32 v5.toNatClampNeg))]) (st' := []) 1 rfl ?_
        refine l1_bif rfl ?_ ?_
        · refine l1_many mt_X3_order (pc' := 54) (L' := [some (.ref d), some (.ref 32), some (.int p2), none, some (.int v4), some (.int (v5 + 1)), some (.int (c.1 32 v5.toNatClampNeg))]) (st' := []) 2 rfl ?_
          refine l1_weak (m := [true, true, true, false, true, true, false]) (L' := [some (.ref d), some (.ref 32), some (.int p2), none, some (.int v4), some (.int (v5 + 1))]) rfl ?_
          exact ih c v4 (v5 + 1)
        · refine l1_many mt_X3_order (pc' := 83) (L' := [some (.ref d), some (.ref 32), some (.int p2), none, some (.int v4), some (.int v5), some (.int (c.1 32 v5.toNatClampNeg))]) (st' := [.ref d]) 1 rfl ?_
          refine l1_getR hQ mt_X3_order rfl (o := d) (ci := 2) (k := 0) (a := 0) (b := 1) hd rfl rfl rfl rfl (q := (d + 1)) rfl ?_
          refine l1_many mt_X3_order (pc' := 89) (L' := [some (.ref d), some (.ref 32), some (.int p2), none, some (.int v4), some (.int v5), some (.int (c.1 32 v5.toNatClampNeg))]) (st' := [.int (c.1 32 v5.toNatClampNeg), .ref (d + 1), .int (c.1 32 v5.toNatClampNeg), .ref (d + 1)]) 2 rfl ?_
          refine l1_ck (fun hx => ?_)
          refine l1_ald hQ mt_X3_order rfl (o := (d + 1)) (kc2_0 hd) hx ?_
          refine l1_many mt_X3_order (pc' := 92) (L' := [some (.ref d), some (.ref 32), some (.int p2), none, some (.int v4), some (.int v5), some (.int (c.1 32 v5.toNatClampNeg))]) (st' := [.int ((c.1 (d + 1) (c.1 32 v5.toNatClampNeg).toNatClampNeg) + 1), .int (c.1 32 v5.toNatClampNeg), .ref (d + 1)]) 2 rfl ?_
          refine l1_ck (fun hx => ?_)
          refine l1_ast hQ mt_X3_order rfl (o := (d + 1)) (kc2_0 hd) hx (fun c2 => ?_)
          refine l1_many mt_X3_order (pc' := 54) (L' := [some (.ref d), some (.ref 32), some (.int p2), none, some (.int v4), some (.int (v5 + 1)), some (.int (c.1 32 v5.toNatClampNeg))]) (st' := []) 2 rfl ?_
          refine l1_weak (m := [true, true, true, false, true, true, false]) (L' := [some (.ref d), some (.ref 32), some (.int p2), none, some (.int v4), some (.int (v5 + 1))]) rfl ?_
          exact ih c2 v4 (v5 + 1)
set_option maxRecDepth 100000 in
theorem ok_X3_order_3 {Q : hS → am_H → Prop} (hQ : l1_em kc Q) (N : Nat) (d : Nat) (p2 : Int32) (p3 : Int32) (hd : kc d = 2) : ∀ n : Nat, ∀ (c : hS) (v4 : Int32), l1_G (wN wV) Q am_i_X3_order 3 [some (.ref d), some (.ref 32), some (.int p2), some (.int p3), some (.int v4)] [] c (f_X3_order_3 N d p2 p3 n c v4) := by
  intro n
  induction n with
  | zero => intro c v4; exact l1_none
  | succ n ih =>
    intro c v4
    rw [f_X3_order_3]
    refine l1_many mt_X3_order (pc' := 6) (L' := [some (.ref d), some (.ref 32), some (.int p2), some (.int p3), some (.int v4)]) (st' := [.ref d, .int v4]) 2 rfl ?_
    refine l1_getR hQ mt_X3_order rfl (o := d) (ci := 2) (k := 0) (a := 0) (b := 1) hd rfl rfl rfl rfl (q := (d + 1)) rfl ?_
    refine l1_len hQ mt_X3_order rfl (o := (d + 1)) (ci := 20) (kc2_0 hd) rfl rfl ?_
    refine l1_many mt_X3_order (pc' := bif am_cc .ge v4 (Int32.ofNat (ln (d + 1))) then 27 else 13) (L' := [some (.ref d), some (.ref 32), some (.int p2), some (.int p3), some (.int v4)]) (st' := []) 1 rfl ?_
    refine l1_bif rfl ?_ ?_
    · refine l1_many mt_X3_order (pc' := 32) (L' := [some (.ref d), some (.ref 32), some (.int p2), some (.int p3), some (.int v4)]) (st' := [.ref d, .int p2, .int (p2 + p3)]) 5 rfl ?_
      refine l1_getR hQ mt_X3_order rfl (o := d) (ci := 2) (k := 2) (a := 0) (b := 1) hd rfl rfl rfl rfl (q := (d + 3)) rfl ?_
      refine l1_len hQ mt_X3_order rfl (o := (d + 3)) (ci := 20) (kc2_2 hd) rfl rfl ?_
      refine l1_many mt_X3_order (pc' := 37) (L' := [some (.ref d), some (.ref 32), some (.int p2), some (.int p3), some (.int v4)]) (st' := [.int (p2 + (Int32.ofNat (ln (d + 3)))), .int (p2 + p3)]) 1 rfl ?_
      refine l1_min mt_X3_order rfl rfl rfl rfl ?_
      refine l1_many mt_X3_order (pc' := 41) (L' := [some (.ref d), some (.ref 32), some (.int p2), some (.int p3), some (.int v4)]) (st' := [.ref 32, .int (j_min (p2 + p3) (p2 + (Int32.ofNat (ln (d + 3)))))]) 1 rfl ?_
      refine l1_len hQ mt_X3_order rfl (o := 32) (ci := 20) rfl rfl rfl ?_
      refine l1_min mt_X3_order rfl rfl rfl rfl ?_
      refine l1_many mt_X3_order (pc' := 49) (L' := [some (.ref d), some (.ref 32), some (.int p2), some (.int p3), some (.int (j_min (j_min (p2 + p3) (p2 + (Int32.ofNat (ln (d + 3))))) (Int32.ofNat (ln 32))))]) (st' := [.int 0, .int p2]) 3 rfl ?_
      refine l1_max mt_X3_order rfl rfl rfl rfl ?_
      refine l1_many mt_X3_order (pc' := 54) (L' := [some (.ref d), some (.ref 32), some (.int p2), some (.int p3), some (.int (j_min (j_min (p2 + p3) (p2 + (Int32.ofNat (ln (d + 3))))) (Int32.ofNat (ln 32)))), some (.int (j_max p2 0))]) (st' := []) 1 rfl ?_
      refine l1_weak (m := [true, true, true, false, true, true, false]) (L' := [some (.ref d), some (.ref 32), some (.int p2), none, some (.int (j_min (j_min (p2 + p3) (p2 + (Int32.ofNat (ln (d + 3))))) (Int32.ofNat (ln 32)))), some (.int (j_max p2 0))]) rfl ?_
      exact ok_X3_order_54 hQ N d p2 p3 hd N c (j_min (j_min (p2 + p3) (p2 + (Int32.ofNat (ln (d + 3))))) (Int32.ofNat (ln 32))) (j_max p2 0)
    · refine l1_many mt_X3_order (pc' := 14) (L' := [some (.ref d), some (.ref 32), some (.int p2), some (.int p3), some (.int v4)]) (st' := [.ref d]) 1 rfl ?_
      refine l1_getR hQ mt_X3_order rfl (o := d) (ci := 2) (k := 0) (a := 0) (b := 1) hd rfl rfl rfl rfl (q := (d + 1)) rfl ?_
      refine l1_many mt_X3_order (pc' := 20) (L' := [some (.ref d), some (.ref 32), some (.int p2), some (.int p3), some (.int v4)]) (st' := [.int 0, .int v4, .ref (d + 1)]) 2 rfl ?_
      refine l1_ck (fun hx => ?_)
      refine l1_ast hQ mt_X3_order rfl (o := (d + 1)) (kc2_0 hd) hx (fun c1 => ?_)
      refine l1_many mt_X3_order (pc' := 3) (L' := [some (.ref d), some (.ref 32), some (.int p2), some (.int p3), some (.int (v4 + 1))]) (st' := []) 2 rfl ?_
      exact ih c1 (v4 + 1)
set_option maxRecDepth 100000 in
theorem en_X3_order {Q : hS → am_H → Prop} (hQ : l1_em kc Q) (N : Nat) (c : hS) (d : Nat) (p2 : Int32) (p3 : Int32) (hd : kc d = 2) : l1_G (wN wV) Q am_i_X3_order 0 [some (.ref d), some (.ref 32), some (.int p2), some (.int p3)] [] c (f_X3_order N c d p2 p3) := by
  rw [f_X3_order]
  refine l1_many mt_X3_order (pc' := 3) (L' := [some (.ref d), some (.ref 32), some (.int p2), some (.int p3), some (.int 0)]) (st' := []) 2 rfl ?_
  exact ok_X3_order_3 hQ N d p2 p3 hd N c 0
theorem ok_X3_order {Q : hS → am_H → Prop} (hQ : l1_em kc Q) (N : Nat) (c : hS) (d : Nat) (p2 : Int32) (p3 : Int32) (hd : kc d = 2) : l1_T wV Q am_i_X3_order [.ref d, .ref 32, .int p2, .int p3] c (f_X3_order N c d p2 p3) := l1_of (en_X3_order hQ N c d p2 p3 hd) ⟨rfl, rfl, rfl, rfl, trivial⟩
set_option maxRecDepth 100000 in
theorem ok_X3_areComplete_4 {Q : hS → am_H → Prop} (hQ : l1_em kc Q) (N : Nat) (d : Nat) (hd : kc d = 2) : ∀ n : Nat, ∀ (c : hS) (v1 : Int32) (v2 : Int32), l1_G (wN wI) Q am_i_X3_areComplete 4 [some (.ref d), some (.int v1), some (.int v2)] [] c (f_X3_areComplete_4 N d n c v1 v2) := by
  intro n
  induction n with
  | zero => intro c v1 v2; exact l1_none
  | succ n ih =>
    intro c v1 v2
    rw [f_X3_areComplete_4]
    refine l1_many mt_X3_areComplete (pc' := 6) (L' := [some (.ref d), some (.int v1), some (.int v2)]) (st' := [.ref d, .int v2]) 2 rfl ?_
    refine l1_getR hQ mt_X3_areComplete rfl (o := d) (ci := 2) (k := 0) (a := 0) (b := 1) hd rfl rfl rfl rfl (q := (d + 1)) rfl ?_
    refine l1_len hQ mt_X3_areComplete rfl (o := (d + 1)) (ci := 20) (kc2_0 hd) rfl rfl ?_
    refine l1_many mt_X3_areComplete (pc' := bif am_cc .ge v2 (Int32.ofNat (ln (d + 1))) then 33 else 13) (L' := [some (.ref d), some (.int v1), some (.int v2)]) (st' := []) 1 rfl ?_
    refine l1_bif rfl ?_ ?_
    · refine l1_many mt_X3_areComplete (pc' := bif am_cc .ne v1 32768 then 43 else 39) (L' := [some (.ref d), some (.int v1), some (.int v2)]) (st' := []) 3 rfl ?_
      refine l1_bin rfl ?_ ?_
      · refine l1_many mt_X3_areComplete (pc' := 44) (L' := [some (.ref d), some (.int v1), some (.int v2)]) (st' := [.int 1]) 2 rfl ?_
        exact l1_ret mt_X3_areComplete rfl rfl rfl
      · refine l1_many mt_X3_areComplete (pc' := 44) (L' := [some (.ref d), some (.int v1), some (.int v2)]) (st' := [.int 0]) 1 rfl ?_
        exact l1_ret mt_X3_areComplete rfl rfl rfl
    · refine l1_many mt_X3_areComplete (pc' := 15) (L' := [some (.ref d), some (.int v1), some (.int v2)]) (st' := [.ref d, .int v1]) 2 rfl ?_
      refine l1_getR hQ mt_X3_areComplete rfl (o := d) (ci := 2) (k := 0) (a := 0) (b := 1) hd rfl rfl rfl rfl (q := (d + 1)) rfl ?_
      refine l1_many mt_X3_areComplete (pc' := 19) (L' := [some (.ref d), some (.int v1), some (.int v2)]) (st' := [.int v2, .ref (d + 1), .int v1]) 1 rfl ?_
      refine l1_ck (fun hx => ?_)
      refine l1_ald hQ mt_X3_areComplete rfl (o := (d + 1)) (kc2_0 hd) hx ?_
      refine l1_many mt_X3_areComplete (pc' := 4) (L' := [some (.ref d), some (.int (v1 + (j_shl (c.1 (d + 1) v2.toNatClampNeg) (15 - v2)))), some (.int (v2 + 1))]) (st' := []) 8 rfl ?_
      exact ih c (v1 + (j_shl (c.1 (d + 1) v2.toNatClampNeg) (15 - v2))) (v2 + 1)
set_option maxRecDepth 100000 in
theorem en_X3_areComplete {Q : hS → am_H → Prop} (hQ : l1_em kc Q) (N : Nat) (c : hS) (d : Nat) (hd : kc d = 2) : l1_G (wN wI) Q am_i_X3_areComplete 0 [some (.ref d)] [] c (f_X3_areComplete N c d) := by
  rw [f_X3_areComplete]
  refine l1_many mt_X3_areComplete (pc' := 4) (L' := [some (.ref d), some (.int 0), some (.int 1)]) (st' := []) 4 rfl ?_
  exact ok_X3_areComplete_4 hQ N d hd N c 0 1
theorem ok_X3_areComplete {Q : hS → am_H → Prop} (hQ : l1_em kc Q) (N : Nat) (c : hS) (d : Nat) (hd : kc d = 2) : l1_T wI Q am_i_X3_areComplete [.ref d] c (f_X3_areComplete N c d) := l1_of (en_X3_areComplete hQ N c d hd) ⟨rfl, trivial⟩
set_option maxRecDepth 100000 in
theorem en_X3_areNoneOrOneBit {Q : hS → am_H → Prop} (hQ : l1_em kc Q) (c : hS) (d : Nat) (hd : kc d = 2) : l1_G (wN wI) Q am_i_X3_areNoneOrOneBit 0 [some (.ref d)] [] c (f_X3_areNoneOrOneBit c d) := by
  rw [f_X3_areNoneOrOneBit]
  refine l1_many mt_X3_areNoneOrOneBit (pc' := 1) (L' := [some (.ref d)]) (st' := [.ref d]) 1 rfl ?_
  refine l1_getI hQ mt_X3_areNoneOrOneBit rfl (o := d) (ci := 2) (k := 3) (a := 0) (b := 0) hd rfl rfl rfl rfl ?_
  refine l1_many mt_X3_areNoneOrOneBit (pc' := bif am_cc .eq (c.1 d 3) 0 then 23 else 7) (L' := [some (.ref d)]) (st' := []) 1 rfl ?_
  refine l1_bif rfl ?_ ?_
  · refine l1_many mt_X3_areNoneOrOneBit (pc' := 28) (L' := [some (.ref d)]) (st' := [.int 1]) 2 rfl ?_
    exact l1_ret mt_X3_areNoneOrOneBit rfl rfl rfl
  · refine l1_many mt_X3_areNoneOrOneBit (pc' := 8) (L' := [some (.ref d)]) (st' := [.ref d]) 1 rfl ?_
    refine l1_getI hQ mt_X3_areNoneOrOneBit rfl (o := d) (ci := 2) (k := 3) (a := 0) (b := 0) hd rfl rfl rfl rfl ?_
    refine l1_many mt_X3_areNoneOrOneBit (pc' := bif am_cc .ne (c.1 d 3) 1 then 27 else 15) (L' := [some (.ref d)]) (st' := []) 2 rfl ?_
    refine l1_bin rfl ?_ ?_
    · refine l1_many mt_X3_areNoneOrOneBit (pc' := 16) (L' := [some (.ref d)]) (st' := [.ref d]) 1 rfl ?_
      refine l1_getI hQ mt_X3_areNoneOrOneBit rfl (o := d) (ci := 2) (k := 4) (a := 0) (b := 0) hd rfl rfl rfl rfl ?_
      refine l1_many mt_X3_areNoneOrOneBit (pc' := bif am_cc .ne (c.1 d 4) 1 then 27 else 23) (L' := [some (.ref d)]) (st' := []) 2 rfl ?_
      refine l1_bin rfl ?_ ?_
      · refine l1_many mt_X3_areNoneOrOneBit (pc' := 28) (L' := [some (.ref d)]) (st' := [.int 1]) 2 rfl ?_
        exact l1_ret mt_X3_areNoneOrOneBit rfl rfl rfl
      · refine l1_many mt_X3_areNoneOrOneBit (pc' := 28) (L' := [some (.ref d)]) (st' := [.int 0]) 1 rfl ?_
        exact l1_ret mt_X3_areNoneOrOneBit rfl rfl rfl
    · refine l1_many mt_X3_areNoneOrOneBit (pc' := 28) (L' := [some (.ref d)]) (st' := [.int 0]) 1 rfl ?_
      exact l1_ret mt_X3_areNoneOrOneBit rfl rfl rfl
theorem ok_X3_areNoneOrOneBit {Q : hS → am_H → Prop} (hQ : l1_em kc Q) (c : hS) (d : Nat) (hd : kc d = 2) : l1_T wI Q am_i_X3_areNoneOrOneBit [.ref d] c (f_X3_areNoneOrOneBit c d) := l1_of (en_X3_areNoneOrOneBit hQ c d hd) ⟨rfl, trivial⟩
set_option maxRecDepth 100000 in
theorem en_X4_sortBits {Q : hS → am_H → Prop} (hQ : l1_em kc Q) (c : hS) (p0 : Int64) : l1_G (wN wI) Q am_i_X4_sortBits 0 [some (.long p0)] [] c (f_X4_sortBits c p0) := by
  rw [f_X4_sortBits]
  refine l1_many mt_X4_sortBits (pc' := 9) (L' := [some (.long p0)]) (st' := [.int (((j_lushr p0 12) &&& 15).toInt32)]) 6 rfl ?_
  exact l1_ret mt_X4_sortBits rfl rfl rfl
theorem ok_X4_sortBits {Q : hS → am_H → Prop} (hQ : l1_em kc Q) (c : hS) (p0 : Int64) : l1_T wI Q am_i_X4_sortBits [.long p0] c (f_X4_sortBits c p0) := l1_of (en_X4_sortBits hQ c p0) ⟨rfl, trivial⟩
set_option maxRecDepth 100000 in
theorem ok_X4_digit_34 {Q : hS → am_H → Prop} (hQ : l1_em kc Q) (p0 : Int32) : ∀ (c : hS), l1_G (wN wI) Q am_i_X4_digit 34 [some (.int p0)] [] c (f_X4_digit_34 p0 c) := by
  intro c
  rw [f_X4_digit_34]
  refine l1_many mt_X4_digit (pc' := bif am_cc .lt p0 65 then 53 else 40) (L' := [some (.int p0)]) (st' := []) 3 rfl ?_
  refine l1_bif rfl ?_ ?_
  · refine l1_many mt_X4_digit (pc' := 54) (L' := [some (.int p0)]) (st' := [.int (-1)]) 1 rfl ?_
    exact l1_ret mt_X4_digit rfl rfl rfl
  · refine l1_many mt_X4_digit (pc' := bif am_cc .gt p0 70 then 53 else 46) (L' := [some (.int p0)]) (st' := []) 3 rfl ?_
    refine l1_bif rfl ?_ ?_
    · refine l1_many mt_X4_digit (pc' := 54) (L' := [some (.int p0)]) (st' := [.int (-1)]) 1 rfl ?_
      exact l1_ret mt_X4_digit rfl rfl rfl
    · refine l1_many mt_X4_digit (pc' := 54) (L' := [some (.int p0)]) (st' := [.int (p0 - 55)]) 4 rfl ?_
      exact l1_ret mt_X4_digit rfl rfl rfl
set_option maxRecDepth 100000 in
theorem ok_X4_digit_17 {Q : hS → am_H → Prop} (hQ : l1_em kc Q) (p0 : Int32) : ∀ (c : hS), l1_G (wN wI) Q am_i_X4_digit 17 [some (.int p0)] [] c (f_X4_digit_17 p0 c) := by
  intro c
  rw [f_X4_digit_17]
  refine l1_many mt_X4_digit (pc' := bif am_cc .lt p0 97 then 34 else 23) (L' := [some (.int p0)]) (st' := []) 3 rfl ?_
  refine l1_bif rfl ?_ ?_
  · exact ok_X4_digit_34 hQ p0 c
  · refine l1_many mt_X4_digit (pc' := bif am_cc .gt p0 102 then 34 else 29) (L' := [some (.int p0)]) (st' := []) 3 rfl ?_
    refine l1_bif rfl ?_ ?_
    · exact ok_X4_digit_34 hQ p0 c
    · refine l1_many mt_X4_digit (pc' := 33) (L' := [some (.int p0)]) (st' := [.int (p0 - 87)]) 3 rfl ?_
      exact l1_ret mt_X4_digit rfl rfl rfl
set_option maxRecDepth 100000 in
theorem en_X4_digit {Q : hS → am_H → Prop} (hQ : l1_em kc Q) (c : hS) (p0 : Int32) : l1_G (wN wI) Q am_i_X4_digit 0 [some (.int p0)] [] c (f_X4_digit c p0) := by
  rw [f_X4_digit]
  refine l1_many mt_X4_digit (pc' := bif am_cc .lt p0 48 then 17 else 6) (L' := [some (.int p0)]) (st' := []) 3 rfl ?_
  refine l1_bif rfl ?_ ?_
  · exact ok_X4_digit_17 hQ p0 c
  · refine l1_many mt_X4_digit (pc' := bif am_cc .gt p0 57 then 17 else 12) (L' := [some (.int p0)]) (st' := []) 3 rfl ?_
    refine l1_bif rfl ?_ ?_
    · exact ok_X4_digit_17 hQ p0 c
    · refine l1_many mt_X4_digit (pc' := 16) (L' := [some (.int p0)]) (st' := [.int (p0 - 48)]) 3 rfl ?_
      exact l1_ret mt_X4_digit rfl rfl rfl
theorem ok_X4_digit {Q : hS → am_H → Prop} (hQ : l1_em kc Q) (c : hS) (p0 : Int32) : l1_T wI Q am_i_X4_digit [.int p0] c (f_X4_digit c p0) := l1_of (en_X4_digit hQ c p0) ⟨rfl, trivial⟩
set_option maxRecDepth 100000 in
theorem ok_X4_number_5 {Q : hS → am_H → Prop} (hQ : l1_em kc Q) (N : Nat) (p1 : Int32) : ∀ n : Nat, ∀ (c : hS) (v2 : Int64) (v4 : Int32), l1_G (wN wL) Q am_i_X4_number 5 [some (.ref 35), some (.int p1), some (.long v2), none, some (.int v4)] [] c (f_X4_number_5 N p1 n c v2 v4) := by
  intro n
  induction n with
  | zero => intro c v2 v4; exact l1_none
  | succ n ih =>
    intro c v2 v4
    rw [f_X4_number_5]
    refine l1_many mt_X4_number (pc' := bif am_cc .ge v4 (p1 + 8) then 41 else 14) (L' := [some (.ref 35), some (.int p1), some (.long v2), none, some (.int v4)]) (st' := []) 5 rfl ?_
    refine l1_bif rfl ?_ ?_
    · refine l1_many mt_X4_number (pc' := 42) (L' := [some (.ref 35), some (.int p1), some (.long v2), none, some (.int v4)]) (st' := [.long v2]) 1 rfl ?_
      exact l1_ret mt_X4_number rfl rfl rfl
    · refine l1_many mt_X4_number (pc' := 18) (L' := [some (.ref 35), some (.int p1), some (.long v2), none, some (.int v4)]) (st' := [.ref 35, .long (j_lshl v2 4)]) 4 rfl ?_
      refine l1_getR hQ mt_X4_number rfl (o := 35) (ci := 3) (k := 0) (a := 1) (b := 2) rfl rfl rfl rfl rfl (q := 3) rfl ?_
      refine l1_many mt_X4_number (pc' := 23) (L' := [some (.ref 35), some (.int p1), some (.long v2), none, some (.int v4)]) (st' := [.int v4, .ref 3, .long (j_lshl v2 4)]) 1 rfl ?_
      refine l1_callV hQ mt_X4_number mt_X2_get rfl rfl (o := 3) (ci := 1) (As := [.int v4]) (rest := [.long (j_lshl v2 4)]) rfl rfl rfl rfl rfl rfl (st1 := fun x1 => [.int x1, .long (j_lshl v2 4)]) (fun _ => rfl) (ok_X2_get hQ c 3 v4 rfl) (fun x1 c2 => ?_)
      refine l1_callS mt_X4_number mt_X4_digit rfl rfl (As := [.int x1]) (rest := [.long (j_lshl v2 4)]) rfl rfl rfl (st1 := fun x3 => [.int x3, .long (j_lshl v2 4)]) (fun _ => rfl) (ok_X4_digit hQ c2 x1) (fun x3 c4 => ?_)
      refine l1_many mt_X4_number (pc' := 5) (L' := [some (.ref 35), some (.int p1), some (.long ((j_lshl v2 4) ||| ((x3 &&& 15).toInt64))), none, some (.int (v4 + 1))]) (st' := []) 7 rfl ?_
      exact ih c4 ((j_lshl v2 4) ||| ((x3 &&& 15).toInt64)) (v4 + 1)
set_option maxRecDepth 100000 in
theorem en_X4_number {Q : hS → am_H → Prop} (hQ : l1_em kc Q) (N : Nat) (c : hS) (p1 : Int32) : l1_G (wN wL) Q am_i_X4_number 0 [some (.ref 35), some (.int p1)] [] c (f_X4_number N c p1) := by
  rw [f_X4_number]
  refine l1_many mt_X4_number (pc' := 5) (L' := [some (.ref 35), some (.int p1), some (.long 0), none, some (.int p1)]) (st' := []) 4 rfl ?_
  exact ok_X4_number_5 hQ N p1 N c 0 p1
theorem ok_X4_number {Q : hS → am_H → Prop} (hQ : l1_em kc Q) (N : Nat) (c : hS) (p1 : Int32) : l1_T wL Q am_i_X4_number [.ref 35, .int p1] c (f_X4_number N c p1) := l1_of (en_X4_number hQ N c p1) ⟨rfl, rfl, trivial⟩
set_option maxRecDepth 100000 in
theorem en_X4_sortOf {Q : hS → am_H → Prop} (hQ : l1_em kc Q) (N : Nat) (c : hS) (p1 : Int32) : l1_G (wN wI) Q am_i_X4_sortOf 0 [some (.ref 35), some (.int p1)] [] c (f_X4_sortOf N c p1) := by
  rw [f_X4_sortOf]
  refine l1_many mt_X4_sortOf (pc' := 5) (L' := [some (.ref 35), some (.int p1)]) (st' := [.int (p1 + 14), .ref 35]) 4 rfl ?_
  refine l1_callV hQ mt_X4_sortOf mt_X4_number rfl rfl (o := 35) (ci := 3) (As := [.int (p1 + 14)]) (rest := []) rfl rfl rfl rfl rfl rfl (st1 := fun x1 => [.long x1]) (fun _ => rfl) (ok_X4_number hQ N c (p1 + 14)) (fun x1 c2 => ?_)
  refine l1_callS mt_X4_sortOf mt_X4_sortBits rfl rfl (As := [.long x1]) (rest := []) rfl rfl rfl (st1 := fun x3 => [.int x3]) (fun _ => rfl) (ok_X4_sortBits hQ c2 x1) (fun x3 c4 => ?_)
  exact l1_ret mt_X4_sortOf rfl rfl rfl
theorem ok_X4_sortOf {Q : hS → am_H → Prop} (hQ : l1_em kc Q) (N : Nat) (c : hS) (p1 : Int32) : l1_T wI Q am_i_X4_sortOf [.ref 35, .int p1] c (f_X4_sortOf N c p1) := l1_of (en_X4_sortOf hQ N c p1) ⟨rfl, rfl, trivial⟩
set_option maxRecDepth 100000 in
theorem en_X4_isDirectory {Q : hS → am_H → Prop} (hQ : l1_em kc Q) (N : Nat) (c : hS) (p1 : Int32) : l1_G (wN wI) Q am_i_X4_isDirectory 0 [some (.ref 35), some (.int p1)] [] c (f_X4_isDirectory N c p1) := by
  rw [f_X4_isDirectory]
  refine l1_many mt_X4_isDirectory (pc' := 2) (L' := [some (.ref 35), some (.int p1)]) (st' := [.int p1, .ref 35]) 2 rfl ?_
  refine l1_callV hQ mt_X4_isDirectory mt_X4_sortOf rfl rfl (o := 35) (ci := 3) (As := [.int p1]) (rest := []) rfl rfl rfl rfl rfl rfl (st1 := fun x1 => [.int x1]) (fun _ => rfl) (ok_X4_sortOf hQ N c p1) (fun x1 c2 => ?_)
  refine l1_many mt_X4_isDirectory (pc' := 8) (L' := [some (.ref 35), some (.int p1)]) (st' := [.long 16877, .int x1]) 1 rfl ?_
  refine l1_callS mt_X4_isDirectory mt_X4_sortBits rfl rfl (As := [.long 16877]) (rest := [.int x1]) rfl rfl rfl (st1 := fun x3 => [.int x3, .int x1]) (fun _ => rfl) (ok_X4_sortBits hQ c2 16877) (fun x3 c4 => ?_)
  refine l1_many mt_X4_isDirectory (pc' := bif am_cc .ne x1 x3 then 18 else 14) (L' := [some (.ref 35), some (.int p1)]) (st' := []) 1 rfl ?_
  refine l1_bin rfl ?_ ?_
  · refine l1_many mt_X4_isDirectory (pc' := 19) (L' := [some (.ref 35), some (.int p1)]) (st' := [.int 1]) 2 rfl ?_
    exact l1_ret mt_X4_isDirectory rfl rfl rfl
  · refine l1_many mt_X4_isDirectory (pc' := 19) (L' := [some (.ref 35), some (.int p1)]) (st' := [.int 0]) 1 rfl ?_
    exact l1_ret mt_X4_isDirectory rfl rfl rfl
theorem ok_X4_isDirectory {Q : hS → am_H → Prop} (hQ : l1_em kc Q) (N : Nat) (c : hS) (p1 : Int32) : l1_T wI Q am_i_X4_isDirectory [.ref 35, .int p1] c (f_X4_isDirectory N c p1) := l1_of (en_X4_isDirectory hQ N c p1) ⟨rfl, rfl, trivial⟩
set_option maxRecDepth 100000 in
theorem ok_X4_isHead_21 {Q : hS → am_H → Prop} (hQ : l1_em kc Q) (N : Nat) (p1 : Int32) : ∀ n : Nat, ∀ (c : hS) (v2 : Int32), l1_G (wN wI) Q am_i_X4_isHead 21 [some (.ref 35), some (.int p1), some (.int v2)] [] c (f_X4_isHead_21 N p1 n c v2) := by
  intro n
  induction n with
  | zero => intro c v2; exact l1_none
  | succ n ih =>
    intro c v2
    rw [f_X4_isHead_21]
    refine l1_many mt_X4_isHead (pc' := bif am_cc .ge v2 (p1 + 110) then 61 else 29) (L' := [some (.ref 35), some (.int p1), some (.int v2)]) (st' := []) 5 rfl ?_
    refine l1_bif rfl ?_ ?_
    · refine l1_many mt_X4_isHead (pc' := 62) (L' := [some (.ref 35), some (.int p1), some (.int v2)]) (st' := [.int 1]) 1 rfl ?_
      exact l1_ret mt_X4_isHead rfl rfl rfl
    · refine l1_many mt_X4_isHead (pc' := 30) (L' := [some (.ref 35), some (.int p1), some (.int v2)]) (st' := [.ref 35]) 1 rfl ?_
      refine l1_getR hQ mt_X4_isHead rfl (o := 35) (ci := 3) (k := 0) (a := 1) (b := 2) rfl rfl rfl rfl rfl (q := 3) rfl ?_
      refine l1_many mt_X4_isHead (pc' := 34) (L' := [some (.ref 35), some (.int p1), some (.int v2)]) (st' := [.int v2, .ref 3]) 1 rfl ?_
      refine l1_callV hQ mt_X4_isHead mt_X2_get rfl rfl (o := 3) (ci := 1) (As := [.int v2]) (rest := []) rfl rfl rfl rfl rfl rfl (st1 := fun x1 => [.int x1]) (fun _ => rfl) (ok_X2_get hQ c 3 v2 rfl) (fun x1 c2 => ?_)
      refine l1_callS mt_X4_isHead mt_X4_digit rfl rfl (As := [.int x1]) (rest := []) rfl rfl rfl (st1 := fun x3 => [.int x3]) (fun _ => rfl) (ok_X4_digit hQ c2 x1) (fun x3 c4 => ?_)
      refine l1_many mt_X4_isHead (pc' := bif am_cc .ne x3 (-1) then 55 else 44) (L' := [some (.ref 35), some (.int p1), some (.int v2)]) (st' := []) 2 rfl ?_
      refine l1_bin rfl ?_ ?_
      · refine l1_many mt_X4_isHead (pc' := 45) (L' := [some (.ref 35), some (.int p1), some (.int v2)]) (st' := [.ref 35]) 1 rfl ?_
        refine l1_getR hQ mt_X4_isHead rfl (o := 35) (ci := 3) (k := 2) (a := 1) (b := 2) rfl rfl rfl rfl rfl (q := 9) rfl ?_
        refine l1_many mt_X4_isHead (pc' := 51) (L' := [some (.ref 35), some (.int p1), some (.int v2)]) (st' := [.int v2, .int 6, .ref 9]) 2 rfl ?_
        refine l1_callV hQ mt_X4_isHead mt_X6_tell rfl rfl (o := 9) (ci := 5) (As := [.int 6, .int v2]) (rest := []) rfl rfl rfl rfl rfl rfl (st1 := fun x5 => [.int x5]) (fun _ => rfl) (ok_X6_tell hQ c4 6 v2) (fun x5 c6 => ?_)
        refine l1_ck (fun hz => ?_)
        exact l1_retZ mt_X4_isHead rfl rfl rfl hz
      · refine l1_many mt_X4_isHead (pc' := 21) (L' := [some (.ref 35), some (.int p1), some (.int (v2 + 1))]) (st' := []) 2 rfl ?_
        exact ih c4 (v2 + 1)
set_option maxRecDepth 100000 in
theorem en_X4_isHead {Q : hS → am_H → Prop} (hQ : l1_em kc Q) (N : Nat) (c : hS) (p1 : Int32) : l1_G (wN wI) Q am_i_X4_isHead 0 [some (.ref 35), some (.int p1)] [] c (f_X4_isHead N c p1) := by
  rw [f_X4_isHead]
  refine l1_many mt_X4_isHead (pc' := 6) (L' := [some (.ref 35), some (.int p1)]) (st' := [.int 3, .ref 1000000002, .int p1, .ref 35]) 4 rfl ?_
  refine l1_callV hQ mt_X4_isHead mt_X0_isMarked rfl rfl (o := 35) (ci := 3) (As := [.int p1, .ref 1000000002, .int 3]) (rest := []) rfl rfl rfl rfl rfl rfl (st1 := fun x1 => [.int x1]) (fun _ => rfl) (ok_X0_isMarked_35 hQ N c p1 sa2 3 oa2) (fun x1 c2 => ?_)
  refine l1_many mt_X4_isHead (pc' := bif am_cc .ne x1 0 then 14 else 12) (L' := [some (.ref 35), some (.int p1)]) (st' := []) 1 rfl ?_
  refine l1_bin rfl ?_ ?_
  · refine l1_many mt_X4_isHead (pc' := 13) (L' := [some (.ref 35), some (.int p1)]) (st' := [.int 0]) 1 rfl ?_
    exact l1_ret mt_X4_isHead rfl rfl rfl
  · refine l1_many mt_X4_isHead (pc' := 18) (L' := [some (.ref 35), some (.int p1)]) (st' := [.ref 1000000002, .int p1]) 2 rfl ?_
    refine l1_slen hQ mt_X4_isHead rfl oa2 ?_
    refine l1_many mt_X4_isHead (pc' := 21) (L' := [some (.ref 35), some (.int p1), some (.int (p1 + (Int32.ofNat sa2.length)))]) (st' := []) 2 rfl ?_
    exact ok_X4_isHead_21 hQ N p1 N c2 (p1 + (Int32.ofNat sa2.length))
theorem ok_X4_isHead {Q : hS → am_H → Prop} (hQ : l1_em kc Q) (N : Nat) (c : hS) (p1 : Int32) : l1_T wI Q am_i_X4_isHead [.ref 35, .int p1] c (f_X4_isHead N c p1) := l1_of (en_X4_isHead hQ N c p1) ⟨rfl, rfl, trivial⟩
set_option maxRecDepth 100000 in
theorem en_X4_isSized {Q : hS → am_H → Prop} (hQ : l1_em kc Q) (N : Nat) (c : hS) (p1 : Int32) (p2 : Int32) : l1_G (wN wI) Q am_i_X4_isSized 0 [some (.ref 35), some (.int p1), some (.int p2)] [] c (f_X4_isSized N c p1 p2) := by
  rw [f_X4_isSized]
  refine l1_many mt_X4_isSized (pc' := 5) (L' := [some (.ref 35), some (.int p1), some (.int p2)]) (st' := [.int (p1 + 54), .ref 35]) 4 rfl ?_
  refine l1_callV hQ mt_X4_isSized mt_X4_number rfl rfl (o := 35) (ci := 3) (As := [.int (p1 + 54)]) (rest := []) rfl rfl rfl rfl rfl rfl (st1 := fun x1 => [.long x1]) (fun _ => rfl) (ok_X4_number hQ N c (p1 + 54)) (fun x1 c2 => ?_)
  refine l1_many mt_X4_isSized (pc' := bif am_cc .le (j_cmp x1 p2.toInt64) 0 then 30 else 14) (L' := [some (.ref 35), some (.int p1), some (.int p2)]) (st' := []) 4 rfl ?_
  refine l1_bif rfl ?_ ?_
  · refine l1_many mt_X4_isSized (pc' := 35) (L' := [some (.ref 35), some (.int p1), some (.int p2)]) (st' := [.int 1]) 2 rfl ?_
    exact l1_ret mt_X4_isSized rfl rfl rfl
  · refine l1_many mt_X4_isSized (pc' := 15) (L' := [some (.ref 35), some (.int p1), some (.int p2)]) (st' := [.ref 35]) 1 rfl ?_
    refine l1_getR hQ mt_X4_isSized rfl (o := 35) (ci := 3) (k := 2) (a := 1) (b := 2) rfl rfl rfl rfl rfl (q := 9) rfl ?_
    refine l1_many mt_X4_isSized (pc' := 24) (L' := [some (.ref 35), some (.int p1), some (.int p2)]) (st' := [.int (p1 + 54), .int 7, .ref 9]) 4 rfl ?_
    refine l1_callV hQ mt_X4_isSized mt_X6_tell rfl rfl (o := 9) (ci := 5) (As := [.int 7, .int (p1 + 54)]) (rest := []) rfl rfl rfl rfl rfl rfl (st1 := fun x3 => [.int x3]) (fun _ => rfl) (ok_X6_tell hQ c2 7 (p1 + 54)) (fun x3 c4 => ?_)
    refine l1_many mt_X4_isSized (pc' := bif am_cc .eq x3 0 then 34 else 30) (L' := [some (.ref 35), some (.int p1), some (.int p2)]) (st' := []) 1 rfl ?_
    refine l1_bif rfl ?_ ?_
    · refine l1_many mt_X4_isSized (pc' := 35) (L' := [some (.ref 35), some (.int p1), some (.int p2)]) (st' := [.int 0]) 1 rfl ?_
      exact l1_ret mt_X4_isSized rfl rfl rfl
    · refine l1_many mt_X4_isSized (pc' := 35) (L' := [some (.ref 35), some (.int p1), some (.int p2)]) (st' := [.int 1]) 2 rfl ?_
      exact l1_ret mt_X4_isSized rfl rfl rfl
theorem ok_X4_isSized {Q : hS → am_H → Prop} (hQ : l1_em kc Q) (N : Nat) (c : hS) (p1 : Int32) (p2 : Int32) : l1_T wI Q am_i_X4_isSized [.ref 35, .int p1, .int p2] c (f_X4_isSized N c p1 p2) := l1_of (en_X4_isSized hQ N c p1 p2) ⟨rfl, rfl, rfl, trivial⟩
set_option maxRecDepth 100000 in
theorem ok_X4_isMember_83 {Q : hS → am_H → Prop} (hQ : l1_em kc Q) (N : Nat) (p1 : Int32) : ∀ (c : hS) (w0 : Int32) (w1 : Int32), l1_G (wN wI) Q am_i_X4_isMember 83 [some (.ref 35), some (.int p1)] [.int w0, .int w1, .ref 35] c (f_X4_isMember_83 N p1 c w0 w1) := by
  intro c w0 w1
  rw [f_X4_isMember_83]
  refine l1_callV hQ mt_X4_isMember mt_X4_isSized rfl rfl (o := 35) (ci := 3) (As := [.int w1, .int w0]) (rest := []) rfl rfl rfl rfl rfl rfl (st1 := fun x1 => [.int x1]) (fun _ => rfl) (ok_X4_isSized hQ N c w1 w0) (fun x1 c2 => ?_)
  refine l1_many mt_X4_isMember (pc' := bif am_cc .eq x1 0 then 104 else 89) (L' := [some (.ref 35), some (.int p1)]) (st' := []) 1 rfl ?_
  refine l1_bif rfl ?_ ?_
  · refine l1_many mt_X4_isMember (pc' := 105) (L' := [some (.ref 35), some (.int p1)]) (st' := [.int 0]) 1 rfl ?_
    exact l1_ret mt_X4_isMember rfl rfl rfl
  · refine l1_many mt_X4_isMember (pc' := 94) (L' := [some (.ref 35), some (.int p1)]) (st' := [.int (p1 + 110), .ref 35]) 4 rfl ?_
    refine l1_callV hQ mt_X4_isMember mt_X0_isNamed rfl rfl (o := 35) (ci := 3) (As := [.int (p1 + 110)]) (rest := []) rfl rfl rfl rfl rfl rfl (st1 := fun x3 => [.int x3]) (fun _ => rfl) (ok_X0_isNamed_35 hQ N c2 (p1 + 110)) (fun x3 c4 => ?_)
    refine l1_many mt_X4_isMember (pc' := bif am_cc .eq x3 0 then 104 else 100) (L' := [some (.ref 35), some (.int p1)]) (st' := []) 1 rfl ?_
    refine l1_bif rfl ?_ ?_
    · refine l1_many mt_X4_isMember (pc' := 105) (L' := [some (.ref 35), some (.int p1)]) (st' := [.int 0]) 1 rfl ?_
      exact l1_ret mt_X4_isMember rfl rfl rfl
    · refine l1_many mt_X4_isMember (pc' := 105) (L' := [some (.ref 35), some (.int p1)]) (st' := [.int 1]) 2 rfl ?_
      exact l1_ret mt_X4_isMember rfl rfl rfl
set_option maxRecDepth 100000 in
theorem ok_X4_isMember_40 {Q : hS → am_H → Prop} (hQ : l1_em kc Q) (N : Nat) (p1 : Int32) : ∀ (c : hS), l1_G (wN wI) Q am_i_X4_isMember 40 [some (.ref 35), some (.int p1)] [] c (f_X4_isMember_40 N p1 c) := by
  intro c
  rw [f_X4_isMember_40]
  refine l1_many mt_X4_isMember (pc' := 45) (L' := [some (.ref 35), some (.int p1)]) (st' := [.int (p1 + 102), .ref 35]) 4 rfl ?_
  refine l1_callV hQ mt_X4_isMember mt_X4_number rfl rfl (o := 35) (ci := 3) (As := [.int (p1 + 102)]) (rest := []) rfl rfl rfl rfl rfl rfl (st1 := fun x1 => [.long x1]) (fun _ => rfl) (ok_X4_number hQ N c (p1 + 102)) (fun x1 c2 => ?_)
  refine l1_many mt_X4_isMember (pc' := bif am_cc .eq (j_cmp x1 0) 0 then 66 else 53) (L' := [some (.ref 35), some (.int p1)]) (st' := []) 3 rfl ?_
  refine l1_bif rfl ?_ ?_
  · refine l1_many mt_X4_isMember (pc' := 70) (L' := [some (.ref 35), some (.int p1)]) (st' := [.int p1, .ref 35, .int p1, .ref 35]) 4 rfl ?_
    refine l1_callV hQ mt_X4_isMember mt_X4_isDirectory rfl rfl (o := 35) (ci := 3) (As := [.int p1]) (rest := [.int p1, .ref 35]) rfl rfl rfl rfl rfl rfl (st1 := fun x3 => [.int x3, .int p1, .ref 35]) (fun _ => rfl) (ok_X4_isDirectory hQ N c2 p1) (fun x3 c4 => ?_)
    refine l1_many mt_X4_isMember (pc' := bif am_cc .eq x3 0 then 80 else 76) (L' := [some (.ref 35), some (.int p1)]) (st' := [.int p1, .ref 35]) 1 rfl ?_
    refine l1_bif rfl ?_ ?_
    · refine l1_many mt_X4_isMember (pc' := 83) (L' := [some (.ref 35), some (.int p1)]) (st' := [.int 400, .int p1, .ref 35]) 1 rfl ?_
      exact ok_X4_isMember_83 hQ N p1 c4 400 p1
    · refine l1_many mt_X4_isMember (pc' := 83) (L' := [some (.ref 35), some (.int p1)]) (st' := [.int 0, .int p1, .ref 35]) 2 rfl ?_
      exact ok_X4_isMember_83 hQ N p1 c4 0 p1
  · refine l1_many mt_X4_isMember (pc' := 54) (L' := [some (.ref 35), some (.int p1)]) (st' := [.ref 35]) 1 rfl ?_
    refine l1_getR hQ mt_X4_isMember rfl (o := 35) (ci := 3) (k := 2) (a := 1) (b := 2) rfl rfl rfl rfl rfl (q := 9) rfl ?_
    refine l1_many mt_X4_isMember (pc' := 62) (L' := [some (.ref 35), some (.int p1)]) (st' := [.int (p1 + 102), .int 4, .ref 9]) 4 rfl ?_
    refine l1_callV hQ mt_X4_isMember mt_X6_tell rfl rfl (o := 9) (ci := 5) (As := [.int 4, .int (p1 + 102)]) (rest := []) rfl rfl rfl rfl rfl rfl (st1 := fun x5 => [.int x5]) (fun _ => rfl) (ok_X6_tell hQ c2 4 (p1 + 102)) (fun x5 c6 => ?_)
    refine l1_ck (fun hz => ?_)
    exact l1_retZ mt_X4_isMember rfl rfl rfl hz
set_option maxRecDepth 100000 in
theorem en_X4_isMember {Q : hS → am_H → Prop} (hQ : l1_em kc Q) (N : Nat) (c : hS) (p1 : Int32) : l1_G (wN wI) Q am_i_X4_isMember 0 [some (.ref 35), some (.int p1)] [] c (f_X4_isMember N c p1) := by
  rw [f_X4_isMember]
  refine l1_many mt_X4_isMember (pc' := 2) (L' := [some (.ref 35), some (.int p1)]) (st' := [.int p1, .ref 35]) 2 rfl ?_
  refine l1_callV hQ mt_X4_isMember mt_X4_sortOf rfl rfl (o := 35) (ci := 3) (As := [.int p1]) (rest := []) rfl rfl rfl rfl rfl rfl (st1 := fun x1 => [.int x1]) (fun _ => rfl) (ok_X4_sortOf hQ N c p1) (fun x1 c2 => ?_)
  refine l1_many mt_X4_isMember (pc' := 10) (L' := [some (.ref 35), some (.int p1), some (.int x1)]) (st' := [.long 33188, .int x1]) 3 rfl ?_
  refine l1_callS mt_X4_isMember mt_X4_sortBits rfl rfl (As := [.long 33188]) (rest := [.int x1]) rfl rfl rfl (st1 := fun x3 => [.int x3, .int x1]) (fun _ => rfl) (ok_X4_sortBits hQ c2 33188) (fun x3 c4 => ?_)
  refine l1_many mt_X4_isMember (pc' := bif am_cc .eq x1 x3 then 40 else 16) (L' := [some (.ref 35), some (.int p1), some (.int x1)]) (st' := []) 1 rfl ?_
  refine l1_bif rfl ?_ ?_
  · refine l1_weak (m := [true, true, false]) (L' := [some (.ref 35), some (.int p1)]) rfl ?_
    exact ok_X4_isMember_40 hQ N p1 c4
  · refine l1_many mt_X4_isMember (pc' := 20) (L' := [some (.ref 35), some (.int p1), some (.int x1)]) (st' := [.long 16877, .int x1]) 2 rfl ?_
    refine l1_callS mt_X4_isMember mt_X4_sortBits rfl rfl (As := [.long 16877]) (rest := [.int x1]) rfl rfl rfl (st1 := fun x5 => [.int x5, .int x1]) (fun _ => rfl) (ok_X4_sortBits hQ c4 16877) (fun x5 c6 => ?_)
    refine l1_many mt_X4_isMember (pc' := bif am_cc .eq x1 x5 then 40 else 26) (L' := [some (.ref 35), some (.int p1), some (.int x1)]) (st' := []) 1 rfl ?_
    refine l1_bif rfl ?_ ?_
    · refine l1_weak (m := [true, true, false]) (L' := [some (.ref 35), some (.int p1)]) rfl ?_
      exact ok_X4_isMember_40 hQ N p1 c6
    · refine l1_many mt_X4_isMember (pc' := 27) (L' := [some (.ref 35), some (.int p1), some (.int x1)]) (st' := [.ref 35]) 1 rfl ?_
      refine l1_getR hQ mt_X4_isMember rfl (o := 35) (ci := 3) (k := 2) (a := 1) (b := 2) rfl rfl rfl rfl rfl (q := 9) rfl ?_
      refine l1_many mt_X4_isMember (pc' := 36) (L' := [some (.ref 35), some (.int p1), some (.int x1)]) (st' := [.int (p1 + 14), .int 8, .ref 9]) 4 rfl ?_
      refine l1_callV hQ mt_X4_isMember mt_X6_tell rfl rfl (o := 9) (ci := 5) (As := [.int 8, .int (p1 + 14)]) (rest := []) rfl rfl rfl rfl rfl rfl (st1 := fun x7 => [.int x7]) (fun _ => rfl) (ok_X6_tell hQ c6 8 (p1 + 14)) (fun x7 c8 => ?_)
      refine l1_ck (fun hz => ?_)
      exact l1_retZ mt_X4_isMember rfl rfl rfl hz
theorem ok_X4_isMember {Q : hS → am_H → Prop} (hQ : l1_em kc Q) (N : Nat) (c : hS) (p1 : Int32) : l1_T wI Q am_i_X4_isMember [.ref 35, .int p1] c (f_X4_isMember N c p1) := l1_of (en_X4_isMember hQ N c p1) ⟨rfl, rfl, trivial⟩
set_option maxRecDepth 100000 in
theorem ok_X4_isSpelt_23 {Q : hS → am_H → Prop} (hQ : l1_em kc Q) (N : Nat) (p1 : Int32) : ∀ (c : hS), l1_G (wN wI) Q am_i_X4_isSpelt 23 [some (.ref 35), some (.int p1)] [] c (f_X4_isSpelt_23 N p1 c) := by
  intro c
  rw [f_X4_isSpelt_23]
  refine l1_many mt_X4_isSpelt (pc' := 24) (L' := [some (.ref 35), some (.int p1)]) (st' := [.ref 35]) 1 rfl ?_
  refine l1_getR hQ mt_X4_isSpelt rfl (o := 35) (ci := 3) (k := 2) (a := 1) (b := 2) rfl rfl rfl rfl rfl (q := 9) rfl ?_
  refine l1_many mt_X4_isSpelt (pc' := 33) (L' := [some (.ref 35), some (.int p1)]) (st' := [.int (p1 + 94), .int 10, .ref 9]) 4 rfl ?_
  refine l1_callV hQ mt_X4_isSpelt mt_X6_tell rfl rfl (o := 9) (ci := 5) (As := [.int 10, .int (p1 + 94)]) (rest := []) rfl rfl rfl rfl rfl rfl (st1 := fun x1 => [.int x1]) (fun _ => rfl) (ok_X6_tell hQ c 10 (p1 + 94)) (fun x1 c2 => ?_)
  refine l1_ck (fun hz => ?_)
  exact l1_retZ mt_X4_isSpelt rfl rfl rfl hz
set_option maxRecDepth 100000 in
theorem en_X4_isSpelt {Q : hS → am_H → Prop} (hQ : l1_em kc Q) (N : Nat) (c : hS) (p1 : Int32) : l1_G (wN wI) Q am_i_X4_isSpelt 0 [some (.ref 35), some (.int p1)] [] c (f_X4_isSpelt N c p1) := by
  rw [f_X4_isSpelt]
  refine l1_many mt_X4_isSpelt (pc' := 5) (L' := [some (.ref 35), some (.int p1)]) (st' := [.int (p1 + 94), .ref 35]) 4 rfl ?_
  refine l1_callV hQ mt_X4_isSpelt mt_X4_number rfl rfl (o := 35) (ci := 3) (As := [.int (p1 + 94)]) (rest := []) rfl rfl rfl rfl rfl rfl (st1 := fun x1 => [.long x1]) (fun _ => rfl) (ok_X4_number hQ N c (p1 + 94)) (fun x1 c2 => ?_)
  refine l1_many mt_X4_isSpelt (pc' := bif am_cc .lt (j_cmp x1 1) 0 then 23 else 15) (L' := [some (.ref 35), some (.int p1), some (.long x1)]) (st' := []) 5 rfl ?_
  refine l1_bif rfl ?_ ?_
  · refine l1_weak (m := [true, true, false, false, false]) (L' := [some (.ref 35), some (.int p1)]) rfl ?_
    exact ok_X4_isSpelt_23 hQ N p1 c2
  · refine l1_many mt_X4_isSpelt (pc' := bif am_cc .le (j_cmp x1 100) 0 then 37 else 23) (L' := [some (.ref 35), some (.int p1), some (.long x1)]) (st' := []) 4 rfl ?_
    refine l1_bif rfl ?_ ?_
    · refine l1_many mt_X4_isSpelt (pc' := 53) (L' := [some (.ref 35), some (.int p1), some (.long x1), none, some (.int (((p1 + 110) + x1.toInt32) - 1))]) (st' := [.int ((((p1 + 110) + x1.toInt32) - 1) + 1), .ref 35]) 13 rfl ?_
      refine l1_callV hQ mt_X4_isSpelt mt_X0_reaches rfl rfl (o := 35) (ci := 3) (As := [.int ((((p1 + 110) + x1.toInt32) - 1) + 1)]) (rest := []) rfl rfl rfl rfl rfl rfl (st1 := fun x3 => [.int x3]) (fun _ => rfl) (ok_X0_reaches_35 hQ c2 ((((p1 + 110) + x1.toInt32) - 1) + 1)) (fun x3 c4 => ?_)
      refine l1_many mt_X4_isSpelt (pc' := bif am_cc .ne x3 0 then 61 else 59) (L' := [some (.ref 35), some (.int p1), some (.long x1), none, some (.int (((p1 + 110) + x1.toInt32) - 1))]) (st' := []) 1 rfl ?_
      refine l1_bin rfl ?_ ?_
      · refine l1_many mt_X4_isSpelt (pc' := 60) (L' := [some (.ref 35), some (.int p1), some (.long x1), none, some (.int (((p1 + 110) + x1.toInt32) - 1))]) (st' := [.int 0]) 1 rfl ?_
        exact l1_ret mt_X4_isSpelt rfl rfl rfl
      · refine l1_many mt_X4_isSpelt (pc' := 62) (L' := [some (.ref 35), some (.int p1), some (.long x1), none, some (.int (((p1 + 110) + x1.toInt32) - 1))]) (st' := [.ref 35]) 1 rfl ?_
        refine l1_getR hQ mt_X4_isSpelt rfl (o := 35) (ci := 3) (k := 0) (a := 1) (b := 2) rfl rfl rfl rfl rfl (q := 3) rfl ?_
        refine l1_many mt_X4_isSpelt (pc' := 67) (L' := [some (.ref 35), some (.int p1), some (.long x1), none, some (.int (((p1 + 110) + x1.toInt32) - 1))]) (st' := [.int (((p1 + 110) + x1.toInt32) - 1), .ref 3]) 1 rfl ?_
        refine l1_callV hQ mt_X4_isSpelt mt_X2_get rfl rfl (o := 3) (ci := 1) (As := [.int (((p1 + 110) + x1.toInt32) - 1)]) (rest := []) rfl rfl rfl rfl rfl rfl (st1 := fun x5 => [.int x5]) (fun _ => rfl) (ok_X2_get hQ c4 3 (((p1 + 110) + x1.toInt32) - 1) rfl) (fun x5 c6 => ?_)
        refine l1_many mt_X4_isSpelt (pc' := bif am_cc .eq x5 0 then 85 else 73) (L' := [some (.ref 35), some (.int p1), some (.long x1), none, some (.int (((p1 + 110) + x1.toInt32) - 1))]) (st' := []) 1 rfl ?_
        refine l1_bif rfl ?_ ?_
        · refine l1_many mt_X4_isSpelt (pc' := 86) (L' := [some (.ref 35), some (.int p1), some (.long x1), none, some (.int (((p1 + 110) + x1.toInt32) - 1))]) (st' := [.ref 35]) 1 rfl ?_
          refine l1_getR hQ mt_X4_isSpelt rfl (o := 35) (ci := 3) (k := 1) (a := 1) (b := 2) rfl rfl rfl rfl rfl (q := 5) rfl ?_
          refine l1_many mt_X4_isSpelt (pc' := 90) (L' := [some (.ref 35), some (.int p1), some (.long x1), none, some (.int (((p1 + 110) + x1.toInt32) - 1))]) (st' := [.int 0, .ref 5]) 1 rfl ?_
          refine l1_callV hQ mt_X4_isSpelt mt_X2_cutTo rfl rfl (o := 5) (ci := 1) (As := [.int 0]) (rest := []) rfl rfl rfl rfl rfl rfl (st1 := fun _ => []) (fun _ => rfl) (ok_X2_cutTo hQ c6 5 0 rfl) (fun _ c7 => ?_)
          refine l1_many mt_X4_isSpelt (pc' := 94) (L' := [some (.ref 35), some (.int p1), some (.long x1), none, some (.int (((p1 + 110) + x1.toInt32) - 1))]) (st' := [.ref 35]) 1 rfl ?_
          refine l1_getR hQ mt_X4_isSpelt rfl (o := 35) (ci := 3) (k := 1) (a := 1) (b := 2) rfl rfl rfl rfl rfl (q := 5) rfl ?_
          refine l1_many mt_X4_isSpelt (pc' := 98) (L' := [some (.ref 35), some (.int p1), some (.long x1), none, some (.int (((p1 + 110) + x1.toInt32) - 1))]) (st' := [.ref 35, .ref 5]) 1 rfl ?_
          refine l1_getR hQ mt_X4_isSpelt rfl (o := 35) (ci := 3) (k := 0) (a := 1) (b := 2) rfl rfl rfl rfl rfl (q := 3) rfl ?_
          refine l1_many mt_X4_isSpelt (pc' := 107) (L' := [some (.ref 35), some (.int p1), some (.long x1), none, some (.int (((p1 + 110) + x1.toInt32) - 1))]) (st' := [.int (((p1 + 110) + x1.toInt32) - 1), .int (p1 + 110), .ref 3, .ref 5]) 4 rfl ?_
          refine l1_callV hQ mt_X4_isSpelt mt_X2_addRow rfl rfl (o := 5) (ci := 1) (As := [.ref 3, .int (p1 + 110), .int (((p1 + 110) + x1.toInt32) - 1)]) (rest := []) rfl rfl rfl rfl rfl rfl (st1 := fun _ => []) (fun _ => rfl) (ok_X2_addRow hQ N c7 5 3 (p1 + 110) (((p1 + 110) + x1.toInt32) - 1) rfl rfl) (fun _ c8 => ?_)
          refine l1_many mt_X4_isSpelt (pc' := 111) (L' := [some (.ref 35), some (.int p1), some (.long x1), none, some (.int (((p1 + 110) + x1.toInt32) - 1))]) (st' := [.int 1]) 1 rfl ?_
          exact l1_ret mt_X4_isSpelt rfl rfl rfl
        · refine l1_many mt_X4_isSpelt (pc' := 74) (L' := [some (.ref 35), some (.int p1), some (.long x1), none, some (.int (((p1 + 110) + x1.toInt32) - 1))]) (st' := [.ref 35]) 1 rfl ?_
          refine l1_getR hQ mt_X4_isSpelt rfl (o := 35) (ci := 3) (k := 2) (a := 1) (b := 2) rfl rfl rfl rfl rfl (q := 9) rfl ?_
          refine l1_many mt_X4_isSpelt (pc' := 81) (L' := [some (.ref 35), some (.int p1), some (.long x1), none, some (.int (((p1 + 110) + x1.toInt32) - 1))]) (st' := [.int (((p1 + 110) + x1.toInt32) - 1), .int 10, .ref 9]) 2 rfl ?_
          refine l1_callV hQ mt_X4_isSpelt mt_X6_tell rfl rfl (o := 9) (ci := 5) (As := [.int 10, .int (((p1 + 110) + x1.toInt32) - 1)]) (rest := []) rfl rfl rfl rfl rfl rfl (st1 := fun x9 => [.int x9]) (fun _ => rfl) (ok_X6_tell hQ c6 10 (((p1 + 110) + x1.toInt32) - 1)) (fun x9 c10 => ?_)
          refine l1_ck (fun hz => ?_)
          exact l1_retZ mt_X4_isSpelt rfl rfl rfl hz
    · refine l1_weak (m := [true, true, false, false, false]) (L' := [some (.ref 35), some (.int p1)]) rfl ?_
      exact ok_X4_isSpelt_23 hQ N p1 c2
theorem ok_X4_isSpelt {Q : hS → am_H → Prop} (hQ : l1_em kc Q) (N : Nat) (c : hS) (p1 : Int32) : l1_T wI Q am_i_X4_isSpelt [.ref 35, .int p1] c (f_X4_isSpelt N c p1) := l1_of (en_X4_isSpelt hQ N c p1) ⟨rfl, rfl, trivial⟩
set_option maxRecDepth 100000 in
theorem ok_X4_takeIn_180 {Q : hS → am_H → Prop} (hQ : l1_em kc Q) (N : Nat) (p1 : Nat) (hp1 : kc p1 = 8) : ∀ (c : hS), l1_G (wN wI) Q am_i_X4_takeIn 180 [some (.ref 35)] [] c (f_X4_takeIn_180 N p1 c) := by
  intro c
  rw [f_X4_takeIn_180]
  refine l1_many mt_X4_takeIn (pc' := 181) (L' := [some (.ref 35)]) (st' := [.ref 35]) 1 rfl ?_
  refine l1_getR hQ mt_X4_takeIn rfl (o := 35) (ci := 3) (k := 2) (a := 1) (b := 2) rfl rfl rfl rfl rfl (q := 9) rfl ?_
  refine l1_many mt_X4_takeIn (pc' := 186) (L' := [some (.ref 35)]) (st' := [.ref 35, .int 1, .ref 9]) 2 rfl ?_
  refine l1_getR hQ mt_X4_takeIn rfl (o := 35) (ci := 3) (k := 0) (a := 1) (b := 2) rfl rfl rfl rfl rfl (q := 3) rfl ?_
  refine l1_callV hQ mt_X4_takeIn mt_X2_size rfl rfl (o := 3) (ci := 1) (As := []) (rest := [.int 1, .ref 9]) rfl rfl rfl rfl rfl rfl (st1 := fun x1 => [.int x1, .int 1, .ref 9]) (fun _ => rfl) (ok_X2_size hQ c 3 rfl) (fun x1 c2 => ?_)
  refine l1_callV hQ mt_X4_takeIn mt_X6_tell rfl rfl (o := 9) (ci := 5) (As := [.int 1, .int x1]) (rest := []) rfl rfl rfl rfl rfl rfl (st1 := fun x3 => [.int x3]) (fun _ => rfl) (ok_X6_tell hQ c2 1 x1) (fun x3 c4 => ?_)
  refine l1_ck (fun hz => ?_)
  exact l1_retZ mt_X4_takeIn rfl rfl rfl hz
set_option maxRecDepth 100000 in
theorem ok_X4_takeIn_4 {Q : hS → am_H → Prop} (hQ : l1_em kc Q) (N : Nat) (p1 : Nat) (hp1 : kc p1 = 8) : ∀ n : Nat, ∀ (c : hS) (v2 : Int32) (v3 : Int32), l1_G (wN wI) Q am_i_X4_takeIn 4 [some (.ref 35), some (.ref p1), some (.int v2), some (.int v3)] [] c (f_X4_takeIn_4 N p1 n c v2 v3) := by
  intro n
  induction n with
  | zero => intro c v2 v3; exact l1_none
  | succ n ih =>
    intro c v2 v3
    rw [f_X4_takeIn_4]
    refine l1_many mt_X4_takeIn (pc' := bif am_cc .ge v3 20000 then 180 else 11) (L' := [some (.ref 35), some (.ref p1), some (.int v2), some (.int v3)]) (st' := []) 3 rfl ?_
    refine l1_bif rfl ?_ ?_
    · refine l1_weak (m := [true, false, false, false, false, false, false, false]) (L' := [some (.ref 35)]) rfl ?_
      exact ok_X4_takeIn_180 hQ N p1 hp1 c
    · refine l1_many mt_X4_takeIn (pc' := 16) (L' := [some (.ref 35), some (.ref p1), some (.int v2), some (.int v3)]) (st' := [.ref 35, .int (v2 + 110)]) 4 rfl ?_
      refine l1_getR hQ mt_X4_takeIn rfl (o := 35) (ci := 3) (k := 0) (a := 1) (b := 2) rfl rfl rfl rfl rfl (q := 3) rfl ?_
      refine l1_callV hQ mt_X4_takeIn mt_X2_size rfl rfl (o := 3) (ci := 1) (As := []) (rest := [.int (v2 + 110)]) rfl rfl rfl rfl rfl rfl (st1 := fun x1 => [.int x1, .int (v2 + 110)]) (fun _ => rfl) (ok_X2_size hQ c 3 rfl) (fun x1 c2 => ?_)
      refine l1_many mt_X4_takeIn (pc' := bif am_cc .gt (v2 + 110) x1 then 180 else 25) (L' := [some (.ref 35), some (.ref p1), some (.int v2), some (.int v3)]) (st' := []) 1 rfl ?_
      refine l1_bif rfl ?_ ?_
      · refine l1_weak (m := [true, false, false, false, false, false, false, false]) (L' := [some (.ref 35)]) rfl ?_
        exact ok_X4_takeIn_180 hQ N p1 hp1 c2
      · refine l1_many mt_X4_takeIn (pc' := 27) (L' := [some (.ref 35), some (.ref p1), some (.int v2), some (.int v3)]) (st' := [.int v2, .ref 35]) 2 rfl ?_
        refine l1_callV hQ mt_X4_takeIn mt_X4_isHead rfl rfl (o := 35) (ci := 3) (As := [.int v2]) (rest := []) rfl rfl rfl rfl rfl rfl (st1 := fun x3 => [.int x3]) (fun _ => rfl) (ok_X4_isHead hQ N c2 v2) (fun x3 c4 => ?_)
        refine l1_many mt_X4_takeIn (pc' := bif am_cc .eq x3 0 then 41 else 33) (L' := [some (.ref 35), some (.ref p1), some (.int v2), some (.int v3)]) (st' := []) 1 rfl ?_
        refine l1_bif rfl ?_ ?_
        · refine l1_many mt_X4_takeIn (pc' := 42) (L' := [some (.ref 35), some (.ref p1), some (.int v2), some (.int v3)]) (st' := [.int 0]) 1 rfl ?_
          exact l1_ret mt_X4_takeIn rfl rfl rfl
        · refine l1_many mt_X4_takeIn (pc' := 35) (L' := [some (.ref 35), some (.ref p1), some (.int v2), some (.int v3)]) (st' := [.int v2, .ref 35]) 2 rfl ?_
          refine l1_callV hQ mt_X4_takeIn mt_X4_isSpelt rfl rfl (o := 35) (ci := 3) (As := [.int v2]) (rest := []) rfl rfl rfl rfl rfl rfl (st1 := fun x5 => [.int x5]) (fun _ => rfl) (ok_X4_isSpelt hQ N c4 v2) (fun x5 c6 => ?_)
          refine l1_many mt_X4_takeIn (pc' := bif am_cc .ne x5 0 then 43 else 41) (L' := [some (.ref 35), some (.ref p1), some (.int v2), some (.int v3)]) (st' := []) 1 rfl ?_
          refine l1_bin rfl ?_ ?_
          · refine l1_many mt_X4_takeIn (pc' := 42) (L' := [some (.ref 35), some (.ref p1), some (.int v2), some (.int v3)]) (st' := [.int 0]) 1 rfl ?_
            exact l1_ret mt_X4_takeIn rfl rfl rfl
          · refine l1_many mt_X4_takeIn (pc' := 48) (L' := [some (.ref 35), some (.ref p1), some (.int v2), some (.int v3)]) (st' := [.ref 35, .int (v2 + 110)]) 4 rfl ?_
            refine l1_getR hQ mt_X4_takeIn rfl (o := 35) (ci := 3) (k := 1) (a := 1) (b := 2) rfl rfl rfl rfl rfl (q := 5) rfl ?_
            refine l1_callV hQ mt_X4_takeIn mt_X2_size rfl rfl (o := 5) (ci := 1) (As := []) (rest := [.int (v2 + 110)]) rfl rfl rfl rfl rfl rfl (st1 := fun x7 => [.int x7, .int (v2 + 110)]) (fun _ => rfl) (ok_X2_size hQ c6 5 rfl) (fun x7 c8 => ?_)
            refine l1_many mt_X4_takeIn (pc' := 60) (L' := [some (.ref 35), some (.ref p1), some (.int v2), some (.int v3), some (.int (((v2 + 110) + x7) + 1))]) (st' := [.ref 35]) 5 rfl ?_
            refine l1_getR hQ mt_X4_takeIn rfl (o := 35) (ci := 3) (k := 1) (a := 1) (b := 2) rfl rfl rfl rfl rfl (q := 5) rfl ?_
            refine l1_many mt_X4_takeIn (pc' := 65) (L' := [some (.ref 35), some (.ref p1), some (.int v2), some (.int v3), some (.int (((v2 + 110) + x7) + 1))]) (st' := [.ref 1000000119, .ref 5]) 1 rfl ?_
            refine l1_callV hQ mt_X4_takeIn mt_X2_isText rfl rfl (o := 5) (ci := 1) (As := [.ref 1000000119]) (rest := []) rfl rfl rfl rfl rfl rfl (st1 := fun x9 => [.int x9]) (fun _ => rfl) (ok_X2_isText hQ N c8 5 tx19 rfl ot19) (fun x9 c10 => ?_)
            refine l1_many mt_X4_takeIn (pc' := bif am_cc .eq x9 0 then 95 else 71) (L' := [some (.ref 35), some (.ref p1), some (.int v2), some (.int v3), some (.int (((v2 + 110) + x7) + 1))]) (st' := []) 1 rfl ?_
            refine l1_bif rfl ?_ ?_
            · refine l1_many mt_X4_takeIn (pc' := 97) (L' := [some (.ref 35), some (.ref p1), some (.int v2), some (.int v3), some (.int (((v2 + 110) + x7) + 1))]) (st' := [.int v2, .ref 35]) 2 rfl ?_
              refine l1_callV hQ mt_X4_takeIn mt_X4_isMember rfl rfl (o := 35) (ci := 3) (As := [.int v2]) (rest := []) rfl rfl rfl rfl rfl rfl (st1 := fun x11 => [.int x11]) (fun _ => rfl) (ok_X4_isMember hQ N c10 v2) (fun x11 c12 => ?_)
              refine l1_many mt_X4_takeIn (pc' := bif am_cc .ne x11 0 then 105 else 103) (L' := [some (.ref 35), some (.ref p1), some (.int v2), some (.int v3), some (.int (((v2 + 110) + x7) + 1))]) (st' := []) 1 rfl ?_
              refine l1_bin rfl ?_ ?_
              · refine l1_many mt_X4_takeIn (pc' := 104) (L' := [some (.ref 35), some (.ref p1), some (.int v2), some (.int v3), some (.int (((v2 + 110) + x7) + 1))]) (st' := [.int 0]) 1 rfl ?_
                exact l1_ret mt_X4_takeIn rfl rfl rfl
              · refine l1_many mt_X4_takeIn (pc' := 108) (L' := [some (.ref 35), some (.ref p1), some (.int v2), some (.int v3), some (.int (((v2 + 110) + x7) + 1))]) (st' := [.int 4, .int (((v2 + 110) + x7) + 1)]) 2 rfl ?_
                refine l1_callS mt_X4_takeIn mt_X11_roundedUp rfl rfl (As := [.int (((v2 + 110) + x7) + 1), .int 4]) (rest := []) rfl rfl rfl (st1 := fun x13 => [.int x13]) (fun _ => rfl) (ok_X11_roundedUp hQ c12 (((v2 + 110) + x7) + 1) 4) (fun x13 c14 => ?_)
                refine l1_many mt_X4_takeIn (pc' := 118) (L' := [some (.ref 35), some (.ref p1), some (.int v2), some (.int v3), some (.int (((v2 + 110) + x7) + 1)), some (.int x13)]) (st' := [.int (v2 + 54), .ref 35]) 5 rfl ?_
                refine l1_callV hQ mt_X4_takeIn mt_X4_number rfl rfl (o := 35) (ci := 3) (As := [.int (v2 + 54)]) (rest := []) rfl rfl rfl rfl rfl rfl (st1 := fun x15 => [.long x15]) (fun _ => rfl) (ok_X4_number hQ N c14 (v2 + 54)) (fun x15 c16 => ?_)
                refine l1_many mt_X4_takeIn (pc' := 130) (L' := [some (.ref 35), some (.ref p1), some (.int v2), some (.int v3), some (.int (((v2 + 110) + x7) + 1)), some (.int x13), some (.int x15.toInt32)]) (st' := [.int 4, .int (x13 + x15.toInt32)]) 6 rfl ?_
                refine l1_callS mt_X4_takeIn mt_X11_roundedUp rfl rfl (As := [.int (x13 + x15.toInt32), .int 4]) (rest := []) rfl rfl rfl (st1 := fun x17 => [.int x17]) (fun _ => rfl) (ok_X11_roundedUp hQ c16 (x13 + x15.toInt32) 4) (fun x17 c18 => ?_)
                refine l1_many mt_X4_takeIn (pc' := 138) (L' := [some (.ref 35), some (.ref p1), some (.int v2), some (.int v3), some (.int (((v2 + 110) + x7) + 1)), some (.int x13), some (.int x15.toInt32), some (.int x17)]) (st' := [.int x17, .ref 35]) 3 rfl ?_
                refine l1_callV hQ mt_X4_takeIn mt_X0_reaches rfl rfl (o := 35) (ci := 3) (As := [.int x17]) (rest := []) rfl rfl rfl rfl rfl rfl (st1 := fun x19 => [.int x19]) (fun _ => rfl) (ok_X0_reaches_35 hQ c18 x17) (fun x19 c20 => ?_)
                refine l1_many mt_X4_takeIn (pc' := bif am_cc .eq x19 0 then 169 else 144) (L' := [some (.ref 35), some (.ref p1), some (.int v2), some (.int v3), some (.int (((v2 + 110) + x7) + 1)), some (.int x13), some (.int x15.toInt32), some (.int x17)]) (st' := []) 1 rfl ?_
                refine l1_bif rfl ?_ ?_
                · refine l1_many mt_X4_takeIn (pc' := 170) (L' := [some (.ref 35), some (.ref p1), some (.int v2), some (.int v3), some (.int (((v2 + 110) + x7) + 1)), some (.int x13), some (.int x15.toInt32), some (.int x17)]) (st' := [.int 0]) 1 rfl ?_
                  exact l1_ret mt_X4_takeIn rfl rfl rfl
                · refine l1_many mt_X4_takeIn (pc' := 148) (L' := [some (.ref 35), some (.ref p1), some (.int v2), some (.int v3), some (.int (((v2 + 110) + x7) + 1)), some (.int x13), some (.int x15.toInt32), some (.int x17)]) (st' := [.int v2, .ref 35, .ref p1, .ref 35]) 4 rfl ?_
                  refine l1_callV hQ mt_X4_takeIn mt_X4_isDirectory rfl rfl (o := 35) (ci := 3) (As := [.int v2]) (rest := [.ref p1, .ref 35]) rfl rfl rfl rfl rfl rfl (st1 := fun x21 => [.int x21, .ref p1, .ref 35]) (fun _ => rfl) (ok_X4_isDirectory hQ N c20 v2) (fun x21 c22 => ?_)
                  refine l1_many mt_X4_takeIn (pc' := 152) (L' := [some (.ref 35), some (.ref p1), some (.int v2), some (.int v3), some (.int (((v2 + 110) + x7) + 1)), some (.int x13), some (.int x15.toInt32), some (.int x17)]) (st' := [.ref 35, .int x21, .ref p1, .ref 35]) 1 rfl ?_
                  refine l1_getR hQ mt_X4_takeIn rfl (o := 35) (ci := 3) (k := 0) (a := 1) (b := 2) rfl rfl rfl rfl rfl (q := 3) rfl ?_
                  refine l1_many mt_X4_takeIn (pc' := 163) (L' := [some (.ref 35), some (.ref p1), some (.int v2), some (.int v3), some (.int (((v2 + 110) + x7) + 1)), some (.int x13), some (.int x15.toInt32), some (.int x17)]) (st' := [.int v2, .int (x13 + x15.toInt32), .int x13, .ref 3, .int x21, .ref p1, .ref 35]) 5 rfl ?_
                  refine l1_callV hQ mt_X4_takeIn mt_X0_arrives rfl rfl (o := 35) (ci := 3) (As := [.ref p1, .int x21, .ref 3, .int x13, .int (x13 + x15.toInt32), .int v2]) (rest := []) rfl rfl rfl rfl rfl rfl (st1 := fun x23 => [.int x23]) (fun _ => rfl) (ok_X0_arrives_35 hQ N c22 p1 x21 3 x13 (x13 + x15.toInt32) v2 hp1 rfl) (fun x23 c24 => ?_)
                  refine l1_many mt_X4_takeIn (pc' := bif am_cc .ne x23 0 then 171 else 169) (L' := [some (.ref 35), some (.ref p1), some (.int v2), some (.int v3), some (.int (((v2 + 110) + x7) + 1)), some (.int x13), some (.int x15.toInt32), some (.int x17)]) (st' := []) 1 rfl ?_
                  refine l1_bin rfl ?_ ?_
                  · refine l1_many mt_X4_takeIn (pc' := 170) (L' := [some (.ref 35), some (.ref p1), some (.int v2), some (.int v3), some (.int (((v2 + 110) + x7) + 1)), some (.int x13), some (.int x15.toInt32), some (.int x17)]) (st' := [.int 0]) 1 rfl ?_
                    exact l1_ret mt_X4_takeIn rfl rfl rfl
                  · refine l1_many mt_X4_takeIn (pc' := 4) (L' := [some (.ref 35), some (.ref p1), some (.int x17), some (.int (v3 + 1)), some (.int (((v2 + 110) + x7) + 1)), some (.int x13), some (.int x15.toInt32), some (.int x17)]) (st' := []) 4 rfl ?_
                    refine l1_weak (m := [true, true, true, true, false, false, false, false]) (L' := [some (.ref 35), some (.ref p1), some (.int x17), some (.int (v3 + 1))]) rfl ?_
                    exact ih c24 x17 (v3 + 1)
            · refine l1_many mt_X4_takeIn (pc' := 74) (L' := [some (.ref 35), some (.ref p1), some (.int v2), some (.int v3), some (.int (((v2 + 110) + x7) + 1))]) (st' := [.int 0, .int v2, .ref 35]) 3 rfl ?_
              refine l1_callV hQ mt_X4_takeIn mt_X4_isSized rfl rfl (o := 35) (ci := 3) (As := [.int v2, .int 0]) (rest := []) rfl rfl rfl rfl rfl rfl (st1 := fun x25 => [.int x25]) (fun _ => rfl) (ok_X4_isSized hQ N c10 v2 0) (fun x25 c26 => ?_)
              refine l1_many mt_X4_takeIn (pc' := bif am_cc .eq x25 0 then 93 else 80) (L' := [some (.ref 35), some (.ref p1), some (.int v2), some (.int v3), some (.int (((v2 + 110) + x7) + 1))]) (st' := []) 1 rfl ?_
              refine l1_bif rfl ?_ ?_
              · refine l1_many mt_X4_takeIn (pc' := 94) (L' := [some (.ref 35), some (.ref p1), some (.int v2), some (.int v3), some (.int (((v2 + 110) + x7) + 1))]) (st' := [.int 0]) 1 rfl ?_
                exact l1_ret mt_X4_takeIn rfl rfl rfl
              · refine l1_many mt_X4_takeIn (pc' := 83) (L' := [some (.ref 35), some (.ref p1), some (.int v2), some (.int v3), some (.int (((v2 + 110) + x7) + 1))]) (st' := [.int (((v2 + 110) + x7) + 1), .ref 35]) 2 rfl ?_
                refine l1_callV hQ mt_X4_takeIn mt_X0_isZeroFrom rfl rfl (o := 35) (ci := 3) (As := [.int (((v2 + 110) + x7) + 1)]) (rest := []) rfl rfl rfl rfl rfl rfl (st1 := fun x27 => [.int x27]) (fun _ => rfl) (ok_X0_isZeroFrom_35 hQ N c26 (((v2 + 110) + x7) + 1)) (fun x27 c28 => ?_)
                refine l1_many mt_X4_takeIn (pc' := bif am_cc .eq x27 0 then 93 else 89) (L' := [some (.ref 35), some (.ref p1), some (.int v2), some (.int v3), some (.int (((v2 + 110) + x7) + 1))]) (st' := []) 1 rfl ?_
                refine l1_bif rfl ?_ ?_
                · refine l1_many mt_X4_takeIn (pc' := 94) (L' := [some (.ref 35), some (.ref p1), some (.int v2), some (.int v3), some (.int (((v2 + 110) + x7) + 1))]) (st' := [.int 0]) 1 rfl ?_
                  exact l1_ret mt_X4_takeIn rfl rfl rfl
                · refine l1_many mt_X4_takeIn (pc' := 94) (L' := [some (.ref 35), some (.ref p1), some (.int v2), some (.int v3), some (.int (((v2 + 110) + x7) + 1))]) (st' := [.int 1]) 2 rfl ?_
                  exact l1_ret mt_X4_takeIn rfl rfl rfl
set_option maxRecDepth 100000 in
theorem en_X4_takeIn {Q : hS → am_H → Prop} (hQ : l1_em kc Q) (N : Nat) (c : hS) (p1 : Nat) (hp1 : kc p1 = 8) : l1_G (wN wI) Q am_i_X4_takeIn 0 [some (.ref 35), some (.ref p1)] [] c (f_X4_takeIn N c p1) := by
  rw [f_X4_takeIn]
  refine l1_many mt_X4_takeIn (pc' := 4) (L' := [some (.ref 35), some (.ref p1), some (.int 0), some (.int 0)]) (st' := []) 4 rfl ?_
  exact ok_X4_takeIn_4 hQ N p1 hp1 N c 0 0
theorem ok_X4_takeIn {Q : hS → am_H → Prop} (hQ : l1_em kc Q) (N : Nat) (c : hS) (p1 : Nat) (hp1 : kc p1 = 8) : l1_T wI Q am_i_X4_takeIn [.ref 35, .ref p1] c (f_X4_takeIn N c p1) := l1_of (en_X4_takeIn hQ N c p1 hp1) ⟨rfl, rfl, trivial⟩
set_option maxRecDepth 100000 in
theorem ok_X4_addNumber_3 {Q : hS → am_H → Prop} (hQ : l1_em kc Q) (N : Nat) (p1 : Int32) : ∀ n : Nat, ∀ (c : hS) (v2 : Int32), l1_G (wN wV) Q am_i_X4_addNumber 3 [some (.ref 35), some (.int p1), some (.int v2)] [] c (f_X4_addNumber_3 N p1 n c v2) := by
  intro n
  induction n with
  | zero => intro c v2; exact l1_none
  | succ n ih =>
    intro c v2
    rw [f_X4_addNumber_3]
    refine l1_many mt_X4_addNumber (pc' := bif am_cc .lt v2 0 then 44 else 7) (L' := [some (.ref 35), some (.int p1), some (.int v2)]) (st' := []) 2 rfl ?_
    refine l1_bif rfl ?_ ?_
    · exact l1_ret mt_X4_addNumber rfl rfl rfl
    · refine l1_many mt_X4_addNumber (pc' := 15) (L' := [some (.ref 35), some (.int p1), some (.int v2), some (.int ((j_ushr p1 v2) &&& 15))]) (st' := [.ref 35]) 7 rfl ?_
      refine l1_getR hQ mt_X4_addNumber rfl (o := 35) (ci := 3) (k := 0) (a := 1) (b := 2) rfl rfl rfl rfl rfl (q := 3) rfl ?_
      refine l1_many mt_X4_addNumber (pc' := bif am_cc .ge ((j_ushr p1 v2) &&& 15) 10 then 31 else 24) (L' := [some (.ref 35), some (.int p1), some (.int v2), some (.int ((j_ushr p1 v2) &&& 15))]) (st' := [.ref 3]) 3 rfl ?_
      refine l1_bif rfl ?_ ?_
      · refine l1_many mt_X4_addNumber (pc' := 35) (L' := [some (.ref 35), some (.int p1), some (.int v2), some (.int ((j_ushr p1 v2) &&& 15))]) (st' := [.int (87 + ((j_ushr p1 v2) &&& 15)), .ref 3]) 3 rfl ?_
        refine l1_callV hQ mt_X4_addNumber mt_X2_add rfl rfl (o := 3) (ci := 1) (As := [.int (87 + ((j_ushr p1 v2) &&& 15))]) (rest := []) rfl rfl rfl rfl rfl rfl (st1 := fun _ => []) (fun _ => rfl) (ok_X2_add hQ c 3 (87 + ((j_ushr p1 v2) &&& 15)) rfl) (fun _ c1 => ?_)
        refine l1_many mt_X4_addNumber (pc' := 3) (L' := [some (.ref 35), some (.int p1), some (.int (v2 + (-4))), some (.int ((j_ushr p1 v2) &&& 15))]) (st' := []) 2 rfl ?_
        refine l1_weak (m := [true, true, true, false]) (L' := [some (.ref 35), some (.int p1), some (.int (v2 + (-4)))]) rfl ?_
        exact ih c1 (v2 + (-4))
      · refine l1_many mt_X4_addNumber (pc' := 35) (L' := [some (.ref 35), some (.int p1), some (.int v2), some (.int ((j_ushr p1 v2) &&& 15))]) (st' := [.int (48 + ((j_ushr p1 v2) &&& 15)), .ref 3]) 4 rfl ?_
        refine l1_callV hQ mt_X4_addNumber mt_X2_add rfl rfl (o := 3) (ci := 1) (As := [.int (48 + ((j_ushr p1 v2) &&& 15))]) (rest := []) rfl rfl rfl rfl rfl rfl (st1 := fun _ => []) (fun _ => rfl) (ok_X2_add hQ c 3 (48 + ((j_ushr p1 v2) &&& 15)) rfl) (fun _ c2 => ?_)
        refine l1_many mt_X4_addNumber (pc' := 3) (L' := [some (.ref 35), some (.int p1), some (.int (v2 + (-4))), some (.int ((j_ushr p1 v2) &&& 15))]) (st' := []) 2 rfl ?_
        refine l1_weak (m := [true, true, true, false]) (L' := [some (.ref 35), some (.int p1), some (.int (v2 + (-4)))]) rfl ?_
        exact ih c2 (v2 + (-4))
set_option maxRecDepth 100000 in
theorem en_X4_addNumber {Q : hS → am_H → Prop} (hQ : l1_em kc Q) (N : Nat) (c : hS) (p1 : Int32) : l1_G (wN wV) Q am_i_X4_addNumber 0 [some (.ref 35), some (.int p1)] [] c (f_X4_addNumber N c p1) := by
  rw [f_X4_addNumber]
  refine l1_many mt_X4_addNumber (pc' := 3) (L' := [some (.ref 35), some (.int p1), some (.int 28)]) (st' := []) 2 rfl ?_
  exact ok_X4_addNumber_3 hQ N p1 N c 28
theorem ok_X4_addNumber {Q : hS → am_H → Prop} (hQ : l1_em kc Q) (N : Nat) (c : hS) (p1 : Int32) : l1_T wV Q am_i_X4_addNumber [.ref 35, .int p1] c (f_X4_addNumber N c p1) := l1_of (en_X4_addNumber hQ N c p1) ⟨rfl, rfl, trivial⟩
set_option maxRecDepth 100000 in
theorem ok_X4_addHead_13 {Q : hS → am_H → Prop} (hQ : l1_em kc Q) (N : Nat) (p1 : Int32) (p2 : Int32) (p3 : Int32) (p4 : Int32) : ∀ n : Nat, ∀ (c : hS) (v5 : Int32), l1_G (wN wV) Q am_i_X4_addHead 13 [some (.ref 35), some (.int p1), some (.int p2), some (.int p3), some (.int p4), some (.int v5)] [] c (f_X4_addHead_13 N p1 p2 p3 p4 n c v5) := by
  intro n
  induction n with
  | zero => intro c v5; exact l1_none
  | succ n ih =>
    intro c v5
    rw [f_X4_addHead_13]
    refine l1_many mt_X4_addHead (pc' := bif am_cc .ge v5 13 then 132 else 20) (L' := [some (.ref 35), some (.int p1), some (.int p2), some (.int p3), some (.int p4), some (.int v5)]) (st' := []) 3 rfl ?_
    refine l1_bif rfl ?_ ?_
    · exact l1_ret mt_X4_addHead rfl rfl rfl
    · refine l1_many mt_X4_addHead (pc' := 23) (L' := [some (.ref 35), some (.int p1), some (.int p2), some (.int p3), some (.int p4), some (.int v5)]) (st' := [.ref 1000000002]) 1 rfl ?_
      refine l1_slen hQ mt_X4_addHead rfl oa2 ?_
      refine l1_many mt_X4_addHead (pc' := 30) (L' := [some (.ref 35), some (.int p1), some (.int p2), some (.int p3), some (.int p4), some (.int v5)]) (st' := [.int ((Int32.ofNat sa2.length) + (8 * v5))]) 4 rfl ?_
      refine l1_ite (fun hs => ?_) (fun hs6 => ?_)
      · refine l1_sw mt_X4_addHead rfl (pc' := 80) (st' := []) rfl (by rw [hs]; rfl) ?_
        refine l1_many mt_X4_addHead (pc' := 82) (L' := [some (.ref 35), some (.int p1), some (.int p2), some (.int p3), some (.int p4), some (.int v5)]) (st' := [.int p1, .ref 35]) 2 rfl ?_
        refine l1_callV hQ mt_X4_addHead mt_X4_addNumber rfl rfl (o := 35) (ci := 3) (As := [.int p1]) (rest := []) rfl rfl rfl rfl rfl rfl (st1 := fun _ => []) (fun _ => rfl) (ok_X4_addNumber hQ N c p1) (fun _ c1 => ?_)
        refine l1_many mt_X4_addHead (pc' := 13) (L' := [some (.ref 35), some (.int p1), some (.int p2), some (.int p3), some (.int p4), some (.int (v5 + 1))]) (st' := []) 3 rfl ?_
        exact ih c1 (v5 + 1)
      refine l1_ite (fun hs => ?_) (fun hs14 => ?_)
      · refine l1_sw mt_X4_addHead rfl (pc' := 88) (st' := []) rfl (by rw [hs]; rfl) ?_
        refine l1_many mt_X4_addHead (pc' := 90) (L' := [some (.ref 35), some (.int p1), some (.int p2), some (.int p3), some (.int p4), some (.int v5)]) (st' := [.int p2, .ref 35]) 2 rfl ?_
        refine l1_callV hQ mt_X4_addHead mt_X4_addNumber rfl rfl (o := 35) (ci := 3) (As := [.int p2]) (rest := []) rfl rfl rfl rfl rfl rfl (st1 := fun _ => []) (fun _ => rfl) (ok_X4_addNumber hQ N c p2) (fun _ c2 => ?_)
        refine l1_many mt_X4_addHead (pc' := 13) (L' := [some (.ref 35), some (.int p1), some (.int p2), some (.int p3), some (.int p4), some (.int (v5 + 1))]) (st' := []) 3 rfl ?_
        exact ih c2 (v5 + 1)
      refine l1_ite (fun hs => ?_) (fun hs22 => ?_)
      · refine l1_sw mt_X4_addHead rfl (pc' := 96) (st' := []) rfl (by rw [hs]; rfl) ?_
        refine l1_many mt_X4_addHead (pc' := 98) (L' := [some (.ref 35), some (.int p1), some (.int p2), some (.int p3), some (.int p4), some (.int v5)]) (st' := [.int 1, .ref 35]) 2 rfl ?_
        refine l1_callV hQ mt_X4_addHead mt_X4_addNumber rfl rfl (o := 35) (ci := 3) (As := [.int 1]) (rest := []) rfl rfl rfl rfl rfl rfl (st1 := fun _ => []) (fun _ => rfl) (ok_X4_addNumber hQ N c 1) (fun _ c3 => ?_)
        refine l1_many mt_X4_addHead (pc' := 13) (L' := [some (.ref 35), some (.int p1), some (.int p2), some (.int p3), some (.int p4), some (.int (v5 + 1))]) (st' := []) 3 rfl ?_
        exact ih c3 (v5 + 1)
      refine l1_ite (fun hs => ?_) (fun hs54 => ?_)
      · refine l1_sw mt_X4_addHead rfl (pc' := 104) (st' := []) rfl (by rw [hs]; rfl) ?_
        refine l1_many mt_X4_addHead (pc' := 106) (L' := [some (.ref 35), some (.int p1), some (.int p2), some (.int p3), some (.int p4), some (.int v5)]) (st' := [.int p3, .ref 35]) 2 rfl ?_
        refine l1_callV hQ mt_X4_addHead mt_X4_addNumber rfl rfl (o := 35) (ci := 3) (As := [.int p3]) (rest := []) rfl rfl rfl rfl rfl rfl (st1 := fun _ => []) (fun _ => rfl) (ok_X4_addNumber hQ N c p3) (fun _ c4 => ?_)
        refine l1_many mt_X4_addHead (pc' := 13) (L' := [some (.ref 35), some (.int p1), some (.int p2), some (.int p3), some (.int p4), some (.int (v5 + 1))]) (st' := []) 3 rfl ?_
        exact ih c4 (v5 + 1)
      refine l1_ite (fun hs => ?_) (fun hs94 => ?_)
      · refine l1_sw mt_X4_addHead rfl (pc' := 112) (st' := []) rfl (by rw [hs]; rfl) ?_
        refine l1_many mt_X4_addHead (pc' := 115) (L' := [some (.ref 35), some (.int p1), some (.int p2), some (.int p3), some (.int p4), some (.int v5)]) (st' := [.int p4, .ref 35]) 2 rfl ?_
        refine l1_callV hQ mt_X4_addHead mt_X4_addNumber rfl rfl (o := 35) (ci := 3) (As := [.int p4]) (rest := []) rfl rfl rfl rfl rfl rfl (st1 := fun _ => []) (fun _ => rfl) (ok_X4_addNumber hQ N c p4) (fun _ c5 => ?_)
        refine l1_many mt_X4_addHead (pc' := 13) (L' := [some (.ref 35), some (.int p1), some (.int p2), some (.int p3), some (.int p4), some (.int (v5 + 1))]) (st' := []) 3 rfl ?_
        exact ih c5 (v5 + 1)
      refine l1_sw mt_X4_addHead rfl (pc' := 121) (st' := []) rfl (by have a6 : Int32.toInt ((Int32.ofNat sa2.length) + (8 * v5)) ≠ 6 := fun e => hs6 (Int32.toInt_inj.mp (e.trans (by decide +kernel))); have a14 : Int32.toInt ((Int32.ofNat sa2.length) + (8 * v5)) ≠ 14 := fun e => hs14 (Int32.toInt_inj.mp (e.trans (by decide +kernel))); have a22 : Int32.toInt ((Int32.ofNat sa2.length) + (8 * v5)) ≠ 22 := fun e => hs22 (Int32.toInt_inj.mp (e.trans (by decide +kernel))); have a54 : Int32.toInt ((Int32.ofNat sa2.length) + (8 * v5)) ≠ 54 := fun e => hs54 (Int32.toInt_inj.mp (e.trans (by decide +kernel))); have a94 : Int32.toInt ((Int32.ofNat sa2.length) + (8 * v5)) ≠ 94 := fun e => hs94 (Int32.toInt_inj.mp (e.trans (by decide +kernel))); exact l1_lsd (by decide +kernel) (⟨Ne.symm a6, Ne.symm a14, Ne.symm a22, Ne.symm a54, Ne.symm a94, trivial⟩) rfl) ?_
      · refine l1_many mt_X4_addHead (pc' := 123) (L' := [some (.ref 35), some (.int p1), some (.int p2), some (.int p3), some (.int p4), some (.int v5)]) (st' := [.int 0, .ref 35]) 2 rfl ?_
        refine l1_callV hQ mt_X4_addHead mt_X4_addNumber rfl rfl (o := 35) (ci := 3) (As := [.int 0]) (rest := []) rfl rfl rfl rfl rfl rfl (st1 := fun _ => []) (fun _ => rfl) (ok_X4_addNumber hQ N c 0) (fun _ c6 => ?_)
        refine l1_many mt_X4_addHead (pc' := 13) (L' := [some (.ref 35), some (.int p1), some (.int p2), some (.int p3), some (.int p4), some (.int (v5 + 1))]) (st' := []) 2 rfl ?_
        exact ih c6 (v5 + 1)
set_option maxRecDepth 100000 in
theorem en_X4_addHead {Q : hS → am_H → Prop} (hQ : l1_em kc Q) (N : Nat) (c : hS) (p1 : Int32) (p2 : Int32) (p3 : Int32) (p4 : Int32) : l1_G (wN wV) Q am_i_X4_addHead 0 [some (.ref 35), some (.int p1), some (.int p2), some (.int p3), some (.int p4)] [] c (f_X4_addHead N c p1 p2 p3 p4) := by
  rw [f_X4_addHead]
  refine l1_many mt_X4_addHead (pc' := 1) (L' := [some (.ref 35), some (.int p1), some (.int p2), some (.int p3), some (.int p4)]) (st' := [.ref 35]) 1 rfl ?_
  refine l1_getR hQ mt_X4_addHead rfl (o := 35) (ci := 3) (k := 0) (a := 1) (b := 2) rfl rfl rfl rfl rfl (q := 3) rfl ?_
  refine l1_many mt_X4_addHead (pc' := 7) (L' := [some (.ref 35), some (.int p1), some (.int p2), some (.int p3), some (.int p4)]) (st' := [.ref 1000000002, .ref 3]) 1 rfl ?_
  refine l1_callV hQ mt_X4_addHead mt_X2_addMark rfl rfl (o := 3) (ci := 1) (As := [.ref 1000000002]) (rest := []) rfl rfl rfl rfl rfl rfl (st1 := fun _ => []) (fun _ => rfl) (ok_X2_addMark hQ N c 3 sa2 rfl oa2) (fun _ c1 => ?_)
  refine l1_many mt_X4_addHead (pc' := 13) (L' := [some (.ref 35), some (.int p1), some (.int p2), some (.int p3), some (.int p4), some (.int 0)]) (st' := []) 2 rfl ?_
  exact ok_X4_addHead_13 hQ N p1 p2 p3 p4 N c1 0
theorem ok_X4_addHead {Q : hS → am_H → Prop} (hQ : l1_em kc Q) (N : Nat) (c : hS) (p1 : Int32) (p2 : Int32) (p3 : Int32) (p4 : Int32) : l1_T wV Q am_i_X4_addHead [.ref 35, .int p1, .int p2, .int p3, .int p4] c (f_X4_addHead N c p1 p2 p3 p4) := l1_of (en_X4_addHead hQ N c p1 p2 p3 p4) ⟨rfl, rfl, rfl, rfl, rfl, trivial⟩
set_option maxRecDepth 100000 in
theorem en_X4_addRest {Q : hS → am_H → Prop} (hQ : l1_em kc Q) (N : Nat) (c : hS) : l1_G (wN wV) Q am_i_X4_addRest 0 [some (.ref 35)] [] c (f_X4_addRest N c) := by
  rw [f_X4_addRest]
  refine l1_many mt_X4_addRest (pc' := 1) (L' := [some (.ref 35)]) (st' := [.ref 35]) 1 rfl ?_
  refine l1_getR hQ mt_X4_addRest rfl (o := 35) (ci := 3) (k := 0) (a := 1) (b := 2) rfl rfl rfl rfl rfl (q := 3) rfl ?_
  refine l1_many mt_X4_addRest (pc' := 5) (L' := [some (.ref 35)]) (st' := [.ref 35, .ref 3]) 1 rfl ?_
  refine l1_getR hQ mt_X4_addRest rfl (o := 35) (ci := 3) (k := 0) (a := 1) (b := 2) rfl rfl rfl rfl rfl (q := 3) rfl ?_
  refine l1_callV hQ mt_X4_addRest mt_X2_size rfl rfl (o := 3) (ci := 1) (As := []) (rest := [.ref 3]) rfl rfl rfl rfl rfl rfl (st1 := fun x1 => [.int x1, .ref 3]) (fun _ => rfl) (ok_X2_size hQ c 3 rfl) (fun x1 c2 => ?_)
  refine l1_many mt_X4_addRest (pc' := 12) (L' := [some (.ref 35)]) (st' := [.int 4, .int x1, .ref 3]) 1 rfl ?_
  refine l1_callS mt_X4_addRest mt_X11_roundedUp rfl rfl (As := [.int x1, .int 4]) (rest := [.ref 3]) rfl rfl rfl (st1 := fun x3 => [.int x3, .ref 3]) (fun _ => rfl) (ok_X11_roundedUp hQ c2 x1 4) (fun x3 c4 => ?_)
  refine l1_many mt_X4_addRest (pc' := 16) (L' := [some (.ref 35)]) (st' := [.ref 35, .int x3, .ref 3]) 1 rfl ?_
  refine l1_getR hQ mt_X4_addRest rfl (o := 35) (ci := 3) (k := 0) (a := 1) (b := 2) rfl rfl rfl rfl rfl (q := 3) rfl ?_
  refine l1_callV hQ mt_X4_addRest mt_X2_size rfl rfl (o := 3) (ci := 1) (As := []) (rest := [.int x3, .ref 3]) rfl rfl rfl rfl rfl rfl (st1 := fun x5 => [.int x5, .int x3, .ref 3]) (fun _ => rfl) (ok_X2_size hQ c4 3 rfl) (fun x5 c6 => ?_)
  refine l1_many mt_X4_addRest (pc' := 23) (L' := [some (.ref 35)]) (st' := [.int (x3 - x5), .ref 3]) 1 rfl ?_
  refine l1_callV hQ mt_X4_addRest mt_X2_addZeros rfl rfl (o := 3) (ci := 1) (As := [.int (x3 - x5)]) (rest := []) rfl rfl rfl rfl rfl rfl (st1 := fun _ => []) (fun _ => rfl) (ok_X2_addZeros hQ N c6 3 (x3 - x5) rfl) (fun _ c7 => ?_)
  exact l1_ret mt_X4_addRest rfl rfl rfl
theorem ok_X4_addRest {Q : hS → am_H → Prop} (hQ : l1_em kc Q) (N : Nat) (c : hS) : l1_T wV Q am_i_X4_addRest [.ref 35] c (f_X4_addRest N c) := l1_of (en_X4_addRest hQ N c) ⟨rfl, trivial⟩
