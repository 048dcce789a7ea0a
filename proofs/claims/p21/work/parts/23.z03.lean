section
/-! THAT THE MACHINE FOLLOWS THEM, printed by gen_l1.py -/
set_option maxRecDepth 100000 in
theorem ok_X3_placeSymbol_40 {Q : hS → am_H → Prop} (hQ : l1_em kc Q) (d : Nat) (p1 : Int32) (p2 : Int32) (hd : kc d = 2) : ∀ (c : hS), l1_G (wN wV) Q am_i_X3_placeSymbol 40 [some (.ref d), none, some (.int p2)] [] c (f_X3_placeSymbol_40 d p1 p2 c) := by
  intro c
  rw [f_X3_placeSymbol_40]
  refine l1_many mt_X3_placeSymbol (pc' := 41) (L' := [some (.ref d), none, some (.int p2)]) (st' := [.ref d]) 1 rfl ?_
  refine l1_getR hQ mt_X3_placeSymbol rfl (o := d) (ci := 2) (k := 1) (a := 0) (b := 1) hd rfl rfl rfl rfl (q := (d + 2)) rfl ?_
  refine l1_many mt_X3_placeSymbol (pc' := 46) (L' := [some (.ref d), none, some (.int p2)]) (st' := [.int p2, .ref (d + 2), .int p2, .ref (d + 2)]) 2 rfl ?_
  refine l1_ck (fun hx => ?_)
  refine l1_ald hQ mt_X3_placeSymbol rfl (o := (d + 2)) (kc2_1 hd) hx ?_
  refine l1_many mt_X3_placeSymbol (pc' := 49) (L' := [some (.ref d), none, some (.int p2)]) (st' := [.int ((c.1 (d + 2) p2.toNatClampNeg) + 1), .int p2, .ref (d + 2)]) 2 rfl ?_
  refine l1_ck (fun hx => ?_)
  refine l1_ast hQ mt_X3_placeSymbol rfl (o := (d + 2)) (kc2_1 hd) hx (fun c1 => ?_)
  exact l1_ret mt_X3_placeSymbol rfl rfl rfl
set_option maxRecDepth 100000 in
theorem en_X3_placeSymbol {Q : hS → am_H → Prop} (hQ : l1_em kc Q) (c : hS) (d : Nat) (p1 : Int32) (p2 : Int32) (hd : kc d = 2) : l1_G (wN wV) Q am_i_X3_placeSymbol 0 [some (.ref d), some (.int p1), some (.int p2)] [] c (f_X3_placeSymbol c d p1 p2) := by
  rw [f_X3_placeSymbol]
  refine l1_many mt_X3_placeSymbol (pc' := bif am_cc .le p2 0 then 50 else 4) (L' := [some (.ref d), some (.int p1), some (.int p2)]) (st' := []) 2 rfl ?_
  refine l1_bif rfl ?_ ?_
  · exact l1_ret mt_X3_placeSymbol rfl rfl rfl
  · refine l1_many mt_X3_placeSymbol (pc' := 6) (L' := [some (.ref d), some (.int p1), some (.int p2)]) (st' := [.ref d, .int p2]) 2 rfl ?_
    refine l1_getR hQ mt_X3_placeSymbol rfl (o := d) (ci := 2) (k := 1) (a := 0) (b := 1) hd rfl rfl rfl rfl (q := (d + 2)) rfl ?_
    refine l1_len hQ mt_X3_placeSymbol rfl (o := (d + 2)) (ci := 20) (kc2_1 hd) rfl rfl ?_
    refine l1_many mt_X3_placeSymbol (pc' := bif am_cc .ge p2 (Int32.ofNat (ln (d + 2))) then 50 else 13) (L' := [some (.ref d), some (.int p1), some (.int p2)]) (st' := []) 1 rfl ?_
    refine l1_bif rfl ?_ ?_
    · exact l1_ret mt_X3_placeSymbol rfl rfl rfl
    · refine l1_many mt_X3_placeSymbol (pc' := 14) (L' := [some (.ref d), some (.int p1), some (.int p2)]) (st' := [.ref d]) 1 rfl ?_
      refine l1_getR hQ mt_X3_placeSymbol rfl (o := d) (ci := 2) (k := 1) (a := 0) (b := 1) hd rfl rfl rfl rfl (q := (d + 2)) rfl ?_
      refine l1_many mt_X3_placeSymbol (pc' := 18) (L' := [some (.ref d), some (.int p1), some (.int p2)]) (st' := [.int p2, .ref (d + 2)]) 1 rfl ?_
      refine l1_ck (fun hx => ?_)
      refine l1_ald hQ mt_X3_placeSymbol rfl (o := (d + 2)) (kc2_1 hd) hx ?_
      refine l1_many mt_X3_placeSymbol (pc' := bif am_cc .lt (c.1 (d + 2) p2.toNatClampNeg) 0 then 40 else 24) (L' := [some (.ref d), some (.int p1), some (.int p2), some (.int (c.1 (d + 2) p2.toNatClampNeg))]) (st' := []) 3 rfl ?_
      refine l1_bif rfl ?_ ?_
      · refine l1_weak (m := [true, false, true, false]) (L' := [some (.ref d), none, some (.int p2)]) rfl ?_
        exact ok_X3_placeSymbol_40 hQ d p1 p2 hd c
      · refine l1_many mt_X3_placeSymbol (pc' := 26) (L' := [some (.ref d), some (.int p1), some (.int p2), some (.int (c.1 (d + 2) p2.toNatClampNeg))]) (st' := [.ref d, .int (c.1 (d + 2) p2.toNatClampNeg)]) 2 rfl ?_
        refine l1_getR hQ mt_X3_placeSymbol rfl (o := d) (ci := 2) (k := 2) (a := 0) (b := 1) hd rfl rfl rfl rfl (q := (d + 3)) rfl ?_
        refine l1_len hQ mt_X3_placeSymbol rfl (o := (d + 3)) (ci := 20) (kc2_2 hd) rfl rfl ?_
        refine l1_many mt_X3_placeSymbol (pc' := bif am_cc .ge (c.1 (d + 2) p2.toNatClampNeg) (Int32.ofNat (ln (d + 3))) then 40 else 33) (L' := [some (.ref d), some (.int p1), some (.int p2), some (.int (c.1 (d + 2) p2.toNatClampNeg))]) (st' := []) 1 rfl ?_
        refine l1_bif rfl ?_ ?_
        · refine l1_weak (m := [true, false, true, false]) (L' := [some (.ref d), none, some (.int p2)]) rfl ?_
          exact ok_X3_placeSymbol_40 hQ d p1 p2 hd c
        · refine l1_many mt_X3_placeSymbol (pc' := 34) (L' := [some (.ref d), some (.int p1), some (.int p2), some (.int (c.1 (d + 2) p2.toNatClampNeg))]) (st' := [.ref d]) 1 rfl ?_
          refine l1_getR hQ mt_X3_placeSymbol rfl (o := d) (ci := 2) (k := 2) (a := 0) (b := 1) hd rfl rfl rfl rfl (q := (d + 3)) rfl ?_
          refine l1_many mt_X3_placeSymbol (pc' := 39) (L' := [some (.ref d), some (.int p1), some (.int p2), some (.int (c.1 (d + 2) p2.toNatClampNeg))]) (st' := [.int p1, .int (c.1 (d + 2) p2.toNatClampNeg), .ref (d + 3)]) 2 rfl ?_
          refine l1_ck (fun hx => ?_)
          refine l1_ast hQ mt_X3_placeSymbol rfl (o := (d + 3)) (kc2_2 hd) hx (fun c1 => ?_)
          refine l1_weak (m := [true, false, true, false]) (L' := [some (.ref d), none, some (.int p2)]) rfl ?_
          exact ok_X3_placeSymbol_40 hQ d p1 p2 hd c1
theorem ok_X3_placeSymbol {Q : hS → am_H → Prop} (hQ : l1_em kc Q) (c : hS) (d : Nat) (p1 : Int32) (p2 : Int32) (hd : kc d = 2) : l1_T wV Q am_i_X3_placeSymbol [.ref d, .int p1, .int p2] c (f_X3_placeSymbol c d p1 p2) := l1_of (en_X3_placeSymbol hQ c d p1 p2 hd) ⟨rfl, rfl, rfl, trivial⟩
set_option maxRecDepth 100000 in
theorem ok_X3_order_110 {Q : hS → am_H → Prop} (hQ : l1_em kc Q) (N : Nat) (d : Nat) (p2 : Int32) (p3 : Int32) (hd : kc d = 2) : ∀ n : Nat, ∀ (c : hS) (v4 : Int32) (v5 : Int32), l1_G (wN wV) Q am_i_X3_order 110 [some (.ref d), some (.ref 32), some (.int p2), none, some (.int v4), some (.int v5)] [] c (f_X3_order_110 N d p2 p3 n c v4 v5) := by
  intro n
  induction n with
  | zero => intro c v4 v5; exact l1_none
  | succ n ih =>
    intro c v4 v5
    rw [f_X3_order_110]
    refine l1_many mt_X3_order (pc' := bif am_cc .ge v5 v4 then 135 else 117) (L' := [some (.ref d), some (.ref 32), some (.int p2), none, some (.int v4), some (.int v5)]) (st' := []) 3 rfl ?_
    refine l1_bif rfl ?_ ?_
    · exact l1_ret mt_X3_order rfl rfl rfl
    · refine l1_many mt_X3_order (pc' := 125) (L' := [some (.ref d), some (.ref 32), some (.int p2), none, some (.int v4), some (.int v5)]) (st' := [.int v5, .ref 32, .int (v5 - p2), .ref d]) 6 rfl ?_
      refine l1_ck (fun hx => ?_)
      refine l1_ald hQ mt_X3_order rfl (o := 32) rfl hx ?_
      refine l1_callV hQ mt_X3_order mt_X3_placeSymbol rfl rfl (o := d) (ci := 2) (As := [.int (v5 - p2), .int (c.1 32 v5.toNatClampNeg)]) (rest := []) rfl rfl hd rfl rfl rfl (st1 := fun _ => []) (fun _ => rfl) (ok_X3_placeSymbol hQ c d (v5 - p2) (c.1 32 v5.toNatClampNeg) hd) (fun _ c1 => ?_)
      refine l1_many mt_X3_order (pc' := 110) (L' := [some (.ref d), some (.ref 32), some (.int p2), none, some (.int v4), some (.int (v5 + 1))]) (st' := []) 2 rfl ?_
      exact ih c1 v4 (v5 + 1)
set_option maxRecDepth 100000 in
theorem ok_X3_order_54 {Q : hS → am_H → Prop} (hQ : l1_em kc Q) (N : Nat) (d : Nat) (p2 : Int32) (p3 : Int32) (hd : kc d = 2) : ∀ n : Nat, ∀ (c : hS) (v4 : Int32) (v5 : Int32), l1_G (wN wV) Q am_i_X3_order 54 [some (.ref d), some (.ref 32), some (.int p2), none, some (.int v4), some (.int v5)] [] c (f_X3_order_54 N d p2 p3 n c v4 v5) := by
  intro n
  induction n with
  | zero => intro c v4 v5; exact l1_none
  | succ n ih =>
    intro c v4 v5
    rw [f_X3_order_54]
    refine l1_many mt_X3_order (pc' := bif am_cc .ge v5 v4 then 99 else 61) (L' := [some (.ref d), some (.ref 32), some (.int p2), none, some (.int v4), some (.int v5)]) (st' := []) 3 rfl ?_
    refine l1_bif rfl ?_ ?_
    · refine l1_many mt_X3_order (pc' := 100) (L' := [some (.ref d), some (.ref 32), some (.int p2), none, some (.int v4), some (.int v5)]) (st' := [.ref d]) 1 rfl ?_
      refine l1_callV hQ mt_X3_order mt_X3_placeLengths rfl rfl (o := d) (ci := 2) (As := []) (rest := []) rfl rfl hd rfl rfl rfl (st1 := fun _ => []) (fun _ => rfl) (ok_X3_placeLengths hQ N c d hd) (fun _ c1 => ?_)
      refine l1_many mt_X3_order (pc' := 105) (L' := [some (.ref d), some (.ref 32), some (.int p2), none, some (.int v4), some (.int v5)]) (st' := [.int 0, .int p2]) 2 rfl ?_
      refine l1_max mt_X3_order rfl rfl rfl rfl ?_
      refine l1_many mt_X3_order (pc' := 110) (L' := [some (.ref d), some (.ref 32), some (.int p2), none, some (.int v4), some (.int (j_max p2 0))]) (st' := []) 1 rfl ?_
      exact ok_X3_order_110 hQ N d p2 p3 hd N c1 v4 (j_max p2 0)
    · refine l1_many mt_X3_order (pc' := 64) (L' := [some (.ref d), some (.ref 32), some (.int p2), none, some (.int v4), some (.int v5)]) (st' := [.int v5, .ref 32]) 2 rfl ?_
      refine l1_ck (fun hx => ?_)
      refine l1_ald hQ mt_X3_order rfl (o := 32) rfl hx ?_
      refine l1_many mt_X3_order (pc' := bif am_cc .le (c.1 32 v5.toNatClampNeg) 0 then 93 else 72) (L' := [some (.ref d), some (.ref 32), some (.int p2), none, some (.int v4), some (.int v5), some (.int (c.1 32 v5.toNatClampNeg))]) (st' := []) 3 rfl ?_
      refine l1_bif rfl ?_ ?_
      · refine l1_many mt_X3_order (pc' := 54) (L' := [some (.ref d), some (.ref 32), some (.int p2), none, some (.int v4), some (.int (v5 + 1)), some (.int (c.1 32 v5.toNatClampNeg))]) (st' := []) 2 rfl ?_
        refine l1_weak (m := [true, true, true, false, true, true, false]) (L' := [some (.ref d), some (.ref 32), some (.int p2), none, some (.int v4), some (.int (v5 + 1))]) rfl ?_
        exact ih c v4 (v5 + 1)
      · refine l1_many mt_X3_order (pc' := 75) (L' := [some (.ref d), some (.ref 32), some (.int p2), none, some (.int v4), some (.int v5), some (.int (c.1 32 v5.toNatClampNeg))]) (st' := [.ref d, .int (c.1 32 v5.toNatClampNeg)]) 2 rfl ?_
        refine l1_getR hQ mt_X3_order rfl (o := d) (ci := 2) (k := 0) (a := 0) (b := 1) hd rfl rfl rfl rfl (q := (d + 1)) rfl ?_
        refine l1_len hQ mt_X3_order rfl (o := (d + 1)) (ci := 20) (kc2_0 hd) rfl rfl ?_
        refine l1_many mt_X3_order (pc' := bif am_cc .ge (c.1 32 v5.toNatClampNeg) (Int32.ofNat (ln (d + 1))) then 93 else 82) (L' := [some (.ref d), some (.ref 32), some (.int p2), none, some (.int v4), some (.int v5), some (.int (c.1 32 v5.toNatClampNeg))]) (st' := []) 1 rfl ?_
        refine l1_bif rfl ?_ ?_
        · refine l1_many mt_X3_order (pc' := 54) (L' := [some (.ref d), some (.ref 32), some (.int p2), none, some (.int v4), some (.int (v5 + 1)), some (.int (c.1 32 v5.toNatClampNeg))]) (st' := []) 2 rfl ?_
          refine l1_weak (m := [true, true, true, false, true, true, false]) (L' := [some (.ref d), some (.ref 32), some (.int p2), none, some (.int v4), some (.int (v5 + 1))]) rfl ?_
          exact ih c v4 (v5 + 1)
        · refine l1_many mt_X3_order (pc' := 83) (L' := [some (.ref d), some (.ref 32), some (.int p2), none, some (.int v4), some (.int v5), some (.int (c.1 32 v5.toNatClampNeg))]) (st' := [.ref d]) 1 rfl ?_
          refine l1_getR hQ mt_X3_order rfl (o := d) (ci := 2) (k := 0) (a := 0) (b := 1) hd rfl rfl rfl rfl (q := (d + 1)) rfl ?_
          refine l1_many mt_X3_order (pc' := 89) (L' := [some (.ref d), some (.ref 32), some (.int p2), none, some (.int v4), some (.int v5), some (.int (c.1 32 v5.toNatClampNeg))]) (st' := [.int (c.1 32 v5.toNatClampNeg), .ref (d + 1), .int (c.1 32 v5.toNatClampNeg), .ref (d + 1)]) 2 rfl ?_
          refine l1_ck (fun hx => ?_)
          refine l1_ald hQ mt_X3_order rfl (o := (d + 1)) (kc2_0 hd) hx ?_
          refine l1_many mt_X3_order (pc' := 92) (L' := [some (.ref d), some (.ref 32), some (.int p2), none, some (.int v4), some (.int v5), some (.int (c.1 32 v5.toNatClampNeg))]) (st' := [.int ((c.1 (d + 1) (c.1 32 v5.toNatClampNeg).toNatClampNeg) + 1), .int (c.1 32 v5.toNatClampNeg), .ref (d + 1)]) 2 rfl ?_
          refine l1_ck (fun hx => ?_)
          refine l1_ast hQ mt_X3_order rfl (o := (d + 1)) (kc2_0 hd) hx (fun c2 => ?_)
          refine l1_many mt_X3_order (pc' := 54) (L' := [some (.ref d), some (.ref 32), some (.int p2), none, some (.int v4), some (.int (v5 + 1)), some (.int (c.1 32 v5.toNatClampNeg))]) (st' := []) 2 rfl ?_
          refine l1_weak (m := [true, true, true, false, true, true, false]) (L' := [some (.ref d), some (.ref 32), some (.int p2), none, some (.int v4), some (.int (v5 + 1))]) rfl ?_
          exact ih c2 v4 (v5 + 1)
set_option maxRecDepth 100000 in
theorem ok_X3_order_3 {Q : hS → am_H → Prop} (hQ : l1_em kc Q) (N : Nat) (d : Nat) (p2 : Int32) (p3 : Int32) (hd : kc d = 2) : ∀ n : Nat, ∀ (c : hS) (v4 : Int32), l1_G (wN wV) Q am_i_X3_order 3 [some (.ref d), some (.ref 32), some (.int p2), some (.int p3), some (.int v4)] [] c (f_X3_order_3 N d p2 p3 n c v4) := by
  intro n
  induction n with
  | zero => intro c v4; exact l1_none
  | succ n ih =>
    intro c v4
    rw [f_X3_order_3]
    refine l1_many mt_X3_order (pc' := 6) (L' := [some (.ref d), some (.ref 32), some (.int p2), some (.int p3), some (.int v4)]) (st' := [.ref d, .int v4]) 2 rfl ?_
    refine l1_getR hQ mt_X3_order rfl (o := d) (ci := 2) (k := 0) (a := 0) (b := 1) hd rfl rfl rfl rfl (q := (d + 1)) rfl ?_
    refine l1_len hQ mt_X3_order rfl (o := (d + 1)) (ci := 20) (kc2_0 hd) rfl rfl ?_
    refine l1_many mt_X3_order (pc' := bif am_cc .ge v4 (Int32.ofNat (ln (d + 1))) then 27 else 13) (L' := [some (.ref d), some (.ref 32), some (.int p2), some (.int p3), some (.int v4)]) (st' := []) 1 rfl ?_
    refine l1_bif rfl ?_ ?_
    · refine l1_many mt_X3_order (pc' := 32) (L' := [some (.ref d), some (.ref 32), some (.int p2), some (.int p3), some (.int v4)]) (st' := [.ref d, .int p2, .int (p2 + p3)]) 5 rfl ?_
      refine l1_getR hQ mt_X3_order rfl (o := d) (ci := 2) (k := 2) (a := 0) (b := 1) hd rfl rfl rfl rfl (q := (d + 3)) rfl ?_
      refine l1_len hQ mt_X3_order rfl (o := (d + 3)) (ci := 20) (kc2_2 hd) rfl rfl ?_
      refine l1_many mt_X3_order (pc' := 37) (L' := [some (.ref d), some (.ref 32), some (.int p2), some (.int p3), some (.int v4)]) (st' := [.int (p2 + (Int32.ofNat (ln (d + 3)))), .int (p2 + p3)]) 1 rfl ?_
      refine l1_min mt_X3_order rfl rfl rfl rfl ?_
      refine l1_many mt_X3_order (pc' := 41) (L' := [some (.ref d), some (.ref 32), some (.int p2), some (.int p3), some (.int v4)]) (st' := [.ref 32, .int (j_min (p2 + p3) (p2 + (Int32.ofNat (ln (d + 3)))))]) 1 rfl ?_
      refine l1_len hQ mt_X3_order rfl (o := 32) (ci := 20) rfl rfl rfl ?_
      refine l1_min mt_X3_order rfl rfl rfl rfl ?_
      refine l1_many mt_X3_order (pc' := 49) (L' := [some (.ref d), some (.ref 32), some (.int p2), some (.int p3), some (.int (j_min (j_min (p2 + p3) (p2 + (Int32.ofNat (ln (d + 3))))) (Int32.ofNat (ln 32))))]) (st' := [.int 0, .int p2]) 3 rfl ?_
      refine l1_max mt_X3_order rfl rfl rfl rfl ?_
      refine l1_many mt_X3_order (pc' := 54) (L' := [some (.ref d), some (.ref 32), some (.int p2), some (.int p3), some (.int (j_min (j_min (p2 + p3) (p2 + (Int32.ofNat (ln (d + 3))))) (Int32.ofNat (ln 32)))), some (.int (j_max p2 0))]) (st' := []) 1 rfl ?_
      refine l1_weak (m := [true, true, true, false, true, true, false]) (L' := [some (.ref d), some (.ref 32), some (.int p2), none, some (.int (j_min (j_min (p2 + p3) (p2 + (Int32.ofNat (ln (d + 3))))) (Int32.ofNat (ln 32)))), some (.int (j_max p2 0))]) rfl ?_
      exact ok_X3_order_54 hQ N d p2 p3 hd N c (j_min (j_min (p2 + p3) (p2 + (Int32.ofNat (ln (d + 3))))) (Int32.ofNat (ln 32))) (j_max p2 0)
    · refine l1_many mt_X3_order (pc' := 14) (L' := [some (.ref d), some (.ref 32), some (.int p2), some (.int p3), some (.int v4)]) (st' := [.ref d]) 1 rfl ?_
      refine l1_getR hQ mt_X3_order rfl (o := d) (ci := 2) (k := 0) (a := 0) (b := 1) hd rfl rfl rfl rfl (q := (d + 1)) rfl ?_
      refine l1_many mt_X3_order (pc' := 20) (L' := [some (.ref d), some (.ref 32), some (.int p2), some (.int p3), some (.int v4)]) (st' := [.int 0, .int v4, .ref (d + 1)]) 2 rfl ?_
      refine l1_ck (fun hx => ?_)
      refine l1_ast hQ mt_X3_order rfl (o := (d + 1)) (kc2_0 hd) hx (fun c1 => ?_)
      refine l1_many mt_X3_order (pc' := 3) (L' := [some (.ref d), some (.ref 32), some (.int p2), some (.int p3), some (.int (v4 + 1))]) (st' := []) 2 rfl ?_
      exact ih c1 (v4 + 1)
set_option maxRecDepth 100000 in
theorem en_X3_order {Q : hS → am_H → Prop} (hQ : l1_em kc Q) (N : Nat) (c : hS) (d : Nat) (p2 : Int32) (p3 : Int32) (hd : kc d = 2) : l1_G (wN wV) Q am_i_X3_order 0 [some (.ref d), some (.ref 32), some (.int p2), some (.int p3)] [] c (f_X3_order N c d p2 p3) := by
  rw [f_X3_order]
  refine l1_many mt_X3_order (pc' := 3) (L' := [some (.ref d), some (.ref 32), some (.int p2), some (.int p3), some (.int 0)]) (st' := []) 2 rfl ?_
  exact ok_X3_order_3 hQ N d p2 p3 hd N c 0
theorem ok_X3_order {Q : hS → am_H → Prop} (hQ : l1_em kc Q) (N : Nat) (c : hS) (d : Nat) (p2 : Int32) (p3 : Int32) (hd : kc d = 2) : l1_T wV Q am_i_X3_order [.ref d, .ref 32, .int p2, .int p3] c (f_X3_order N c d p2 p3) := l1_of (en_X3_order hQ N c d p2 p3 hd) ⟨rfl, rfl, rfl, rfl, trivial⟩
set_option maxRecDepth 100000 in
theorem ok_X3_areComplete_4 {Q : hS → am_H → Prop} (hQ : l1_em kc Q) (N : Nat) (d : Nat) (hd : kc d = 2) : ∀ n : Nat, ∀ (c : hS) (v1 : Int32) (v2 : Int32), l1_G (wN wI) Q am_i_X3_areComplete 4 [some (.ref d), some (.int v1), some (.int v2)] [] c (f_X3_areComplete_4 N d n c v1 v2) := by
  intro n
  induction n with
  | zero => intro c v1 v2; exact l1_none
  | succ n ih =>
    intro c v1 v2
    rw [f_X3_areComplete_4]
    refine l1_many mt_X3_areComplete (pc' := 6) (L' := [some (.ref d), some (.int v1), some (.int v2)]) (st' := [.ref d, .int v2]) 2 rfl ?_
    refine l1_getR hQ mt_X3_areComplete rfl (o := d) (ci := 2) (k := 0) (a := 0) (b := 1) hd rfl rfl rfl rfl (q := (d + 1)) rfl ?_
    refine l1_len hQ mt_X3_areComplete rfl (o := (d + 1)) (ci := 20) (kc2_0 hd) rfl rfl ?_
    refine l1_many mt_X3_areComplete (pc' := bif am_cc .ge v2 (Int32.ofNat (ln (d + 1))) then 33 else 13) (L' := [some (.ref d), some (.int v1), some (.int v2)]) (st' := []) 1 rfl ?_
    refine l1_bif rfl ?_ ?_
    · refine l1_many mt_X3_areComplete (pc' := bif am_cc .ne v1 32768 then 43 else 39) (L' := [some (.ref d), some (.int v1), some (.int v2)]) (st' := []) 3 rfl ?_
      refine l1_bin rfl ?_ ?_
      · refine l1_many mt_X3_areComplete (pc' := 44) (L' := [some (.ref d), some (.int v1), some (.int v2)]) (st' := [.int 1]) 2 rfl ?_
        exact l1_ret mt_X3_areComplete rfl rfl rfl
      · refine l1_many mt_X3_areComplete (pc' := 44) (L' := [some (.ref d), some (.int v1), some (.int v2)]) (st' := [.int 0]) 1 rfl ?_
        exact l1_ret mt_X3_areComplete rfl rfl rfl
    · refine l1_many mt_X3_areComplete (pc' := 15) (L' := [some (.ref d), some (.int v1), some (.int v2)]) (st' := [.ref d, .int v1]) 2 rfl ?_
      refine l1_getR hQ mt_X3_areComplete rfl (o := d) (ci := 2) (k := 0) (a := 0) (b := 1) hd rfl rfl rfl rfl (q := (d + 1)) rfl ?_
      refine l1_many mt_X3_areComplete (pc' := 19) (L' := [some (.ref d), some (.int v1), some (.int v2)]) (st' := [.int v2, .ref (d + 1), .int v1]) 1 rfl ?_
      refine l1_ck (fun hx => ?_)
      refine l1_ald hQ mt_X3_areComplete rfl (o := (d + 1)) (kc2_0 hd) hx ?_
      refine l1_many mt_X3_areComplete (pc' := 4) (L' := [some (.ref d), some (.int (v1 + (j_shl (c.1 (d + 1) v2.toNatClampNeg) (15 - v2)))), some (.int (v2 + 1))]) (st' := []) 8 rfl ?_
      exact ih c (v1 + (j_shl (c.1 (d + 1) v2.toNatClampNeg) (15 - v2))) (v2 + 1)
set_option maxRecDepth 100000 in
theorem en_X3_areComplete {Q : hS → am_H → Prop} (hQ : l1_em kc Q) (N : Nat) (c : hS) (d : Nat) (hd : kc d = 2) : l1_G (wN wI) Q am_i_X3_areComplete 0 [some (.ref d)] [] c (f_X3_areComplete N c d) := by
  rw [f_X3_areComplete]
  refine l1_many mt_X3_areComplete (pc' := 4) (L' := [some (.ref d), some (.int 0), some (.int 1)]) (st' := []) 4 rfl ?_
  exact ok_X3_areComplete_4 hQ N d hd N c 0 1
theorem ok_X3_areComplete {Q : hS → am_H → Prop} (hQ : l1_em kc Q) (N : Nat) (c : hS) (d : Nat) (hd : kc d = 2) : l1_T wI Q am_i_X3_areComplete [.ref d] c (f_X3_areComplete N c d) := l1_of (en_X3_areComplete hQ N c d hd) ⟨rfl, trivial⟩
set_option maxRecDepth 100000 in
theorem en_X3_areNoneOrOneBit {Q : hS → am_H → Prop} (hQ : l1_em kc Q) (c : hS) (d : Nat) (hd : kc d = 2) : l1_G (wN wI) Q am_i_X3_areNoneOrOneBit 0 [some (.ref d)] [] c (f_X3_areNoneOrOneBit c d) := by
  rw [f_X3_areNoneOrOneBit]
  refine l1_many mt_X3_areNoneOrOneBit (pc' := 1) (L' := [some (.ref d)]) (st' := [.ref d]) 1 rfl ?_
  refine l1_getI hQ mt_X3_areNoneOrOneBit rfl (o := d) (ci := 2) (k := 3) (a := 0) (b := 0) hd rfl rfl rfl rfl ?_
  refine l1_many mt_X3_areNoneOrOneBit (pc' := bif am_cc .eq (c.1 d 3) 0 then 23 else 7) (L' := [some (.ref d)]) (st' := []) 1 rfl ?_
  refine l1_bif rfl ?_ ?_
  · refine l1_many mt_X3_areNoneOrOneBit (pc' := 28) (L' := [some (.ref d)]) (st' := [.int 1]) 2 rfl ?_
    exact l1_ret mt_X3_areNoneOrOneBit rfl rfl rfl
  · refine l1_many mt_X3_areNoneOrOneBit (pc' := 8) (L' := [some (.ref d)]) (st' := [.ref d]) 1 rfl ?_
    refine l1_getI hQ mt_X3_areNoneOrOneBit rfl (o := d) (ci := 2) (k := 3) (a := 0) (b := 0) hd rfl rfl rfl rfl ?_
    refine l1_many mt_X3_areNoneOrOneBit (pc' := bif am_cc .ne (c.1 d 3) 1 then 27 else 15) (L' := [some (.ref d)]) (st' := []) 2 rfl ?_
    refine l1_bin rfl ?_ ?_
    · refine l1_many mt_X3_areNoneOrOneBit (pc' := 16) (L' := [some (.ref d)]) (st' := [.ref d]) 1 rfl ?_
      refine l1_getI hQ mt_X3_areNoneOrOneBit rfl (o := d) (ci := 2) (k := 4) (a := 0) (b := 0) hd rfl rfl rfl rfl ?_
      refine l1_many mt_X3_areNoneOrOneBit (pc' := bif am_cc .ne (c.1 d 4) 1 then 27 else 23) (L' := [some (.ref d)]) (st' := []) 2 rfl ?_
      refine l1_bin rfl ?_ ?_
      · refine l1_many mt_X3_areNoneOrOneBit (pc' := 28) (L' := [some (.ref d)]) (st' := [.int 1]) 2 rfl ?_
        exact l1_ret mt_X3_areNoneOrOneBit rfl rfl rfl
      · refine l1_many mt_X3_areNoneOrOneBit (pc' := 28) (L' := [some (.ref d)]) (st' := [.int 0]) 1 rfl ?_
        exact l1_ret mt_X3_areNoneOrOneBit rfl rfl rfl
    · refine l1_many mt_X3_areNoneOrOneBit (pc' := 28) (L' := [some (.ref d)]) (st' := [.int 0]) 1 rfl ?_
      exact l1_ret mt_X3_areNoneOrOneBit rfl rfl rfl
theorem ok_X3_areNoneOrOneBit {Q : hS → am_H → Prop} (hQ : l1_em kc Q) (c : hS) (d : Nat) (hd : kc d = 2) : l1_T wI Q am_i_X3_areNoneOrOneBit [.ref d] c (f_X3_areNoneOrOneBit c d) := l1_of (en_X3_areNoneOrOneBit hQ c d hd) ⟨rfl, trivial⟩
set_option maxRecDepth 100000 in
theorem en_X4_sortBits {Q : hS → am_H → Prop} (hQ : l1_em kc Q) (c : hS) (p0 : Int64) : l1_G (wN wI) Q am_i_X4_sortBits 0 [some (.long p0)] [] c (f_X4_sortBits c p0) := by
  rw [f_X4_sortBits]
  refine l1_many mt_X4_sortBits (pc' := 9) (L' := [some (.long p0)]) (st' := [.int (((j_lushr p0 12) &&& 15).toInt32)]) 6 rfl ?_
  exact l1_ret mt_X4_sortBits rfl rfl rfl
theorem ok_X4_sortBits {Q : hS → am_H → Prop} (hQ : l1_em kc Q) (c : hS) (p0 : Int64) : l1_T wI Q am_i_X4_sortBits [.long p0] c (f_X4_sortBits c p0) := l1_of (en_X4_sortBits hQ c p0) ⟨rfl, trivial⟩
set_option maxRecDepth 100000 in
theorem ok_X4_digit_34 {Q : hS → am_H → Prop} (hQ : l1_em kc Q) (p0 : Int32) : ∀ (c : hS), l1_G (wN wI) Q am_i_X4_digit 34 [some (.int p0)] [] c (f_X4_digit_34 p0 c) := by
  intro c
  rw [f_X4_digit_34]
  refine l1_many mt_X4_digit (pc' := bif am_cc .lt p0 65 then 53 else 40) (L' := [some (.int p0)]) (st' := []) 3 rfl ?_
  refine l1_bif rfl ?_ ?_
  · refine l1_many mt_X4_digit (pc' := 54) (L' := [some (.int p0)]) (st' := [.int (-1)]) 1 rfl ?_
    exact l1_ret mt_X4_digit rfl rfl rfl
  · refine l1_many mt_X4_digit (pc' := bif am_cc .gt p0 70 then 53 else 46) (L' := [some (.int p0)]) (st' := []) 3 rfl ?_
    refine l1_bif rfl ?_ ?_
    · refine l1_many mt_X4_digit (pc' := 54) (L' := [some (.int p0)]) (st' := [.int (-1)]) 1 rfl ?_
      exact l1_ret mt_X4_digit rfl rfl rfl
    · refine l1_many mt_X4_digit (pc' := 54) (L' := [some (.int p0)]) (st' := [.int (p0 - 55)]) 4 rfl ?_
      exact l1_ret mt_X4_digit rfl rfl rfl
set_option maxRecDepth 100000 in
theorem ok_X4_digit_17 {Q : hS → am_H → Prop} (hQ : l1_em kc Q) (p0 : Int32) : ∀ (c : hS), l1_G (wN wI) Q am_i_X4_digit 17 [some (.int p0)] [] c (f_X4_digit_17 p0 c) := by
  intro c
  rw [f_X4_digit_17]
  refine l1_many mt_X4_digit (pc' := bif am_cc .lt p0 97 then 34 else 23) (L' := [some (.int p0)]) (st' := []) 3 rfl ?_
  refine l1_bif rfl ?_ ?_
  · exact ok_X4_digit_34 hQ p0 c
  · refine l1_many mt_X4_digit (pc' := bif am_cc .gt p0 102 then 34 else 29) (L' := [some (.int p0)]) (st' := []) 3 rfl ?_
    refine l1_bif rfl ?_ ?_
    · exact ok_X4_digit_34 hQ p0 c
    · refine l1_many mt_X4_digit (pc' := 33) (L' := [some (.int p0)]) (st' := [.int (p0 - 87)]) 3 rfl ?_
      exact l1_ret mt_X4_digit rfl rfl rfl
set_option maxRecDepth 100000 in
theorem en_X4_digit {Q : hS → am_H → Prop} (hQ : l1_em kc Q) (c : hS) (p0 : Int32) : l1_G (wN wI) Q am_i_X4_digit 0 [some (.int p0)] [] c (f_X4_digit c p0) := by
  rw [f_X4_digit]
  refine l1_many mt_X4_digit (pc' := bif am_cc .lt p0 48 then 17 else 6) (L' := [some (.int p0)]) (st' := []) 3 rfl ?_
  refine l1_bif rfl ?_ ?_
  · exact ok_X4_digit_17 hQ p0 c
  · refine l1_many mt_X4_digit (pc' := bif am_cc .gt p0 57 then 17 else 12) (L' := [some (.int p0)]) (st' := []) 3 rfl ?_
    refine l1_bif rfl ?_ ?_
    · exact ok_X4_digit_17 hQ p0 c
    · refine l1_many mt_X4_digit (pc' := 16) (L' := [some (.int p0)]) (st' := [.int (p0 - 48)]) 3 rfl ?_
      exact l1_ret mt_X4_digit rfl rfl rfl
theorem ok_X4_digit {Q : hS → am_H → Prop} (hQ : l1_em kc Q) (c : hS) (p0 : Int32) : l1_T wI Q am_i_X4_digit [.int p0] c (f_X4_digit c p0) := l1_of (en_X4_digit hQ c p0) ⟨rfl, trivial⟩
set_option maxRecDepth 100000 in
theorem ok_X4_number_5 {Q : hS → am_H → Prop} (hQ : l1_em kc Q) (N : Nat) (p1 : Int32) : ∀ n : Nat, ∀ (c : hS) (v2 : Int64) (v4 : Int32), l1_G (wN wL) Q am_i_X4_number 5 [some (.ref 35), some (.int p1), some (.long v2), none, some (.int v4)] [] c (f_X4_number_5 N p1 n c v2 v4) := by
  intro n
  induction n with
  | zero => intro c v2 v4; exact l1_none
  | succ n ih =>
    intro c v2 v4
    rw [f_X4_number_5]
    refine l1_many mt_X4_number (pc' := bif am_cc .ge v4 (p1 + 8) then 41 else 14) (L' := [some (.ref 35), some (.int p1), some (.long v2), none, some (.int v4)]) (st' := []) 5 rfl ?_
    refine l1_bif rfl ?_ ?_
    · refine l1_many mt_X4_number (pc' := 42) (L' := [some (.ref 35), some (.int p1), some (.long v2), none, some (.int v4)]) (st' := [.long v2]) 1 rfl ?_
      exact l1_ret mt_X4_number rfl rfl rfl
    · refine l1_many mt_X4_number (pc' := 18) (L' := [some (.ref 35), some (.int p1), some (.long v2), none, some (.int v4)]) (st' := [.ref 35, .long (j_lshl v2 4)]) 4 rfl ?_
      refine l1_getR hQ mt_X4_number rfl (o := 35) (ci := 3) (k := 0) (a := 1) (b := 2) rfl rfl rfl rfl rfl (q := 3) rfl ?_
      refine l1_many mt_X4_number (pc' := 23) (L' := [some (.ref 35), some (.int p1), some (.long v2), none, some (.int v4)]) (st' := [.int v4, .ref 3, .long (j_lshl v2 4)]) 1 rfl ?_
      refine l1_callV hQ mt_X4_number mt_X2_get rfl rfl (o := 3) (ci := 1) (As := [.int v4]) (rest := [.long (j_lshl v2 4)]) rfl rfl rfl rfl rfl rfl (st1 := fun x1 => [.int x1, .long (j_lshl v2 4)]) (fun _ => rfl) (ok_X2_get hQ c 3 v4 rfl) (fun x1 c2 => ?_)
      refine l1_callS mt_X4_number mt_X4_digit rfl rfl (As := [.int x1]) (rest := [.long (j_lshl v2 4)]) rfl rfl rfl (st1 := fun x3 => [.int x3, .long (j_lshl v2 4)]) (fun _ => rfl) (ok_X4_digit hQ c2 x1) (fun x3 c4 => ?_)
      refine l1_many mt_X4_number (pc' := 5) (L' := [some (.ref 35), some (.int p1), some (.long ((j_lshl v2 4) ||| ((x3 &&& 15).toInt64))), none, some (.int (v4 + 1))]) (st' := []) 7 rfl ?_
      exact ih c4 ((j_lshl v2 4) ||| ((x3 &&& 15).toInt64)) (v4 + 1)
set_option maxRecDepth 100000 in
theorem en_X4_number {Q : hS → am_H → Prop} (hQ : l1_em kc Q) (N : Nat) (c : hS) (p1 : Int32) : l1_G (wN wL) Q am_i_X4_number 0 [some (.ref 35), some (.int p1)] [] c (f_X4_number N c p1) := by
  rw [f_X4_number]
  refine l1_many mt_X4_number (pc' := 5) (L' := [some (.ref 35), some (.int p1), some (.long 0), none, some (.int p1)]) (st' := []) 4 rfl ?_
  exact ok_X4_number_5 hQ N p1 N c 0 p1
theorem ok_X4_number {Q : hS → am_H → Prop} (hQ : l1_em kc Q) (N : Nat) (c : hS) (p1 : Int32) : l1_T wL Q am_i_X4_number [.ref 35, .int p1] c (f_X4_number N c p1) := l1_of (en_X4_number hQ N c p1) ⟨rfl, rfl, trivial⟩
set_option maxRecDepth 100000 in
theorem en_X4_sortOf {Q : hS → am_H → Prop} (hQ : l1_em kc Q) (N : Nat) (c : hS) (p1 : Int32) : l1_G (wN wI) Q am_i_X4_sortOf 0 [some (.ref 35), some (.int p1)] [] c (f_X4_sortOf N c p1) := by
  rw [f_X4_sortOf]
  refine l1_many mt_X4_sortOf (pc' := 5) (L' := [some (.ref 35), some (.int p1)]) (st' := [.int (p1 + 14), .ref 35]) 4 rfl ?_
  refine l1_callV hQ mt_X4_sortOf mt_X4_number rfl rfl (o := 35) (ci := 3) (As := [.int (p1 + 14)]) (rest := []) rfl rfl rfl rfl rfl rfl (st1 := fun x1 => [.long x1]) (fun _ => rfl) (ok_X4_number hQ N c (p1 + 14)) (fun x1 c2 => ?_)
  refine l1_callS mt_X4_sortOf mt_X4_sortBits rfl rfl (As := [.long x1]) (rest := []) rfl rfl rfl (st1 := fun x3 => [.int x3]) (fun _ => rfl) (ok_X4_sortBits hQ c2 x1) (fun x3 c4 => ?_)
  exact l1_ret mt_X4_sortOf rfl rfl rfl
theorem ok_X4_sortOf {Q : hS → am_H → Prop} (hQ : l1_em kc Q) (N : Nat) (c : hS) (p1 : Int32) : l1_T wI Q am_i_X4_sortOf [.ref 35, .int p1] c (f_X4_sortOf N c p1) := l1_of (en_X4_sortOf hQ N c p1) ⟨rfl, rfl, trivial⟩
set_option maxRecDepth 100000 in
theorem en_X4_isDirectory {Q : hS → am_H → Prop} (hQ : l1_em kc Q) (N : Nat) (c : hS) (p1 : Int32) : l1_G (wN wI) Q am_i_X4_isDirectory 0 [some (.ref 35), some (.int p1)] [] c (f_X4_isDirectory N c p1) := by
  rw [f_X4_isDirectory]
  refine l1_many mt_X4_isDirectory (pc' := 2) (L' := [some (.ref 35), some (.int p1)]) (st' := [.int p1, .ref 35]) 2 rfl ?_
  refine l1_callV hQ mt_X4_isDirectory mt_X4_sortOf rfl rfl (o := 35) (ci := 3) (As := [.int p1]) (rest := []) rfl rfl rfl rfl rfl rfl (st1 := fun x1 => [.int x1]) (fun _ => rfl) (ok_X4_sortOf hQ N c p1) (fun x1 c2 => ?_)
  refine l1_many mt_X4_isDirectory (pc' := 8) (L' := [some (.ref 35), some (.int p1)]) (st' := [.long 16877, .int x1]) 1 rfl ?_
  refine l1_callS mt_X4_isDirectory mt_X4_sortBits rfl rfl (As := [.long 16877]) (rest := [.int x1]) rfl rfl rfl (st1 := fun x3 => [.int x3, .int x1]) (fun _ => rfl) (ok_X4_sortBits hQ c2 16877) (fun x3 c4 => ?_)
  refine l1_many mt_X4_isDirectory (pc' := bif am_cc .ne x1 x3 then 18 else 14) (L' := [some (.ref 35), some (.int p1)]) (st' := []) 1 rfl ?_
  refine l1_bin rfl ?_ ?_
  · refine l1_many mt_X4_isDirectory (pc' := 19) (L' := [some (.ref 35), some (.int p1)]) (st' := [.int 1]) 2 rfl ?_
    exact l1_ret mt_X4_isDirectory rfl rfl rfl
  · refine l1_many mt_X4_isDirectory (pc' := 19) (L' := [some (.ref 35), some (.int p1)]) (st' := [.int 0]) 1 rfl ?_
    exact l1_ret mt_X4_isDirectory rfl rfl rfl
theorem ok_X4_isDirectory {Q : hS → am_H → Prop} (hQ : l1_em kc Q) (N : Nat) (c : hS) (p1 : Int32) : l1_T wI Q am_i_X4_isDirectory [.ref 35, .int p1] c (f_X4_isDirectory N c p1) := l1_of (en_X4_isDirectory hQ N c p1) ⟨rfl, rfl, trivial⟩
set_option maxRecDepth 100000 in
theorem ok_X4_isHead_21 {Q : hS → am_H → Prop} (hQ : l1_em kc Q) (N : Nat) (p1 : Int32) : ∀ n : Nat, ∀ (c : hS) (v2 : Int32), l1_G (wN wI) Q am_i_X4_isHead 21 [some (.ref 35), some (.int p1), some (.int v2)] [] c (f_X4_isHead_21 N p1 n c v2) := by
  intro n
  induction n with
  | zero => intro c v2; exact l1_none
  | succ n ih =>
    intro c v2
    rw [f_X4_isHead_21]
    refine l1_many mt_X4_isHead (pc' := bif am_cc .ge v2 (p1 + 110) then 61 else 29) (L' := [some (.ref 35), some (.int p1), some (.int v2)]) (st' := []) 5 rfl ?_
    refine l1_bif rfl ?_ ?_
    · refine l1_many mt_X4_isHead (pc' := 62) (L' := [some (.ref 35), some (.int p1), some (.int v2)]) (st' := [.int 1]) 1 rfl ?_
      exact l1_ret mt_X4_isHead rfl rfl rfl
    · refine l1_many mt_X4_isHead (pc' := 30) (L' := [some (.ref 35), some (.int p1), some (.int v2)]) (st' := [.ref 35]) 1 rfl ?_
      refine l1_getR hQ mt_X4_isHead rfl (o := 35) (ci := 3) (k := 0) (a := 1) (b := 2) rfl rfl rfl rfl rfl (q := 3) rfl ?_
      refine l1_many mt_X4_isHead (pc' := 34) (L' := [some (.ref 35), some (.int p1), some (.int v2)]) (st' := [.int v2, .ref 3]) 1 rfl ?_
      refine l1_callV hQ mt_X4_isHead mt_X2_get rfl rfl (o := 3) (ci := 1) (As := [.int v2]) (rest := []) rfl rfl rfl rfl rfl rfl (st1 := fun x1 => [.int x1]) (fun _ => rfl) (ok_X2_get hQ c 3 v2 rfl) (fun x1 c2 => ?_)
      refine l1_callS mt_X4_isHead mt_X4_digit rfl rfl (As := [.int x1]) (rest := []) rfl rfl rfl (st1 := fun x3 => [.int x3]) (fun _ => rfl) (ok_X4_digit hQ c2 x1) (fun x3 c4 => ?_)
      refine l1_many mt_X4_isHead (pc' := bif am_cc .ne x3 (-1) then 55 else 44) (L' := [some (.ref 35), some (.int p1), some (.int v2)]) (st' := []) 2 rfl ?_
      refine l1_bin rfl ?_ ?_
      · refine l1_many mt_X4_isHead (pc' := 45) (L' := [some (.ref 35), some (.int p1), some (.int v2)]) (st' := [.ref 35]) 1 rfl ?_
        refine l1_getR hQ mt_X4_isHead rfl (o := 35) (ci := 3) (k := 2) (a := 1) (b := 2) rfl rfl rfl rfl rfl (q := 9) rfl ?_
        refine l1_many mt_X4_isHead (pc' := 51) (L' := [some (.ref 35), some (.int p1), some (.int v2)]) (st' := [.int v2, .int 6, .ref 9]) 2 rfl ?_
        refine l1_callV hQ mt_X4_isHead mt_X6_tell rfl rfl (o := 9) (ci := 5) (As := [.int 6, .int v2]) (rest := []) rfl rfl rfl rfl rfl rfl (st1 := fun x5 => [.int x5]) (fun _ => rfl) (ok_X6_tell hQ c4 6 v2) (fun x5 c6 => ?_)
        refine l1_ck (fun hz => ?_)
        exact l1_retZ mt_X4_isHead rfl rfl rfl hz
      · refine l1_many mt_X4_isHead (pc' := 21) (L' := [some (.ref 35), some (.int p1), some (.int (v2 + 1))]) (st' := []) 2 rfl ?_
        exact ih c4 (v2 + 1)
set_option maxRecDepth 100000 in
theorem en_X4_isHead {Q : hS → am_H → Prop} (hQ : l1_em kc Q) (N : Nat) (c : hS) (p1 : Int32) : l1_G (wN wI) Q am_i_X4_isHead 0 [some (.ref 35), some (.int p1)] [] c (f_X4_isHead N c p1) := by
  rw [f_X4_isHead]
  refine l1_many mt_X4_isHead (pc' := 6) (L' := [some (.ref 35), some (.int p1)]) (st' := [.int 3, .ref 1000000002, .int p1, .ref 35]) 4 rfl ?_
  refine l1_callV hQ mt_X4_isHead mt_X0_isMarked rfl rfl (o := 35) (ci := 3) (As := [.int p1, .ref 1000000002, .int 3]) (rest := []) rfl rfl rfl rfl rfl rfl (st1 := fun x1 => [.int x1]) (fun _ => rfl) (ok_X0_isMarked_35 hQ N c p1 sa2 3 oa2) (fun x1 c2 => ?_)
  refine l1_many mt_X4_isHead (pc' := bif am_cc .ne x1 0 then 14 else 12) (L' := [some (.ref 35), some (.int p1)]) (st' := []) 1 rfl ?_
  refine l1_bin rfl ?_ ?_
  · refine l1_many mt_X4_isHead (pc' := 13) (L' := [some (.ref 35), some (.int p1)]) (st' := [.int 0]) 1 rfl ?_
    exact l1_ret mt_X4_isHead rfl rfl rfl
  · refine l1_many mt_X4_isHead (pc' := 18) (L' := [some (.ref 35), some (.int p1)]) (st' := [.ref 1000000002, .int p1]) 2 rfl ?_
    refine l1_slen hQ mt_X4_isHead rfl oa2 ?_
    refine l1_many mt_X4_isHead (pc' := 21) (L' := [some (.ref 35), some (.int p1), some (.int (p1 + (Int32.ofNat sa2.length)))]) (st' := []) 2 rfl ?_
    exact ok_X4_isHead_21 hQ N p1 N c2 (p1 + (Int32.ofNat sa2.length))
theorem ok_X4_isHead {Q : hS → am_H → Prop} (hQ : l1_em kc Q) (N : Nat) (c : hS) (p1 : Int32) : l1_T wI Q am_i_X4_isHead [.ref 35, .int p1] c (f_X4_isHead N c p1) := l1_of (en_X4_isHead hQ N c p1) ⟨rfl, rfl, trivial⟩
set_option maxRecDepth 100000 in
theorem en_X4_isSized {Q : hS → am_H → Prop} (hQ : l1_em kc Q) (N : Nat) (c : hS) (p1 : Int32) (p2 : Int32) : l1_G (wN wI) Q am_i_X4_isSized 0 [some (.ref 35), some (.int p1), some (.int p2)] [] c (f_X4_isSized N c p1 p2) := by
  rw [f_X4_isSized]
  refine l1_many mt_X4_isSized (pc' := 5) (L' := [some (.ref 35), some (.int p1), some (.int p2)]) (st' := [.int (p1 + 54), .ref 35]) 4 rfl ?_
  refine l1_callV hQ mt_X4_isSized mt_X4_number rfl rfl (o := 35) (ci := 3) (As := [.int (p1 + 54)]) (rest := []) rfl rfl rfl rfl rfl rfl (st1 := fun x1 => [.long x1]) (fun _ => rfl) (ok_X4_number hQ N c (p1 + 54)) (fun x1 c2 => ?_)
  refine l1_many mt_X4_isSized (pc' := bif am_cc .le (j_cmp x1 p2.toInt64) 0 then 30 else 14) (L' := [some (.ref 35), some (.int p1), some (.int p2)]) (st' := []) 4 rfl ?_
  refine l1_bif rfl ?_ ?_
  · refine l1_many mt_X4_isSized (pc' := 35) (L' := [some (.ref 35), some (.int p1), some (.int p2)]) (st' := [.int 1]) 2 rfl ?_
    exact l1_ret mt_X4_isSized rfl rfl rfl
  · refine l1_many mt_X4_isSized (pc' := 15) (L' := [some (.ref 35), some (.int p1), some (.int p2)]) (st' := [.ref 35]) 1 rfl ?_
    refine l1_getR hQ mt_X4_isSized rfl (o := 35) (ci := 3) (k := 2) (a := 1) (b := 2) rfl rfl rfl rfl rfl (q := 9) rfl ?_
    refine l1_many mt_X4_isSized (pc' := 24) (L' := [some (.ref 35), some (.int p1), some (.int p2)]) (st' := [.int (p1 + 54), .int 7, .ref 9]) 4 rfl ?_
    refine l1_callV hQ mt_X4_isSized mt_X6_tell rfl rfl (o := 9) (ci := 5) (As := [.int 7, .int (p1 + 54)]) (rest := []) rfl rfl rfl rfl rfl rfl (st1 := fun x3 => [.int x3]) (fun _ => rfl) (ok_X6_tell hQ c2 7 (p1 + 54)) (fun x3 c4 => ?_)
    refine l1_many mt_X4_isSized (pc' := bif am_cc .eq x3 0 then 34 else 30) (L' := [some (.ref 35), some (.int p1), some (.int p2)]) (st' := []) 1 rfl ?_
    refine l1_bif rfl ?_ ?_
    · refine l1_many mt_X4_isSized (pc' := 35) (L' := [some (.ref 35), some (.int p1), some (.int p2)]) (st' := [.int 0]) 1 rfl ?_
      exact l1_ret mt_X4_isSized rfl rfl rfl
    · refine l1_many mt_X4_isSized (pc' := 35) (L' := [some (.ref 35), some (.int p1), some (.int p2)]) (st' := [.int 1]) 2 rfl ?_
      exact l1_ret mt_X4_isSized rfl rfl rfl
theorem ok_X4_isSized {Q : hS → am_H → Prop} (hQ : l1_em kc Q) (N : Nat) (c : hS) (p1 : Int32) (p2 : Int32) : l1_T wI Q am_i_X4_isSized [.ref 35, .int p1, .int p2] c (f_X4_isSized N c p1 p2) := l1_of (en_X4_isSized hQ N c p1 p2) ⟨rfl, rfl, rfl, trivial⟩
set_option maxRecDepth 100000 in
theorem ok_X4_isMember_83 {Q : hS → am_H → Prop} (hQ : l1_em kc Q) (N : Nat) (p1 : Int32) : ∀ (c : hS) (w0 : Int32) (w1 : Int32), l1_G (wN wI) Q am_i_X4_isMember 83 [some (.ref 35), some (.int p1)] [.int w0, .int w1, .ref 35] c (f_X4_isMember_83 N p1 c w0 w1) := by
  intro c w0 w1
  rw [f_X4_isMember_83]
  refine l1_callV hQ mt_X4_isMember mt_X4_isSized rfl rfl (o := 35) (ci := 3) (As := [.int w1, .int w0]) (rest := []) rfl rfl rfl rfl rfl rfl (st1 := fun x1 => [.int x1]) (fun _ => rfl) (ok_X4_isSized hQ N c w1 w0) (fun x1 c2 => ?_)
  refine l1_many mt_X4_isMember (pc' := bif am_cc .eq x1 0 then 104 else 89) (L' := [some (.ref 35), some (.int p1)]) (st' := []) 1 rfl ?_
  refine l1_bif rfl ?_ ?_
  · refine l1_many mt_X4_isMember (pc' := 105) (L' := [some (.ref 35), some (.int p1)]) (st' := [.int 0]) 1 rfl ?_
    exact l1_ret mt_X4_isMember rfl rfl rfl
  · refine l1_many mt_X4_isMember (pc' := 94) (L' := [some (.ref 35), some (.int p1)]) (st' := [.int (p1 + 110), .ref 35]) 4 rfl ?_
    refine l1_callV hQ mt_X4_isMember mt_X0_isNamed rfl rfl (o := 35) (ci := 3) (As := [.int (p1 + 110)]) (rest := []) rfl rfl rfl rfl rfl rfl (st1 := fun x3 => [.int x3]) (fun _ => rfl) (ok_X0_isNamed_35 hQ N c2 (p1 + 110)) (fun x3 c4 => ?_)
    refine l1_many mt_X4_isMember (pc' := bif am_cc .eq x3 0 then 104 else 100) (L' := [some (.ref 35), some (.int p1)]) (st' := []) 1 rfl ?_
    refine l1_bif rfl ?_ ?_
    · refine l1_many mt_X4_isMember (pc' := 105) (L' := [some (.ref 35), some (.int p1)]) (st' := [.int 0]) 1 rfl ?_
      exact l1_ret mt_X4_isMember rfl rfl rfl
    · refine l1_many mt_X4_isMember (pc' := 105) (L' := [some (.ref 35), some (.int p1)]) (st' := [.int 1]) 2 rfl ?_
      exact l1_ret mt_X4_isMember rfl rfl rfl
set_option maxRecDepth 100000 in
theorem ok_X4_isMember_40 {Q : hS → am_H → Prop} (hQ : l1_em kc Q) (N : Nat) (p1 : Int32) : ∀ (c : hS), l1_G (wN wI) Q am_i_X4_isMember 40 [some (.ref 35), some (.int p1)] [] c (f_X4_isMember_40 N p1 c) := by
  intro c
  rw [f_X4_isMember_40]
  refine l1_many mt_X4_isMember (pc' := 45) (L' := [some (.ref 35), some (.int p1)]) (st' := [.int (p1 + 102), .ref 35]) 4 rfl ?_
  refine l1_callV hQ mt_X4_isMember mt_X4_number rfl rfl (o := 35) (ci := 3) (As := [.int (p1 + 102)]) (rest := []) rfl rfl rfl rfl rfl rfl (st1 := fun x1 => [.long x1]) (fun _ => rfl) (ok_X4_number hQ N c (p1 + 102)) (fun x1 c2 => ?_)
  refine l1_many mt_X4_isMember (pc' := bif am_cc .eq (j_cmp x1 0) 0 then 66 else 53) (L' := [some (.ref 35), some (.int p1)]) (st' := []) 3 rfl ?_
  refine l1_bif rfl ?_ ?_
  · refine l1_many mt_X4_isMember (pc' := 70) (L' := [some (.ref 35), some (.int p1)]) (st' := [.int p1, .ref 35, .int p1, .ref 35]) 4 rfl ?_
    refine l1_callV hQ mt_X4_isMember mt_X4_isDirectory rfl rfl (o := 35) (ci := 3) (As := [.int p1]) (rest := [.int p1, .ref 35]) rfl rfl rfl rfl rfl rfl (st1 := fun x3 => [.int x3, .int p1, .ref 35]) (fun _ => rfl) (ok_X4_isDirectory hQ N c2 p1) (fun x3 c4 => ?_)
    refine l1_many mt_X4_isMember (pc' := bif am_cc .eq x3 0 then 80 else 76) (L' := [some (.ref 35), some (.int p1)]) (st' := [.int p1, .ref 35]) 1 rfl ?_
    refine l1_bif rfl ?_ ?_
    · refine l1_many mt_X4_isMember (pc' := 83) (L' := [some (.ref 35), some (.int p1)]) (st' := [.int 400, .int p1, .ref 35]) 1 rfl ?_
      exact ok_X4_isMember_83 hQ N p1 c4 400 p1
    · refine l1_many mt_X4_isMember (pc' := 83) (L' := [some (.ref 35), some (.int p1)]) (st' := [.int 0, .int p1, .ref 35]) 2 rfl ?_
      exact ok_X4_isMember_83 hQ N p1 c4 0 p1
  · refine l1_many mt_X4_isMember (pc' := 54) (L' := [some (.ref 35), some (.int p1)]) (st' := [.ref 35]) 1 rfl ?_
    refine l1_getR hQ mt_X4_isMember rfl (o := 35) (ci := 3) (k := 2) (a := 1) (b := 2) rfl rfl rfl rfl rfl (q := 9) rfl ?_
    refine l1_many mt_X4_isMember (pc' := 62) (L' := [some (.ref 35), some (.int p1)]) (st' := [.int (p1 + 102), .int 4, .ref 9]) 4 rfl ?_
    refine l1_callV hQ mt_X4_isMember mt_X6_tell rfl rfl (o := 9) (ci := 5) (As := [.int 4, .int (p1 + 102)]) (rest := []) rfl rfl rfl rfl rfl rfl (st1 := fun x5 => [.int x5]) (fun _ => rfl) (ok_X6_tell hQ c2 4 (p1 + 102)) (fun x5 c6 => ?_)
    refine l1_ck (fun hz => ?_)
    exact l1_retZ mt_X4_isMember rfl rfl rfl hz
set_option maxRecDepth 100000 in
theorem en_X4_isMember {Q : hS → am_H → Prop} (hQ : l1_em kc Q) (N : Nat) (c : hS) (p1 : Int32) : l1_G (wN wI) Q am_i_X4_isMember 0 [some (.ref 35), some (.int p1)] [] c (f_X4_isMember N c p1) := by
  rw [f_X4_isMember]
  refine l1_many mt_X4_isMember (pc' := 2) (L' := [some (.ref 35), some (.int p1)]) (st' := [.int p1, .ref 35]) 2 rfl ?_
  refine l1_callV hQ mt_X4_isMember mt_X4_sortOf rfl rfl (o := 35) (ci := 3) (As := [.int p1]) (rest := []) rfl rfl rfl rfl rfl rfl (st1 := fun x1 => [.int x1]) (fun _ => rfl) (ok_X4_sortOf hQ N c p1) (fun x1 c2 => ?_)
  refine l1_many mt_X4_isMember (pc' := 10) (L' := [some (.ref 35), some (.int p1), some (.int x1)]) (st' := [.long 33188, .int x1]) 3 rfl ?_
  refine l1_callS mt_X4_isMember mt_X4_sortBits rfl rfl (As := [.long 33188]) (rest := [.int x1]) rfl rfl rfl (st1 := fun x3 => [.int x3, .int x1]) (fun _ => rfl) (ok_X4_sortBits hQ c2 33188) (fun x3 c4 => ?_)
  refine l1_many mt_X4_isMember (pc' := bif am_cc .eq x1 x3 then 40 else 16) (L' := [some (.ref 35), some (.int p1), some (.int x1)]) (st' := []) 1 rfl ?_
  refine l1_bif rfl ?_ ?_
  · refine l1_weak (m := [true, true, false]) (L' := [some (.ref 35), some (.int p1)]) rfl ?_
    exact ok_X4_isMember_40 hQ N p1 c4
  · refine l1_many mt_X4_isMember (pc' := 20) (L' := [some (.ref 35), some (.int p1), some (.int x1)]) (st' := [.long 16877, .int x1]) 2 rfl ?_
    refine l1_callS mt_X4_isMember mt_X4_sortBits rfl rfl (As := [.long 16877]) (rest := [.int x1]) rfl rfl rfl (st1 := fun x5 => [.int x5, .int x1]) (fun _ => rfl) (ok_X4_sortBits hQ c4 16877) (fun x5 c6 => ?_)
    refine l1_many mt_X4_isMember (pc' := bif am_cc .eq x1 x5 then 40 else 26) (L' := [some (.ref 35), some (.int p1), some (.int x1)]) (st' := []) 1 rfl ?_
    refine l1_bif rfl ?_ ?_
    · refine l1_weak (m := [true, true, false]) (L' := [some (.ref 35), some (.int p1)]) rfl ?_
      exact ok_X4_isMember_40 hQ N p1 c6
    · refine l1_many mt_X4_isMember (pc' := 27) (L' := [some (.ref 35), some (.int p1), some (.int x1)]) (st' := [.ref 35]) 1 rfl ?_
      refine l1_getR hQ mt_X4_isMember rfl (o := 35) (ci := 3) (k := 2) (a := 1) (b := 2) rfl rfl rfl rfl rfl (q := 9) rfl ?_
      refine l1_many mt_X4_isMember (pc' := 36) (L' := [some (.ref 35), some (.int p1), some (.int x1)]) (st' := [.int (p1 + 14), .int 8, .ref 9]) 4 rfl ?_
      refine l1_callV hQ mt_X4_isMember mt_X6_tell rfl rfl (o := 9) (ci := 5) (As := [.int 8, .int (p1 + 14)]) (rest := []) rfl rfl rfl rfl rfl rfl (st1 := fun x7 => [.int x7]) (fun _ => rfl) (ok_X6_tell hQ c6 8 (p1 + 14)) (fun x7 c8 => ?_)
      refine l1_ck (fun hz => ?_)
      exact l1_retZ mt_X4_isMember rfl rfl rfl hz
theorem ok_X4_isMember {Q : hS → am_H → Prop} (hQ : l1_em kc Q) (N : Nat) (c : hS) (p1 : Int32) : l1_T wI Q am_i_X4_isMember [.ref 35, .int p1] c (f_X4_isMember N c p1) := l1_of (en_X4_isMember hQ N c p1) ⟨rfl, rfl, trivial⟩
set_option maxRecDepth 100000 in
theorem ok_X4_isSpelt_23 {Q : hS → am_H → Prop} (hQ : l1_em kc Q) (N : Nat) (p1 : Int32) : ∀ (c : hS), l1_G (wN wI) Q am_i_X4_isSpelt 23 [some (.ref 35), some (.int p1)] [] c (f_X4_isSpelt_23 N p1 c) := by
  intro c
  rw [f_X4_isSpelt_23]
  refine l1_many mt_X4_isSpelt (pc' := 24) (L' := [some (.ref 35), some (.int p1)]) (st' := [.ref 35]) 1 rfl ?_
  refine l1_getR hQ mt_X4_isSpelt rfl (o := 35) (ci := 3) (k := 2) (a := 1) (b := 2) rfl rfl rfl rfl rfl (q := 9) rfl ?_
  refine l1_many mt_X4_isSpelt (pc' := 33) (L' := [some (.ref 35), some (.int p1)]) (st' := [.int (p1 + 94), .int 10, .ref 9]) 4 rfl ?_
  refine l1_callV hQ mt_X4_isSpelt mt_X6_tell rfl rfl (o := 9) (ci := 5) (As := [.int 10, .int (p1 + 94)]) (rest := []) rfl rfl rfl rfl rfl rfl (st1 := fun x1 => [.int x1]) (fun _ => rfl) (ok_X6_tell hQ c 10 (p1 + 94)) (fun x1 c2 => ?_)
  refine l1_ck (fun hz => ?_)
  exact l1_retZ mt_X4_isSpelt rfl rfl rfl hz
set_option maxRecDepth 100000 in
theorem en_X4_isSpelt {Q : hS → am_H → Prop} (hQ : l1_em kc Q) (N : Nat) (c : hS) (p1 : Int32) : l1_G (wN wI) Q am_i_X4_isSpelt 0 [some (.ref 35), some (.int p1)] [] c (f_X4_isSpelt N c p1) := by
  rw [f_X4_isSpelt]
  refine l1_many mt_X4_isSpelt (pc' := 5) (L' := [some (.ref 35), some (.int p1)]) (st' := [.int (p1 + 94), .ref 35]) 4 rfl ?_
  refine l1_callV hQ mt_X4_isSpelt mt_X4_number rfl rfl (o := 35) (ci := 3) (As := [.int (p1 + 94)]) (rest := []) rfl rfl rfl rfl rfl rfl (st1 := fun x1 => [.long x1]) (fun _ => rfl) (ok_X4_number hQ N c (p1 + 94)) (fun x1 c2 => ?_)
  refine l1_many mt_X4_isSpelt (pc' := bif am_cc .lt (j_cmp x1 1) 0 then 23 else 15) (L' := [some (.ref 35), some (.int p1), some (.long x1)]) (st' := []) 5 rfl ?_
  refine l1_bif rfl ?_ ?_
  · refine l1_weak (m := [true, true, false, false, false]) (L' := [some (.ref 35), some (.int p1)]) rfl ?_
    exact ok_X4_isSpelt_23 hQ N p1 c2
  · refine l1_many mt_X4_isSpelt (pc' := bif am_cc .le (j_cmp x1 100) 0 then 37 else 23) (L' := [some (.ref 35), some (.int p1), some (.long x1)]) (st' := []) 4 rfl ?_
    refine l1_bif rfl ?_ ?_
    · refine l1_many mt_X4_isSpelt (pc' := 53) (L' := [some (.ref 35), some (.int p1), some (.long x1), none, some (.int (((p1 + 110) + x1.toInt32) - 1))]) (st' := [.int ((((p1 + 110) + x1.toInt32) - 1) + 1), .ref 35]) 13 rfl ?_
      refine l1_callV hQ mt_X4_isSpelt mt_X0_reaches rfl rfl (o := 35) (ci := 3) (As := [.int ((((p1 + 110) + x1.toInt32) - 1) + 1)]) (rest := []) rfl rfl rfl rfl rfl rfl (st1 := fun x3 => [.int x3]) (fun _ => rfl) (ok_X0_reaches_35 hQ c2 ((((p1 + 110) + x1.toInt32) - 1) + 1)) (fun x3 c4 => ?_)
      refine l1_many mt_X4_isSpelt (pc' := bif am_cc .ne x3 0 then 61 else 59) (L' := [some (.ref 35), some (.int p1), some (.long x1), none, some (.int (((p1 + 110) + x1.toInt32) - 1))]) (st' := []) 1 rfl ?_
      refine l1_bin rfl ?_ ?_
      · refine l1_many mt_X4_isSpelt (pc' := 60) (L' := [some (.ref 35), some (.int p1), some (.long x1), none, some (.int (((p1 + 110) + x1.toInt32) - 1))]) (st' := [.int 0]) 1 rfl ?_
        exact l1_ret mt_X4_isSpelt rfl rfl rfl
      · refine l1_many mt_X4_isSpelt (pc' := 62) (L' := [some (.ref 35), some (.int p1), some (.long x1), none, some (.int (((p1 + 110) + x1.toInt32) - 1))]) (st' := [.ref 35]) 1 rfl ?_
        refine l1_getR hQ mt_X4_isSpelt rfl (o := 35) (ci := 3) (k := 0) (a := 1) (b := 2) rfl rfl rfl rfl rfl (q := 3) rfl ?_
        refine l1_many mt_X4_isSpelt (pc' := 67) (L' := [some (.ref 35), some (.int p1), some (.long x1), none, some (.int (((p1 + 110) + x1.toInt32) - 1))]) (st' := [.int (((p1 + 110) + x1.toInt32) - 1), .ref 3]) 1 rfl ?_
        refine l1_callV hQ mt_X4_isSpelt mt_X2_get rfl rfl (o := 3) (ci := 1) (As := [.int (((p1 + 110) + x1.toInt32) - 1)]) (rest := []) rfl rfl rfl rfl rfl rfl (st1 := fun x5 => [.int x5]) (fun _ => rfl) (ok_X2_get hQ c4 3 (((p1 + 110) + x1.toInt32) - 1) rfl) (fun x5 c6 => ?_)
        refine l1_many mt_X4_isSpelt (pc' := bif am_cc .eq x5 0 then 85 else 73) (L' := [some (.ref 35), some (.int p1), some (.long x1), none, some (.int (((p1 + 110) + x1.toInt32) - 1))]) (st' := []) 1 rfl ?_
        refine l1_bif rfl ?_ ?_
        · refine l1_many mt_X4_isSpelt (pc' := 86) (L' := [some (.ref 35), some (.int p1), some (.long x1), none, some (.int (((p1 + 110) + x1.toInt32) - 1))]) (st' := [.ref 35]) 1 rfl ?_
          refine l1_getR hQ mt_X4_isSpelt rfl (o := 35) (ci := 3) (k := 1) (a := 1) (b := 2) rfl rfl rfl rfl rfl (q := 5) rfl ?_
          refine l1_many mt_X4_isSpelt (pc' := 90) (L' := [some (.ref 35), some (.int p1), some (.long x1), none, some (.int (((p1 + 110) + x1.toInt32) - 1))]) (st' := [.int 0, .ref 5]) 1 rfl ?_
          refine l1_callV hQ mt_X4_isSpelt mt_X2_cutTo rfl rfl (o := 5) (ci := 1) (As := [.int 0]) (rest := []) rfl rfl rfl rfl rfl rfl (st1 := fun _ => []) (fun _ => rfl) (ok_X2_cutTo hQ c6 5 0 rfl) (fun _ c7 => ?_)
          refine l1_many mt_X4_isSpelt (pc' := 94) (L' := [some (.ref 35), some (.int p1), some (.long x1), none, some (.int (((p1 + 110) + x1.toInt32) - 1))]) (st' := [.ref 35]) 1 rfl ?_
          refine l1_getR hQ mt_X4_isSpelt rfl (o := 35) (ci := 3) (k := 1) (a := 1) (b := 2) rfl rfl rfl rfl rfl (q := 5) rfl ?_
          refine l1_many mt_X4_isSpelt (pc' := 98) (L' := [some (.ref 35), some (.int p1), some (.long x1), none, some (.int (((p1 + 110) + x1.toInt32) - 1))]) (st' := [.ref 35, .ref 5]) 1 rfl ?_
          refine l1_getR hQ mt_X4_isSpelt rfl (o := 35) (ci := 3) (k := 0) (a := 1) (b := 2) rfl rfl rfl rfl rfl (q := 3) rfl ?_
          refine l1_many mt_X4_isSpelt (pc' := 107) (L' := [some (.ref 35), some (.int p1), some (.long x1), none, some (.int (((p1 + 110) + x1.toInt32) - 1))]) (st' := [.int (((p1 + 110) + x1.toInt32) - 1), .int (p1 + 110), .ref 3, .ref 5]) 4 rfl ?_
          refine l1_callV hQ mt_X4_isSpelt mt_X2_addRow rfl rfl (o := 5) (ci := 1) (As := [.ref 3, .int (p1 + 110), .int (((p1 + 110) + x1.toInt32) - 1)]) (rest := []) rfl rfl rfl rfl rfl rfl (st1 := fun _ => []) (fun _ => rfl) (ok_X2_addRow hQ N c7 5 3 (p1 + 110) (((p1 + 110) + x1.toInt32) - 1) rfl rfl) (fun _ c8 => ?_)
          refine l1_many mt_X4_isSpelt (pc' := 111) (L' := [some (.ref 35), some (.int p1), some (.long x1), none, some (.int (((p1 + 110) + x1.toInt32) - 1))]) (st' := [.int 1]) 1 rfl ?_
          exact l1_ret mt_X4_isSpelt rfl rfl rfl
        · refine l1_many mt_X4_isSpelt (pc' := 74) (L' := [some (.ref 35), some (.int p1), some (.long x1), none, some (.int (((p1 + 110) + x1.toInt32) - 1))]) (st' := [.ref 35]) 1 rfl ?_
          refine l1_getR hQ mt_X4_isSpelt rfl (o := 35) (ci := 3) (k := 2) (a := 1) (b := 2) rfl rfl rfl rfl rfl (q := 9) rfl ?_
          refine l1_many mt_X4_isSpelt (pc' := 81) (L' := [some (.ref 35), some (.int p1), some (.long x1), none, some (.int (((p1 + 110) + x1.toInt32) - 1))]) (st' := [.int (((p1 + 110) + x1.toInt32) - 1), .int 10, .ref 9]) 2 rfl ?_
          refine l1_callV hQ mt_X4_isSpelt mt_X6_tell rfl rfl (o := 9) (ci := 5) (As := [.int 10, .int (((p1 + 110) + x1.toInt32) - 1)]) (rest := []) rfl rfl rfl rfl rfl rfl (st1 := fun x9 => [.int x9]) (fun _ => rfl) (ok_X6_tell hQ c6 10 (((p1 + 110) + x1.toInt32) - 1)) (fun x9 c10 => ?_)
          refine l1_ck (fun hz => ?_)
          exact l1_retZ mt_X4_isSpelt rfl rfl rfl hz
    · refine l1_weak (m := [true, true, false, false, false]) (L' := [some (.ref 35), some (.int p1)]) rfl ?_
      exact ok_X4_isSpelt_23 hQ N p1 c2
theorem ok_X4_isSpelt {Q : hS → am_H → Prop} (hQ : l1_em kc Q) (N : Nat) (c : hS) (p1 : Int32) : l1_T wI Q am_i_X4_isSpelt [.ref 35, .int p1] c (f_X4_isSpelt N c p1) := l1_of (en_X4_isSpelt hQ N c p1) ⟨rfl, rfl, trivial⟩
set_option maxRecDepth 100000 in
theorem ok_X4_takeIn_180 {Q : hS → am_H → Prop} (hQ : l1_em kc Q) (N : Nat) (p1 : Nat) (hp1 : kc p1 = 8) : ∀ (c : hS), l1_G (wN wI) Q am_i_X4_takeIn 180 [some (.ref 35)] [] c (f_X4_takeIn_180 N p1 c) := by
  intro c
  rw [f_X4_takeIn_180]
  refine l1_many mt_X4_takeIn (pc' := 181) (L' := [some (.ref 35)]) (st' := [.ref 35]) 1 rfl ?_
  refine l1_getR hQ mt_X4_takeIn rfl (o := 35) (ci := 3) (k := 2) (a := 1) (b := 2) rfl rfl rfl rfl rfl (q := 9) rfl ?_
  refine l1_many mt_X4_takeIn (pc' := 186) (L' := [some (.ref 35)]) (st' := [.ref 35, .int 1, .ref 9]) 2 rfl ?_
  refine l1_getR hQ mt_X4_takeIn rfl (o := 35) (ci := 3) (k := 0) (a := 1) (b := 2) rfl rfl rfl rfl rfl (q := 3) rfl ?_
  refine l1_callV hQ mt_X4_takeIn mt_X2_size rfl rfl (o := 3) (ci := 1) (As := []) (rest := [.int 1, .ref 9]) rfl rfl rfl rfl rfl rfl (st1 := fun x1 => [.int x1, .int 1, .ref 9]) (fun _ => rfl) (ok_X2_size hQ c 3 rfl) (fun x1 c2 => ?_)
  refine l1_callV hQ mt_X4_takeIn mt_X6_tell rfl rfl (o := 9) (ci := 5) (As := [.int 1, .int x1]) (rest := []) rfl rfl rfl rfl rfl rfl (st1 := fun x3 => [.int x3]) (fun _ => rfl) (ok_X6_tell hQ c2 1 x1) (fun x3 c4 => ?_)
  refine l1_ck (fun hz => ?_)
  exact l1_retZ mt_X4_takeIn rfl rfl rfl hz
set_option maxRecDepth 100000 in
theorem ok_X4_takeIn_4 {Q : hS → am_H → Prop} (hQ : l1_em kc Q) (N : Nat) (p1 : Nat) (hp1 : kc p1 = 8) : ∀ n : Nat, ∀ (c : hS) (v2 : Int32) (v3 : Int32), l1_G (wN wI) Q am_i_X4_takeIn 4 [some (.ref 35), some (.ref p1), some (.int v2), some (.int v3)] [] c (f_X4_takeIn_4 N p1 n c v2 v3) := by
  intro n
  induction n with
  | zero => intro c v2 v3; exact l1_none
  | succ n ih =>
    intro c v2 v3
    rw [f_X4_takeIn_4]
    refine l1_many mt_X4_takeIn (pc' := bif am_cc .ge v3 20000 then 180 else 11) (L' := [some (.ref 35), some (.ref p1), some (.int v2), some (.int v3)]) (st' := []) 3 rfl ?_
    refine l1_bif rfl ?_ ?_
    · refine l1_weak (m := [true, false, false, false, false, false, false, false]) (L' := [some (.ref 35)]) rfl ?_
      exact ok_X4_takeIn_180 hQ N p1 hp1 c
    · refine l1_many mt_X4_takeIn (pc' := 16) (L' := [some (.ref 35), some (.ref p1), some (.int v2), some (.int v3)]) (st' := [.ref 35, .int (v2 + 110)]) 4 rfl ?_
      refine l1_getR hQ mt_X4_takeIn rfl (o := 35) (ci := 3) (k := 0) (a := 1) (b := 2) rfl rfl rfl rfl rfl (q := 3) rfl ?_
      refine l1_callV hQ mt_X4_takeIn mt_X2_size rfl rfl (o := 3) (ci := 1) (As := []) (rest := [.int (v2 + 110)]) rfl rfl rfl rfl rfl rfl (st1 := fun x1 => [.int x1, .int (v2 + 110)]) (fun _ => rfl) (ok_X2_size hQ c 3 rfl) (fun x1 c2 => ?_)
      refine l1_many mt_X4_takeIn (pc' := bif am_cc .gt (v2 + 110) x1 then 180 else 25) (L' := [some (.ref 35), some (.ref p1), some (.int v2), some (.int v3)]) (st' := []) 1 rfl ?_
      refine l1_bif rfl ?_ ?_
      · refine l1_weak (m := [true, false, false, false, false, false, false, false]) (L' := [some (.ref 35)]) rfl ?_
        exact ok_X4_takeIn_180 hQ N p1 hp1 c2
      · refine l1_many mt_X4_takeIn (pc' := 27) (L' := [some (.ref 35), some (.ref p1), some (.int v2), some (.int v3)]) (st' := [.int v2, .ref 35]) 2 rfl ?_
        refine l1_callV hQ mt_X4_takeIn mt_X4_isHead rfl rfl (o := 35) (ci := 3) (As := [.int v2]) (rest := []) rfl rfl rfl rfl rfl rfl (st1 := fun x3 => [.int x3]) (fun _ => rfl) (ok_X4_isHead hQ N c2 v2) (fun x3 c4 => ?_)
        refine l1_many mt_X4_takeIn (pc' := bif am_cc .eq x3 0 then 41 else 33) (L' := [some (.ref 35), some (.ref p1), some (.int v2), some (.int v3)]) (st' := []) 1 rfl ?_
        refine l1_bif rfl ?_ ?_
        · refine l1_many mt_X4_takeIn (pc' := 42) (L' := [some (.ref 35), some (.ref p1), some (.int v2), some (.int v3)]) (st' := [.int 0]) 1 rfl ?_
          exact l1_ret mt_X4_takeIn rfl rfl rfl
        · refine l1_many mt_X4_takeIn (pc' := 35) (L' := [some (.ref 35), some (.ref p1), some (.int v2), some (.int v3)]) (st' := [.int v2, .ref 35]) 2 rfl ?_
          refine l1_callV hQ mt_X4_takeIn mt_X4_isSpelt rfl rfl (o := 35) (ci := 3) (As := [.int v2]) (rest := []) rfl rfl rfl rfl rfl rfl (st1 := fun x5 => [.int x5]) (fun _ => rfl) (ok_X4_isSpelt hQ N c4 v2) (fun x5 c6 => ?_)
          refine l1_many mt_X4_takeIn (pc' := bif am_cc .ne x5 0 then 43 else 41) (L' := [some (.ref 35), some (.ref p1), some (.int v2), some (.int v3)]) (st' := []) 1 rfl ?_
          refine l1_bin rfl ?_ ?_
          · refine l1_many mt_X4_takeIn (pc' := 42) (L' := [some (.ref 35), some (.ref p1), some (.int v2), some (.int v3)]) (st' := [.int 0]) 1 rfl ?_
            exact l1_ret mt_X4_takeIn rfl rfl rfl
          · refine l1_many mt_X4_takeIn (pc' := 48) (L' := [some (.ref 35), some (.ref p1), some (.int v2), some (.int v3)]) (st' := [.ref 35, .int (v2 + 110)]) 4 rfl ?_
            refine l1_getR hQ mt_X4_takeIn rfl (o := 35) (ci := 3) (k := 1) (a := 1) (b := 2) rfl rfl rfl rfl rfl (q := 5) rfl ?_
            refine l1_callV hQ mt_X4_takeIn mt_X2_size rfl rfl (o := 5) (ci := 1) (As := []) (rest := [.int (v2 + 110)]) rfl rfl rfl rfl rfl rfl (st1 := fun x7 => [.int x7, .int (v2 + 110)]) (fun _ => rfl) (ok_X2_size hQ c6 5 rfl) (fun x7 c8 => ?_)
            refine l1_many mt_X4_takeIn (pc' := 60) (L' := [some (.ref 35), some (.ref p1), some (.int v2), some (.int v3), some (.int (((v2 + 110) + x7) + 1))]) (st' := [.ref 35]) 5 rfl ?_
            refine l1_getR hQ mt_X4_takeIn rfl (o := 35) (ci := 3) (k := 1) (a := 1) (b := 2) rfl rfl rfl rfl rfl (q := 5) rfl ?_
            refine l1_many mt_X4_takeIn (pc' := 65) (L' := [some (.ref 35), some (.ref p1), some (.int v2), some (.int v3), some (.int (((v2 + 110) + x7) + 1))]) (st' := [.ref 1000000119, .ref 5]) 1 rfl ?_
            refine l1_callV hQ mt_X4_takeIn mt_X2_isText rfl rfl (o := 5) (ci := 1) (As := [.ref 1000000119]) (rest := []) rfl rfl rfl rfl rfl rfl (st1 := fun x9 => [.int x9]) (fun _ => rfl) (ok_X2_isText hQ N c8 5 tx19 rfl ot19) (fun x9 c10 => ?_)
            refine l1_many mt_X4_takeIn (pc' := bif am_cc .eq x9 0 then 95 else 71) (L' := [some (.ref 35), some (.ref p1), some (.int v2), some (.int v3), some (.int (((v2 + 110) + x7) + 1))]) (st' := []) 1 rfl ?_
            refine l1_bif rfl ?_ ?_
            · refine l1_many mt_X4_takeIn (pc' := 97) (L' := [some (.ref 35), some (.ref p1), some (.int v2), some (.int v3), some (.int (((v2 + 110) + x7) + 1))]) (st' := [.int v2, .ref 35]) 2 rfl ?_
              refine l1_callV hQ mt_X4_takeIn mt_X4_isMember rfl rfl (o := 35) (ci := 3) (As := [.int v2]) (rest := []) rfl rfl rfl rfl rfl rfl (st1 := fun x11 => [.int x11]) (fun _ => rfl) (ok_X4_isMember hQ N c10 v2) (fun x11 c12 => ?_)
              refine l1_many mt_X4_takeIn (pc' := bif am_cc .ne x11 0 then 105 else 103) (L' := [some (.ref 35), some (.ref p1), some (.int v2), some (.int v3), some (.int (((v2 + 110) + x7) + 1))]) (st' := []) 1 rfl ?_
              refine l1_bin rfl ?_ ?_
              · refine l1_many mt_X4_takeIn (pc' := 104) (L' := [some (.ref 35), some (.ref p1), some (.int v2), some (.int v3), some (.int (((v2 + 110) + x7) + 1))]) (st' := [.int 0]) 1 rfl ?_
                exact l1_ret mt_X4_takeIn rfl rfl rfl
              · refine l1_many mt_X4_takeIn (pc' := 108) (L' := [some (.ref 35), some (.ref p1), some (.int v2), some (.int v3), some (.int (((v2 + 110) + x7) + 1))]) (st' := [.int 4, .int (((v2 + 110) + x7) + 1)]) 2 rfl ?_
                refine l1_callS mt_X4_takeIn mt_X11_roundedUp rfl rfl (As := [.int (((v2 + 110) + x7) + 1), .int 4]) (rest := []) rfl rfl rfl (st1 := fun x13 => [.int x13]) (fun _ => rfl) (ok_X11_roundedUp hQ c12 (((v2 + 110) + x7) + 1) 4) (fun x13 c14 => ?_)
                refine l1_many mt_X4_takeIn (pc' := 118) (L' := [some (.ref 35), some (.ref p1), some (.int v2), some (.int v3), some (.int (((v2 + 110) + x7) + 1)), some (.int x13)]) (st' := [.int (v2 + 54), .ref 35]) 5 rfl ?_
                refine l1_callV hQ mt_X4_takeIn mt_X4_number rfl rfl (o := 35) (ci := 3) (As := [.int (v2 + 54)]) (rest := []) rfl rfl rfl rfl rfl rfl (st1 := fun x15 => [.long x15]) (fun _ => rfl) (ok_X4_number hQ N c14 (v2 + 54)) (fun x15 c16 => ?_)
                refine l1_many mt_X4_takeIn (pc' := 130) (L' := [some (.ref 35), some (.ref p1), some (.int v2), some (.int v3), some (.int (((v2 + 110) + x7) + 1)), some (.int x13), some (.int x15.toInt32)]) (st' := [.int 4, .int (x13 + x15.toInt32)]) 6 rfl ?_
                refine l1_callS mt_X4_takeIn mt_X11_roundedUp rfl rfl (As := [.int (x13 + x15.toInt32), .int 4]) (rest := []) rfl rfl rfl (st1 := fun x17 => [.int x17]) (fun _ => rfl) (ok_X11_roundedUp hQ c16 (x13 + x15.toInt32) 4) (fun x17 c18 => ?_)
                refine l1_many mt_X4_takeIn (pc' := 138) (L' := [some (.ref 35), some (.ref p1), some (.int v2), some (.int v3), some (.int (((v2 + 110) + x7) + 1)), some (.int x13), some (.int x15.toInt32), some (.int x17)]) (st' := [.int x17, .ref 35]) 3 rfl ?_
                refine l1_callV hQ mt_X4_takeIn mt_X0_reaches rfl rfl (o := 35) (ci := 3) (As := [.int x17]) (rest := []) rfl rfl rfl rfl rfl rfl (st1 := fun x19 => [.int x19]) (fun _ => rfl) (ok_X0_reaches_35 hQ c18 x17) (fun x19 c20 => ?_)
                refine l1_many mt_X4_takeIn (pc' := bif am_cc .eq x19 0 then 169 else 144) (L' := [some (.ref 35), some (.ref p1), some (.int v2), some (.int v3), some (.int (((v2 + 110) + x7) + 1)), some (.int x13), some (.int x15.toInt32), some (.int x17)]) (st' := []) 1 rfl ?_
                refine l1_bif rfl ?_ ?_
                · refine l1_many mt_X4_takeIn (pc' := 170) (L' := [some (.ref 35), some (.ref p1), some (.int v2), some (.int v3), some (.int (((v2 + 110) + x7) + 1)), some (.int x13), some (.int x15.toInt32), some (.int x17)]) (st' := [.int 0]) 1 rfl ?_
                  exact l1_ret mt_X4_takeIn rfl rfl rfl
                · refine l1_many mt_X4_takeIn (pc' := 148) (L' := [some (.ref 35), some (.ref p1), some (.int v2), some (.int v3), some (.int (((v2 + 110) + x7) + 1)), some (.int x13), some (.int x15.toInt32), some (.int x17)]) (st' := [.int v2, .ref 35, .ref p1, .ref 35]) 4 rfl ?_
                  refine l1_callV hQ mt_X4_takeIn mt_X4_isDirectory rfl rfl (o := 35) (ci := 3) (As := [.int v2]) (rest := [.ref p1, .ref 35]) rfl rfl rfl rfl rfl rfl (st1 := fun x21 => [.int x21, .ref p1, .ref 35]) (fun _ => rfl) (ok_X4_isDirectory hQ N c20 v2) (fun x21 c22 => ?_)
                  refine l1_many mt_X4_takeIn (pc' := 152) (L' := [some (.ref 35), some (.ref p1), some (.int v2), some (.int v3), some (.int (((v2 + 110) + x7) + 1)), some (.int x13), some (.int x15.toInt32), some (.int x17)]) (st' := [.ref 35, .int x21, .ref p1, .ref 35]) 1 rfl ?_
                  refine l1_getR hQ mt_X4_takeIn rfl (o := 35) (ci := 3) (k := 0) (a := 1) (b := 2) rfl rfl rfl rfl rfl (q := 3) rfl ?_
                  refine l1_many mt_X4_takeIn (pc' := 163) (L' := [some (.ref 35), some (.ref p1), some (.int v2), some (.int v3), some (.int (((v2 + 110) + x7) + 1)), some (.int x13), some (.int x15.toInt32), some (.int x17)]) (st' := [.int v2, .int (x13 + x15.toInt32), .int x13, .ref 3, .int x21, .ref p1, .ref 35]) 5 rfl ?_
                  refine l1_callV hQ mt_X4_takeIn mt_X0_arrives rfl rfl (o := 35) (ci := 3) (As := [.ref p1, .int x21, .ref 3, .int x13, .int (x13 + x15.toInt32), .int v2]) (rest := []) rfl rfl rfl rfl rfl rfl (st1 := fun x23 => [.int x23]) (fun _ => rfl) (ok_X0_arrives_35 hQ N c22 p1 x21 3 x13 (x13 + x15.toInt32) v2 hp1 rfl) (fun x23 c24 => ?_)
                  refine l1_many mt_X4_takeIn (pc' := bif am_cc .ne x23 0 then 171 else 169) (L' := [some (.ref 35), some (.ref p1), some (.int v2), some (.int v3), some (.int (((v2 + 110) + x7) + 1)), some (.int x13), some (.int x15.toInt32), some (.int x17)]) (st' := []) 1 rfl ?_
                  refine l1_bin rfl ?_ ?_
                  · refine l1_many mt_X4_takeIn (pc' := 170) (L' := [some (.ref 35), some (.ref p1), some (.int v2), some (.int v3), some (.int (((v2 + 110) + x7) + 1)), some (.int x13), some (.int x15.toInt32), some (.int x17)]) (st' := [.int 0]) 1 rfl ?_
                    exact l1_ret mt_X4_takeIn rfl rfl rfl
                  · refine l1_many mt_X4_takeIn (pc' := 4) (L' := [some (.ref 35), some (.ref p1), some (.int x17), some (.int (v3 + 1)), some (.int (((v2 + 110) + x7) + 1)), some (.int x13), some (.int x15.toInt32), some (.int x17)]) (st' := []) 4 rfl ?_
                    refine l1_weak (m := [true, true, true, true, false, false, false, false]) (L' := [some (.ref 35), some (.ref p1), some (.int x17), some (.int (v3 + 1))]) rfl ?_
                    exact ih c24 x17 (v3 + 1)
            · refine l1_many mt_X4_takeIn (pc' := 74) (L' := [some (.ref 35), some (.ref p1), some (.int v2), some (.int v3), some (.int (((v2 + 110) + x7) + 1))]) (st' := [.int 0, .int v2, .ref 35]) 3 rfl ?_
              refine l1_callV hQ mt_X4_takeIn mt_X4_isSized rfl rfl (o := 35) (ci := 3) (As := [.int v2, .int 0]) (rest := []) rfl rfl rfl rfl rfl rfl (st1 := fun x25 => [.int x25]) (fun _ => rfl) (ok_X4_isSized hQ N c10 v2 0) (fun x25 c26 => ?_)
              refine l1_many mt_X4_takeIn (pc' := bif am_cc .eq x25 0 then 93 else 80) (L' := [some (.ref 35), some (.ref p1), some (.int v2), some (.int v3), some (.int (((v2 + 110) + x7) + 1))]) (st' := []) 1 rfl ?_
              refine l1_bif rfl ?_ ?_
              · refine l1_many mt_X4_takeIn (pc' := 94) (L' := [some (.ref 35), some (.ref p1), some (.int v2), some (.int v3), some (.int (((v2 + 110) + x7) + 1))]) (st' := [.int 0]) 1 rfl ?_
                exact l1_ret mt_X4_takeIn rfl rfl rfl
              · refine l1_many mt_X4_takeIn (pc' := 83) (L' := [some (.ref 35), some (.ref p1), some (.int v2), some (.int v3), some (.int (((v2 + 110) + x7) + 1))]) (st' := [.int (((v2 + 110) + x7) + 1), .ref 35]) 2 rfl ?_
                refine l1_callV hQ mt_X4_takeIn mt_X0_isZeroFrom rfl rfl (o := 35) (ci := 3) (As := [.int (((v2 + 110) + x7) + 1)]) (rest := []) rfl rfl rfl rfl rfl rfl (st1 := fun x27 => [.int x27]) (fun _ => rfl) (ok_X0_isZeroFrom_35 hQ N c26 (((v2 + 110) + x7) + 1)) (fun x27 c28 => ?_)
                refine l1_many mt_X4_takeIn (pc' := bif am_cc .eq x27 0 then 93 else 89) (L' := [some (.ref 35), some (.ref p1), some (.int v2), some (.int v3), some (.int (((v2 + 110) + x7) + 1))]) (st' := []) 1 rfl ?_
                refine l1_bif rfl ?_ ?_
                · refine l1_many mt_X4_takeIn (pc' := 94) (L' := [some (.ref 35), some (.ref p1), some (.int v2), some (.int v3), some (.int (((v2 + 110) + x7) + 1))]) (st' := [.int 0]) 1 rfl ?_
                  exact l1_ret mt_X4_takeIn rfl rfl rfl
                · refine l1_many mt_X4_takeIn (pc' := 94) (L' := [some (.ref 35), some (.ref p1), some (.int v2), some (.int v3), some (.int (((v2 + 110) + x7) + 1))]) (st' := [.int 1]) 2 rfl ?_
                  exact l1_ret mt_X4_takeIn rfl rfl rfl
set_option maxRecDepth 100000 in
theorem en_X4_takeIn {Q : hS → am_H → Prop} (hQ : l1_em kc Q) (N : Nat) (c : hS) (p1 : Nat) (hp1 : kc p1 = 8) : l1_G (wN wI) Q am_i_X4_takeIn 0 [some (.ref 35), some (.ref p1)] [] c (f_X4_takeIn N c p1) := by
  rw [f_X4_takeIn]
  refine l1_many mt_X4_takeIn (pc' := 4) (L' := [some (.ref 35), some (.ref p1), some (.int 0), some (.int 0)]) (st' := []) 4 rfl ?_
  exact ok_X4_takeIn_4 hQ N p1 hp1 N c 0 0
theorem ok_X4_takeIn {Q : hS → am_H → Prop} (hQ : l1_em kc Q) (N : Nat) (c : hS) (p1 : Nat) (hp1 : kc p1 = 8) : l1_T wI Q am_i_X4_takeIn [.ref 35, .ref p1] c (f_X4_takeIn N c p1) := l1_of (en_X4_takeIn hQ N c p1 hp1) ⟨rfl, rfl, trivial⟩
set_option maxRecDepth 100000 in
theorem ok_X4_addNumber_3 {Q : hS → am_H → Prop} (hQ : l1_em kc Q) (N : Nat) (p1 : Int32) : ∀ n : Nat, ∀ (c : hS) (v2 : Int32), l1_G (wN wV) Q am_i_X4_addNumber 3 [some (.ref 35), some (.int p1), some (.int v2)] [] c (f_X4_addNumber_3 N p1 n c v2) := by
  intro n
  induction n with
  | zero => intro c v2; exact l1_none
  | succ n ih =>
    intro c v2
    rw [f_X4_addNumber_3]
    refine l1_many mt_X4_addNumber (pc' := bif am_cc .lt v2 0 then 44 else 7) (L' := [some (.ref 35), some (.int p1), some (.int v2)]) (st' := []) 2 rfl ?_
    refine l1_bif rfl ?_ ?_
    · exact l1_ret mt_X4_addNumber rfl rfl rfl
    · refine l1_many mt_X4_addNumber (pc' := 15) (L' := [some (.ref 35), some (.int p1), some (.int v2), some (.int ((j_ushr p1 v2) &&& 15))]) (st' := [.ref 35]) 7 rfl ?_
      refine l1_getR hQ mt_X4_addNumber rfl (o := 35) (ci := 3) (k := 0) (a := 1) (b := 2) rfl rfl rfl rfl rfl (q := 3) rfl ?_
      refine l1_many mt_X4_addNumber (pc' := bif am_cc .ge ((j_ushr p1 v2) &&& 15) 10 then 31 else 24) (L' := [some (.ref 35), some (.int p1), some (.int v2), some (.int ((j_ushr p1 v2) &&& 15))]) (st' := [.ref 3]) 3 rfl ?_
      refine l1_bif rfl ?_ ?_
      · refine l1_many mt_X4_addNumber (pc' := 35) (L' := [some (.ref 35), some (.int p1), some (.int v2), some (.int ((j_ushr p1 v2) &&& 15))]) (st' := [.int (87 + ((j_ushr p1 v2) &&& 15)), .ref 3]) 3 rfl ?_
        refine l1_callV hQ mt_X4_addNumber mt_X2_add rfl rfl (o := 3) (ci := 1) (As := [.int (87 + ((j_ushr p1 v2) &&& 15))]) (rest := []) rfl rfl rfl rfl rfl rfl (st1 := fun _ => []) (fun _ => rfl) (ok_X2_add hQ c 3 (87 + ((j_ushr p1 v2) &&& 15)) rfl) (fun _ c1 => ?_)
        refine l1_many mt_X4_addNumber (pc' := 3) (L' := [some (.ref 35), some (.int p1), some (.int (v2 + (-4))), some (.int ((j_ushr p1 v2) &&& 15))]) (st' := []) 2 rfl ?_
        refine l1_weak (m := [true, true, true, false]) (L' := [some (.ref 35), some (.int p1), some (.int (v2 + (-4)))]) rfl ?_
        exact ih c1 (v2 + (-4))
      · refine l1_many mt_X4_addNumber (pc' := 35) (L' := [some (.ref 35), some (.int p1), some (.int v2), some (.int ((j_ushr p1 v2) &&& 15))]) (st' := [.int (48 + ((j_ushr p1 v2) &&& 15)), .ref 3]) 4 rfl ?_
        refine l1_callV hQ mt_X4_addNumber mt_X2_add rfl rfl (o := 3) (ci := 1) (As := [.int (48 + ((j_ushr p1 v2) &&& 15))]) (rest := []) rfl rfl rfl rfl rfl rfl (st1 := fun _ => []) (fun _ => rfl) (ok_X2_add hQ c 3 (48 + ((j_ushr p1 v2) &&& 15)) rfl) (fun _ c2 => ?_)
        refine l1_many mt_X4_addNumber (pc' := 3) (L' := [some (.ref 35), some (.int p1), some (.int (v2 + (-4))), some (.int ((j_ushr p1 v2) &&& 15))]) (st' := []) 2 rfl ?_
        refine l1_weak (m := [true, true, true, false]) (L' := [some (.ref 35), some (.int p1), some (.int (v2 + (-4)))]) rfl ?_
        exact ih c2 (v2 + (-4))
set_option maxRecDepth 100000 in
theorem en_X4_addNumber {Q : hS → am_H → Prop} (hQ : l1_em kc Q) (N : Nat) (c : hS) (p1 : Int32) : l1_G (wN wV) Q am_i_X4_addNumber 0 [some (.ref 35), some (.int p1)] [] c (f_X4_addNumber N c p1) := by
  rw [f_X4_addNumber]
  refine l1_many mt_X4_addNumber (pc' := 3) (L' := [some (.ref 35), some (.int p1), some (.int 28)]) (st' := []) 2 rfl ?_
  exact ok_X4_addNumber_3 hQ N p1 N c 28
theorem ok_X4_addNumber {Q : hS → am_H → Prop} (hQ : l1_em kc Q) (N : Nat) (c : hS) (p1 : Int32) : l1_T wV Q am_i_X4_addNumber [.ref 35, .int p1] c (f_X4_addNumber N c p1) := l1_of (en_X4_addNumber hQ N c p1) ⟨rfl, rfl, trivial⟩
set_option maxRecDepth 100000 in
theorem ok_X4_addHead_13 {Q : hS → am_H → Prop} (hQ : l1_em kc Q) (N : Nat) (p1 : Int32) (p2 : Int32) (p3 : Int32) (p4 : Int32) : ∀ n : Nat, ∀ (c : hS) (v5 : Int32), l1_G (wN wV) Q am_i_X4_addHead 13 [some (.ref 35), some (.int p1), some (.int p2), some (.int p3), some (.int p4), some (.int v5)] [] c (f_X4_addHead_13 N p1 p2 p3 p4 n c v5) := by
  intro n
  induction n with
  | zero => intro c v5; exact l1_none
  | succ n ih =>
    intro c v5
    rw [f_X4_addHead_13]
    refine l1_many mt_X4_addHead (pc' := bif am_cc .ge v5 13 then 132 else 20) (L' := [some (.ref 35), some (.int p1), some (.int p2), some (.int p3), some (.int p4), some (.int v5)]) (st' := []) 3 rfl ?_
    refine l1_bif rfl ?_ ?_
    · exact l1_ret mt_X4_addHead rfl rfl rfl
    · refine l1_many mt_X4_addHead (pc' := 23) (L' := [some (.ref 35), some (.int p1), some (.int p2), some (.int p3), some (.int p4), some (.int v5)]) (st' := [.ref 1000000002]) 1 rfl ?_
      refine l1_slen hQ mt_X4_addHead rfl oa2 ?_
      refine l1_many mt_X4_addHead (pc' := 30) (L' := [some (.ref 35), some (.int p1), some (.int p2), some (.int p3), some (.int p4), some (.int v5)]) (st' := [.int ((Int32.ofNat sa2.length) + (8 * v5))]) 4 rfl ?_
      refine l1_ite (fun hs => ?_) (fun hs6 => ?_)
      · refine l1_sw mt_X4_addHead rfl (pc' := 80) (st' := []) rfl (by rw [hs]; rfl) ?_
        refine l1_many mt_X4_addHead (pc' := 82) (L' := [some (.ref 35), some (.int p1), some (.int p2), some (.int p3), some (.int p4), some (.int v5)]) (st' := [.int p1, .ref 35]) 2 rfl ?_
        refine l1_callV hQ mt_X4_addHead mt_X4_addNumber rfl rfl (o := 35) (ci := 3) (As := [.int p1]) (rest := []) rfl rfl rfl rfl rfl rfl (st1 := fun _ => []) (fun _ => rfl) (ok_X4_addNumber hQ N c p1) (fun _ c1 => ?_)
        refine l1_many mt_X4_addHead (pc' := 13) (L' := [some (.ref 35), some (.int p1), some (.int p2), some (.int p3), some (.int p4), some (.int (v5 + 1))]) (st' := []) 3 rfl ?_
        exact ih c1 (v5 + 1)
      refine l1_ite (fun hs => ?_) (fun hs14 => ?_)
      · refine l1_sw mt_X4_addHead rfl (pc' := 88) (st' := []) rfl (by rw [hs]; rfl) ?_
        refine l1_many mt_X4_addHead (pc' := 90) (L' := [some (.ref 35), some (.int p1), some (.int p2), some (.int p3), some (.int p4), some (.int v5)]) (st' := [.int p2, .ref 35]) 2 rfl ?_
        refine l1_callV hQ mt_X4_addHead mt_X4_addNumber rfl rfl (o := 35) (ci := 3) (As := [.int p2]) (rest := []) rfl rfl rfl rfl rfl rfl (st1 := fun _ => []) (fun _ => rfl) (ok_X4_addNumber hQ N c p2) (fun _ c2 => ?_)
        refine l1_many mt_X4_addHead (pc' := 13) (L' := [some (.ref 35), some (.int p1), some (.int p2), some (.int p3), some (.int p4), some (.int (v5 + 1))]) (st' := []) 3 rfl ?_
        exact ih c2 (v5 + 1)
      refine l1_ite (fun hs => ?_) (fun hs22 => ?_)
      · refine l1_sw mt_X4_addHead rfl (pc' := 96) (st' := []) rfl (by rw [hs]; rfl) ?_
        refine l1_many mt_X4_addHead (pc' := 98) (L' := [some (.ref 35), some (.int p1), some (.int p2), some (.int p3), some (.int p4), some (.int v5)]) (st' := [.int 1, .ref 35]) 2 rfl ?_
        refine l1_callV hQ mt_X4_addHead mt_X4_addNumber rfl rfl (o := 35) (ci := 3) (As := [.int 1]) (rest := []) rfl rfl rfl rfl rfl rfl (st1 := fun _ => []) (fun _ => rfl) (ok_X4_addNumber hQ N c 1) (fun _ c3 => ?_)
        refine l1_many mt_X4_addHead (pc' := 13) (L' := [some (.ref 35), some (.int p1), some (.int p2), some (.int p3), some (.int p4), some (.int (v5 + 1))]) (st' := []) 3 rfl ?_
        exact ih c3 (v5 + 1)
      refine l1_ite (fun hs => ?_) (fun hs54 => ?_)
      · refine l1_sw mt_X4_addHead rfl (pc' := 104) (st' := []) rfl (by rw [hs]; rfl) ?_
        refine l1_many mt_X4_addHead (pc' := 106) (L' := [some (.ref 35), some (.int p1), some (.int p2), some (.int p3), some (.int p4), some (.int v5)]) (st' := [.int p3, .ref 35]) 2 rfl ?_
        refine l1_callV hQ mt_X4_addHead mt_X4_addNumber rfl rfl (o := 35) (ci := 3) (As := [.int p3]) (rest := []) rfl rfl rfl rfl rfl rfl (st1 := fun _ => []) (fun _ => rfl) (ok_X4_addNumber hQ N c p3) (fun _ c4 => ?_)
        refine l1_many mt_X4_addHead (pc' := 13) (L' := [some (.ref 35), some (.int p1), some (.int p2), some (.int p3), some (.int p4), some (.int (v5 + 1))]) (st' := []) 3 rfl ?_
        exact ih c4 (v5 + 1)
      refine l1_ite (fun hs => ?_) (fun hs94 => ?_)
      · refine l1_sw mt_X4_addHead rfl (pc' := 112) (st' := []) rfl (by rw [hs]; rfl) ?_
        refine l1_many mt_X4_addHead (pc' := 115) (L' := [some (.ref 35), some (.int p1), some (.int p2), some (.int p3), some (.int p4), some (.int v5)]) (st' := [.int p4, .ref 35]) 2 rfl ?_
        refine l1_callV hQ mt_X4_addHead mt_X4_addNumber rfl rfl (o := 35) (ci := 3) (As := [.int p4]) (rest := []) rfl rfl rfl rfl rfl rfl (st1 := fun _ => []) (fun _ => rfl) (ok_X4_addNumber hQ N c p4) (fun _ c5 => ?_)
        refine l1_many mt_X4_addHead (pc' := 13) (L' := [some (.ref 35), some (.int p1), some (.int p2), some (.int p3), some (.int p4), some (.int (v5 + 1))]) (st' := []) 3 rfl ?_
        exact ih c5 (v5 + 1)
      refine l1_sw mt_X4_addHead rfl (pc' := 121) (st' := []) rfl (by have a6 : Int32.toInt ((Int32.ofNat sa2.length) + (8 * v5)) ≠ 6 := fun e => hs6 (Int32.toInt_inj.mp (e.trans (by decide +kernel))); have a14 : Int32.toInt ((Int32.ofNat sa2.length) + (8 * v5)) ≠ 14 := fun e => hs14 (Int32.toInt_inj.mp (e.trans (by decide +kernel))); have a22 : Int32.toInt ((Int32.ofNat sa2.length) + (8 * v5)) ≠ 22 := fun e => hs22 (Int32.toInt_inj.mp (e.trans (by decide +kernel))); have a54 : Int32.toInt ((Int32.ofNat sa2.length) + (8 * v5)) ≠ 54 := fun e => hs54 (Int32.toInt_inj.mp (e.trans (by decide +kernel))); have a94 : Int32.toInt ((Int32.ofNat sa2.length) + (8 * v5)) ≠ 94 := fun e => hs94 (Int32.toInt_inj.mp (e.trans (by decide +kernel))); exact l1_lsd (by decide +kernel) (⟨Ne.symm a6, Ne.symm a14, Ne.symm a22, Ne.symm a54, Ne.symm a94, trivial⟩) rfl) ?_
      · refine l1_many mt_X4_addHead (pc' := 123) (L' := [some (.ref 35), some (.int p1), some (.int p2), some (.int p3), some (.int p4), some (.int v5)]) (st' := [.int 0, .ref 35]) 2 rfl ?_
        refine l1_callV hQ mt_X4_addHead mt_X4_addNumber rfl rfl (o := 35) (ci := 3) (As := [.int 0]) (rest := []) rfl rfl rfl rfl rfl rfl (st1 := fun _ => []) (fun _ => rfl) (ok_X4_addNumber hQ N c 0) (fun _ c6 => ?_)
        refine l1_many mt_X4_addHead (pc' := 13) (L' := [some (.ref 35), some (.int p1), some (.int p2), some (.int p3), some (.int p4), some (.int (v5 + 1))]) (st' := []) 2 rfl ?_
        exact ih c6 (v5 + 1)
set_option maxRecDepth 100000 in
theorem en_X4_addHead {Q : hS → am_H → Prop} (hQ : l1_em kc Q) (N : Nat) (c : hS) (p1 : Int32) (p2 : Int32) (p3 : Int32) (p4 : Int32) : l1_G (wN wV) Q am_i_X4_addHead 0 [some (.ref 35), some (.int p1), some (.int p2), some (.int p3), some (.int p4)] [] c (f_X4_addHead N c p1 p2 p3 p4) := by
  rw [f_X4_addHead]
  refine l1_many mt_X4_addHead (pc' := 1) (L' := [some (.ref 35), some (.int p1), some (.int p2), some (.int p3), some (.int p4)]) (st' := [.ref 35]) 1 rfl ?_
  refine l1_getR hQ mt_X4_addHead rfl (o := 35) (ci := 3) (k := 0) (a := 1) (b := 2) rfl rfl rfl rfl rfl (q := 3) rfl ?_
  refine l1_many mt_X4_addHead (pc' := 7) (L' := [some (.ref 35), some (.int p1), some (.int p2), some (.int p3), some (.int p4)]) (st' := [.ref 1000000002, .ref 3]) 1 rfl ?_
  refine l1_callV hQ mt_X4_addHead mt_X2_addMark rfl rfl (o := 3) (ci := 1) (As := [.ref 1000000002]) (rest := []) rfl rfl rfl rfl rfl rfl (st1 := fun _ => []) (fun _ => rfl) (ok_X2_addMark hQ N c 3 sa2 rfl oa2) (fun _ c1 => ?_)
  refine l1_many mt_X4_addHead (pc' := 13) (L' := [some (.ref 35), some (.int p1), some (.int p2), some (.int p3), some (.int p4), some (.int 0)]) (st' := []) 2 rfl ?_
  exact ok_X4_addHead_13 hQ N p1 p2 p3 p4 N c1 0
theorem ok_X4_addHead {Q : hS → am_H → Prop} (hQ : l1_em kc Q) (N : Nat) (c : hS) (p1 : Int32) (p2 : Int32) (p3 : Int32) (p4 : Int32) : l1_T wV Q am_i_X4_addHead [.ref 35, .int p1, .int p2, .int p3, .int p4] c (f_X4_addHead N c p1 p2 p3 p4) := l1_of (en_X4_addHead hQ N c p1 p2 p3 p4) ⟨rfl, rfl, rfl, rfl, rfl, trivial⟩
set_option maxRecDepth 100000 in
theorem en_X4_addRest {Q : hS → am_H → Prop} (hQ : l1_em kc Q) (N : Nat) (c : hS) : l1_G (wN wV) Q am_i_X4_addRest 0 [some (.ref 35)] [] c (f_X4_addRest N c) := by
  rw [f_X4_addRest]
  refine l1_many mt_X4_addRest (pc' := 1) (L' := [some (.ref 35)]) (st' := [.ref 35]) 1 rfl ?_
  refine l1_getR hQ mt_X4_addRest rfl (o := 35) (ci := 3) (k := 0) (a := 1) (b := 2) rfl rfl rfl rfl rfl (q := 3) rfl ?_
  refine l1_many mt_X4_addRest (pc' := 5) (L' := [some (.ref 35)]) (st' := [.ref 35, .ref 3]) 1 rfl ?_
  refine l1_getR hQ mt_X4_addRest rfl (o := 35) (ci := 3) (k := 0) (a := 1) (b := 2) rfl rfl rfl rfl rfl (q := 3) rfl ?_
  refine l1_callV hQ mt_X4_addRest mt_X2_size rfl rfl (o := 3) (ci := 1) (As := []) (rest := [.ref 3]) rfl rfl rfl rfl rfl rfl (st1 := fun x1 => [.int x1, .ref 3]) (fun _ => rfl) (ok_X2_size hQ c 3 rfl) (fun x1 c2 => ?_)
  refine l1_many mt_X4_addRest (pc' := 12) (L' := [some (.ref 35)]) (st' := [.int 4, .int x1, .ref 3]) 1 rfl ?_
  refine l1_callS mt_X4_addRest mt_X11_roundedUp rfl rfl (As := [.int x1, .int 4]) (rest := [.ref 3]) rfl rfl rfl (st1 := fun x3 => [.int x3, .ref 3]) (fun _ => rfl) (ok_X11_roundedUp hQ c2 x1 4) (fun x3 c4 => ?_)
  refine l1_many mt_X4_addRest (pc' := 16) (L' := [some (.ref 35)]) (st' := [.ref 35, .int x3, .ref 3]) 1 rfl ?_
  refine l1_getR hQ mt_X4_addRest rfl (o := 35) (ci := 3) (k := 0) (a := 1) (b := 2) rfl rfl rfl rfl rfl (q := 3) rfl ?_
  refine l1_callV hQ mt_X4_addRest mt_X2_size rfl rfl (o := 3) (ci := 1) (As := []) (rest := [.int x3, .ref 3]) rfl rfl rfl rfl rfl rfl (st1 := fun x5 => [.int x5, .int x3, .ref 3]) (fun _ => rfl) (ok_X2_size hQ c4 3 rfl) (fun x5 c6 => ?_)
  refine l1_many mt_X4_addRest (pc' := 23) (L' := [some (.ref 35)]) (st' := [.int (x3 - x5), .ref 3]) 1 rfl ?_
  refine l1_callV hQ mt_X4_addRest mt_X2_addZeros rfl rfl (o := 3) (ci := 1) (As := [.int (x3 - x5)]) (rest := []) rfl rfl rfl rfl rfl rfl (st1 := fun _ => []) (fun _ => rfl) (ok_X2_addZeros hQ N c6 3 (x3 - x5) rfl) (fun _ c7 => ?_)
  exact l1_ret mt_X4_addRest rfl rfl rfl
theorem ok_X4_addRest {Q : hS → am_H → Prop} (hQ : l1_em kc Q) (N : Nat) (c : hS) : l1_T wV Q am_i_X4_addRest [.ref 35] c (f_X4_addRest N c) := l1_of (en_X4_addRest hQ N c) ⟨rfl, trivial⟩
end
section
/-! THAT THE MACHINE FOLLOWS THEM, printed by gen_l1.py -/
set_option maxRecDepth 100000 in
theorem ok_X4_layOut_48 {Q : hS → am_H → Prop} (hQ : l1_em kc Q) (N : Nat) (p1 : Nat) (p2 : Int32) (hp1 : kc p1 = 8) {k2 : hS → Int32 → Option (Unit × hS)} (hk2 : ∀ c v3, l1_G (wN wV) Q am_i_X4_layOut 2 [some (.ref 35), some (.ref p1), none, some (.int v3)] [] c (k2 c v3)) : ∀ (c : hS) (v3 : Int32) (v4 : Nat) (v5 : Int32) (w0 : Int32) (hv4 : kc v4 = 6), l1_G (wN wV) Q am_i_X4_layOut 48 [some (.ref 35), some (.ref p1), none, some (.int v3), some (.ref v4), some (.int v5)] [.int w0] c (f_X4_layOut_48 N p1 p2 k2 c v3 v4 v5 w0) := by
  intro c v3 v4 v5 w0 hv4
  rw [f_X4_layOut_48]
  refine l1_many mt_X4_layOut (pc' := 60) (L' := [some (.ref 35), some (.ref p1), none, some (.int v3), some (.ref v4), some (.int v5), some (.int w0)]) (st' := [.ref v4, .int v5, .int w0, .int (v3 + 1), .ref 35]) 8 rfl ?_
  refine l1_getR hQ mt_X4_layOut rfl (o := v4) (ci := 6) (k := 0) (a := 2) (b := 2) hv4 rfl rfl rfl rfl (q := (v4 + 1)) rfl ?_
  refine l1_callV hQ mt_X4_layOut mt_X2_size rfl rfl (o := (v4 + 1)) (ci := 1) (As := []) (rest := [.int v5, .int w0, .int (v3 + 1), .ref 35]) rfl rfl (kc6_0 hv4) rfl rfl rfl (st1 := fun x1 => [.int x1, .int v5, .int w0, .int (v3 + 1), .ref 35]) (fun _ => rfl) (ok_X2_size hQ c (v4 + 1) (kc6_0 hv4)) (fun x1 c2 => ?_)
  refine l1_many mt_X4_layOut (pc' := 68) (L' := [some (.ref 35), some (.ref p1), none, some (.int v3), some (.ref v4), some (.int v5), some (.int w0)]) (st' := [.int (x1 + 1), .int v5, .int w0, .int (v3 + 1), .ref 35]) 2 rfl ?_
  refine l1_callV hQ mt_X4_layOut mt_X4_addHead rfl rfl (o := 35) (ci := 3) (As := [.int (v3 + 1), .int w0, .int v5, .int (x1 + 1)]) (rest := []) rfl rfl rfl rfl rfl rfl (st1 := fun _ => []) (fun _ => rfl) (ok_X4_addHead hQ N c2 (v3 + 1) w0 v5 (x1 + 1)) (fun _ c3 => ?_)
  refine l1_many mt_X4_layOut (pc' := 75) (L' := [some (.ref 35), some (.ref p1), none, some (.int v3), some (.ref v4), some (.int v5), some (.int w0)]) (st' := [.int 0, .ref v4, .ref 35]) 3 rfl ?_
  refine l1_callV hQ mt_X4_layOut mt_X0_addTitle rfl rfl (o := 35) (ci := 3) (As := [.ref v4, .int 0]) (rest := []) rfl rfl rfl rfl rfl rfl (st1 := fun _ => []) (fun _ => rfl) (ok_X0_addTitle_35 hQ N c3 v4 0 hv4) (fun _ c4 => ?_)
  refine l1_many mt_X4_layOut (pc' := 79) (L' := [some (.ref 35), some (.ref p1), none, some (.int v3), some (.ref v4), some (.int v5), some (.int w0)]) (st' := [.ref 35]) 1 rfl ?_
  refine l1_getR hQ mt_X4_layOut rfl (o := 35) (ci := 3) (k := 0) (a := 1) (b := 2) rfl rfl rfl rfl rfl (q := 3) rfl ?_
  refine l1_many mt_X4_layOut (pc' := 83) (L' := [some (.ref 35), some (.ref p1), none, some (.int v3), some (.ref v4), some (.int v5), some (.int w0)]) (st' := [.int 0, .ref 3]) 1 rfl ?_
  refine l1_callV hQ mt_X4_layOut mt_X2_add rfl rfl (o := 3) (ci := 1) (As := [.int 0]) (rest := []) rfl rfl rfl rfl rfl rfl (st1 := fun _ => []) (fun _ => rfl) (ok_X2_add hQ c4 3 0 rfl) (fun _ c5 => ?_)
  refine l1_many mt_X4_layOut (pc' := 87) (L' := [some (.ref 35), some (.ref p1), none, some (.int v3), some (.ref v4), some (.int v5), some (.int w0)]) (st' := [.ref 35]) 1 rfl ?_
  refine l1_callV hQ mt_X4_layOut mt_X4_addRest rfl rfl (o := 35) (ci := 3) (As := []) (rest := []) rfl rfl rfl rfl rfl rfl (st1 := fun _ => []) (fun _ => rfl) (ok_X4_addRest hQ N c5) (fun _ c6 => ?_)
  refine l1_many mt_X4_layOut (pc' := 91) (L' := [some (.ref 35), some (.ref p1), none, some (.int v3), some (.ref v4), some (.int v5), some (.int w0)]) (st' := [.ref 35]) 1 rfl ?_
  refine l1_getR hQ mt_X4_layOut rfl (o := 35) (ci := 3) (k := 0) (a := 1) (b := 2) rfl rfl rfl rfl rfl (q := 3) rfl ?_
  refine l1_many mt_X4_layOut (pc' := 96) (L' := [some (.ref 35), some (.ref p1), none, some (.int v3), some (.ref v4), some (.int v5), some (.int w0)]) (st' := [.ref v4, .ref 3]) 1 rfl ?_
  refine l1_getR hQ mt_X4_layOut rfl (o := v4) (ci := 6) (k := 1) (a := 2) (b := 2) hv4 rfl rfl rfl rfl (q := (v4 + 3)) rfl ?_
  refine l1_many mt_X4_layOut (pc' := 102) (L' := [some (.ref 35), some (.ref p1), none, some (.int v3), some (.ref v4), some (.int v5), some (.int w0)]) (st' := [.int v5, .int 0, .ref (v4 + 3), .ref 3]) 2 rfl ?_
  refine l1_callV hQ mt_X4_layOut mt_X2_addRow rfl rfl (o := 3) (ci := 1) (As := [.ref (v4 + 3), .int 0, .int v5]) (rest := []) rfl rfl rfl rfl rfl rfl (st1 := fun _ => []) (fun _ => rfl) (ok_X2_addRow hQ N c6 3 (v4 + 3) 0 v5 rfl (kc6_1 hv4)) (fun _ c7 => ?_)
  refine l1_many mt_X4_layOut (pc' := 106) (L' := [some (.ref 35), some (.ref p1), none, some (.int v3), some (.ref v4), some (.int v5), some (.int w0)]) (st' := [.ref 35]) 1 rfl ?_
  refine l1_callV hQ mt_X4_layOut mt_X4_addRest rfl rfl (o := 35) (ci := 3) (As := []) (rest := []) rfl rfl rfl rfl rfl rfl (st1 := fun _ => []) (fun _ => rfl) (ok_X4_addRest hQ N c7) (fun _ c8 => ?_)
  refine l1_many mt_X4_layOut (pc' := 2) (L' := [some (.ref 35), some (.ref p1), none, some (.int (v3 + 1)), some (.ref v4), some (.int v5), some (.int w0)]) (st' := []) 2 rfl ?_
  refine l1_weak (m := [true, true, false, true, false, false, false]) (L' := [some (.ref 35), some (.ref p1), none, some (.int (v3 + 1))]) rfl ?_
  exact hk2 c8 (v3 + 1)
set_option maxRecDepth 100000 in
theorem ok_X4_layOut_2 {Q : hS → am_H → Prop} (hQ : l1_em kc Q) (N : Nat) (p1 : Nat) (p2 : Int32) (hp1 : kc p1 = 8) : ∀ n : Nat, ∀ (c : hS) (v3 : Int32), l1_G (wN wV) Q am_i_X4_layOut 2 [some (.ref 35), some (.ref p1), none, some (.int v3)] [] c (f_X4_layOut_2 N p1 p2 n c v3) := by
  intro n
  induction n with
  | zero => intro c v3; exact l1_none
  | succ n ih =>
    intro c v3
    rw [f_X4_layOut_2]
    refine l1_many mt_X4_layOut (pc' := 4) (L' := [some (.ref 35), some (.ref p1), none, some (.int v3)]) (st' := [.ref p1, .int v3]) 2 rfl ?_
    refine l1_callV hQ mt_X4_layOut mt_X9_size rfl rfl (o := p1) (ci := 8) (As := []) (rest := [.int v3]) rfl rfl hp1 rfl rfl rfl (st1 := fun x1 => [.int x1, .int v3]) (fun _ => rfl) (ok_X9_size hQ c p1 hp1) (fun x1 c2 => ?_)
    refine l1_many mt_X4_layOut (pc' := bif am_cc .ge v3 x1 then 115 else 10) (L' := [some (.ref 35), some (.ref p1), none, some (.int v3)]) (st' := []) 1 rfl ?_
    refine l1_bif rfl ?_ ?_
    · refine l1_many mt_X4_layOut (pc' := 121) (L' := [some (.ref 35), some (.ref p1), none, some (.int v3)]) (st' := [.ref 1000000119, .int 0, .int 0, .int 0, .ref 35]) 5 rfl ?_
      refine l1_tlen mt_X4_layOut rfl rfl rfl ot19 rfl ?_
      refine l1_many mt_X4_layOut (pc' := 126) (L' := [some (.ref 35), some (.ref p1), none, some (.int v3)]) (st' := [.int ((Int32.ofNat tx19.length) + 1), .int 0, .int 0, .int 0, .ref 35]) 2 rfl ?_
      refine l1_callV hQ mt_X4_layOut mt_X4_addHead rfl rfl (o := 35) (ci := 3) (As := [.int 0, .int 0, .int 0, .int ((Int32.ofNat tx19.length) + 1)]) (rest := []) rfl rfl rfl rfl rfl rfl (st1 := fun _ => []) (fun _ => rfl) (ok_X4_addHead hQ N c2 0 0 0 ((Int32.ofNat tx19.length) + 1)) (fun _ c3 => ?_)
      refine l1_many mt_X4_layOut (pc' := 130) (L' := [some (.ref 35), some (.ref p1), none, some (.int v3)]) (st' := [.ref 35]) 1 rfl ?_
      refine l1_getR hQ mt_X4_layOut rfl (o := 35) (ci := 3) (k := 0) (a := 1) (b := 2) rfl rfl rfl rfl rfl (q := 3) rfl ?_
      refine l1_many mt_X4_layOut (pc' := 135) (L' := [some (.ref 35), some (.ref p1), none, some (.int v3)]) (st' := [.ref 1000000119, .ref 3]) 1 rfl ?_
      refine l1_callV hQ mt_X4_layOut mt_X2_addText rfl rfl (o := 3) (ci := 1) (As := [.ref 1000000119]) (rest := []) rfl rfl rfl rfl rfl rfl (st1 := fun _ => []) (fun _ => rfl) (ok_X2_addText hQ N c3 3 tx19 rfl ot19) (fun _ c4 => ?_)
      refine l1_many mt_X4_layOut (pc' := 139) (L' := [some (.ref 35), some (.ref p1), none, some (.int v3)]) (st' := [.ref 35]) 1 rfl ?_
      refine l1_getR hQ mt_X4_layOut rfl (o := 35) (ci := 3) (k := 0) (a := 1) (b := 2) rfl rfl rfl rfl rfl (q := 3) rfl ?_
      refine l1_many mt_X4_layOut (pc' := 143) (L' := [some (.ref 35), some (.ref p1), none, some (.int v3)]) (st' := [.int 0, .ref 3]) 1 rfl ?_
      refine l1_callV hQ mt_X4_layOut mt_X2_add rfl rfl (o := 3) (ci := 1) (As := [.int 0]) (rest := []) rfl rfl rfl rfl rfl rfl (st1 := fun _ => []) (fun _ => rfl) (ok_X2_add hQ c4 3 0 rfl) (fun _ c5 => ?_)
      refine l1_many mt_X4_layOut (pc' := 147) (L' := [some (.ref 35), some (.ref p1), none, some (.int v3)]) (st' := [.ref 35]) 1 rfl ?_
      refine l1_callV hQ mt_X4_layOut mt_X4_addRest rfl rfl (o := 35) (ci := 3) (As := []) (rest := []) rfl rfl rfl rfl rfl rfl (st1 := fun _ => []) (fun _ => rfl) (ok_X4_addRest hQ N c5) (fun _ c6 => ?_)
      exact l1_ret mt_X4_layOut rfl rfl rfl
    · refine l1_many mt_X4_layOut (pc' := 12) (L' := [some (.ref 35), some (.ref p1), none, some (.int v3)]) (st' := [.int v3, .ref p1]) 2 rfl ?_
      refine l1_callV hQ mt_X4_layOut mt_X9_member rfl rfl (o := p1) (ci := 8) (As := [.int v3]) (rest := []) rfl rfl hp1 rfl rfl rfl (st1 := fun x7 => l1_mv x7 :: []) (fun _ => rfl) (ok_X9_member hQ c2 p1 v3 hp1) (fun x7 c8 => ?_)
      refine l1_opt (x := x7) ?_ (fun y9 => ?_)
      · refine l1_many mt_X4_layOut (pc' := 2) (L' := [some (.ref 35), some (.ref p1), none, some (.int (v3 + 1)), some (.null)]) (st' := []) 5 rfl ?_
        refine l1_weak (m := [true, true, false, true, false, false, false]) (L' := [some (.ref 35), some (.ref p1), none, some (.int (v3 + 1))]) rfl ?_
        exact ih c8 (v3 + 1)
      · refine l1_ck (fun hy => ?_)
        have hy9 : kc y9 = 6 := Nat.eq_of_beq_eq_true hy
        refine l1_many mt_X4_layOut (pc' := 24) (L' := [some (.ref 35), some (.ref p1), none, some (.int v3), some (.ref y9)]) (st' := [.ref y9]) 4 rfl ?_
        refine l1_getR hQ mt_X4_layOut rfl (o := y9) (ci := 6) (k := 1) (a := 2) (b := 2) hy9 rfl rfl rfl rfl (q := (y9 + 3)) rfl ?_
        refine l1_callV hQ mt_X4_layOut mt_X2_size rfl rfl (o := (y9 + 3)) (ci := 1) (As := []) (rest := []) rfl rfl (kc6_1 hy9) rfl rfl rfl (st1 := fun x10 => [.int x10]) (fun _ => rfl) (ok_X2_size hQ c8 (y9 + 3) (kc6_1 hy9)) (fun x10 c11 => ?_)
        refine l1_many mt_X4_layOut (pc' := 34) (L' := [some (.ref 35), some (.ref p1), none, some (.int v3), some (.ref y9), some (.int x10)]) (st' := [.ref y9]) 2 rfl ?_
        refine l1_getI hQ mt_X4_layOut rfl (o := y9) (ci := 6) (k := 2) (a := 2) (b := 0) hy9 rfl rfl rfl rfl ?_
        refine l1_many mt_X4_layOut (pc' := bif am_cc .eq (c11.1 y9 2) 0 then 46 else 40) (L' := [some (.ref 35), some (.ref p1), none, some (.int v3), some (.ref y9), some (.int x10)]) (st' := []) 1 rfl ?_
        refine l1_bif rfl ?_ ?_
        · refine l1_many mt_X4_layOut (pc' := 48) (L' := [some (.ref 35), some (.ref p1), none, some (.int v3), some (.ref y9), some (.int x10)]) (st' := [.int 33188]) 1 rfl ?_
          exact ok_X4_layOut_48 hQ N p1 p2 hp1 ih c11 v3 y9 x10 33188 hy9
        · refine l1_many mt_X4_layOut (pc' := 48) (L' := [some (.ref 35), some (.ref p1), none, some (.int v3), some (.ref y9), some (.int x10)]) (st' := [.int 16877]) 2 rfl ?_
          exact ok_X4_layOut_48 hQ N p1 p2 hp1 ih c11 v3 y9 x10 16877 hy9
set_option maxRecDepth 100000 in
theorem en_X4_layOut {Q : hS → am_H → Prop} (hQ : l1_em kc Q) (N : Nat) (c : hS) (p1 : Nat) (p2 : Int32) (hp1 : kc p1 = 8) : l1_G (wN wV) Q am_i_X4_layOut 0 [some (.ref 35), some (.ref p1), some (.int p2)] [] c (f_X4_layOut N c p1 p2) := by
  rw [f_X4_layOut]
  refine l1_many mt_X4_layOut (pc' := 2) (L' := [some (.ref 35), some (.ref p1), some (.int p2), some (.int 0)]) (st' := []) 2 rfl ?_
  refine l1_weak (m := [true, true, false, true, false, false, false]) (L' := [some (.ref 35), some (.ref p1), none, some (.int 0)]) rfl ?_
  exact ok_X4_layOut_2 hQ N p1 p2 hp1 N c 0
theorem ok_X4_layOut {Q : hS → am_H → Prop} (hQ : l1_em kc Q) (N : Nat) (c : hS) (p1 : Nat) (p2 : Int32) (hp1 : kc p1 = 8) : l1_T wV Q am_i_X4_layOut [.ref 35, .ref p1, .int p2] c (f_X4_layOut N c p1 p2) := l1_of (en_X4_layOut hQ N c p1 p2 hp1) ⟨rfl, rfl, rfl, trivial⟩
set_option maxRecDepth 100000 in
theorem ok_X10_fillLengths_3 {Q : hS → am_H → Prop} (hQ : l1_em kc Q) (N : Nat) (p1 : Int32) (p2 : Int32) (p3 : Int32) : ∀ n : Nat, ∀ (c : hS) (v4 : Int32), l1_G (wN wV) Q am_i_X10_fillLengths 3 [some (.ref 11), none, some (.int p2), some (.int p3), some (.int v4)] [] c (f_X10_fillLengths_3 N p1 p2 p3 n c v4) := by
  intro n
  induction n with
  | zero => intro c v4; exact l1_none
  | succ n ih =>
    intro c v4
    rw [f_X10_fillLengths_3]
    refine l1_many mt_X10_fillLengths (pc' := bif am_cc .ge v4 p2 then 38 else 9) (L' := [some (.ref 11), none, some (.int p2), some (.int p3), some (.int v4)]) (st' := []) 3 rfl ?_
    refine l1_bif rfl ?_ ?_
    · exact l1_ret mt_X10_fillLengths rfl rfl rfl
    · refine l1_many mt_X10_fillLengths (pc' := bif am_cc .lt v4 0 then 32 else 14) (L' := [some (.ref 11), none, some (.int p2), some (.int p3), some (.int v4)]) (st' := []) 2 rfl ?_
      refine l1_bif rfl ?_ ?_
      · refine l1_many mt_X10_fillLengths (pc' := 3) (L' := [some (.ref 11), none, some (.int p2), some (.int p3), some (.int (v4 + 1))]) (st' := []) 2 rfl ?_
        exact ih c (v4 + 1)
      · refine l1_many mt_X10_fillLengths (pc' := 17) (L' := [some (.ref 11), none, some (.int p2), some (.int p3), some (.int v4)]) (st' := [.ref 11, .int v4]) 2 rfl ?_
        refine l1_getR hQ mt_X10_fillLengths rfl (o := 11) (ci := 9) (k := 8) (a := 0) (b := 1) rfl rfl rfl rfl rfl (q := 32) rfl ?_
        refine l1_len hQ mt_X10_fillLengths rfl (o := 32) (ci := 20) rfl rfl rfl ?_
        refine l1_many mt_X10_fillLengths (pc' := bif am_cc .ge v4 (Int32.ofNat (ln 32)) then 32 else 24) (L' := [some (.ref 11), none, some (.int p2), some (.int p3), some (.int v4)]) (st' := []) 1 rfl ?_
        refine l1_bif rfl ?_ ?_
        · refine l1_many mt_X10_fillLengths (pc' := 3) (L' := [some (.ref 11), none, some (.int p2), some (.int p3), some (.int (v4 + 1))]) (st' := []) 2 rfl ?_
          exact ih c (v4 + 1)
        · refine l1_many mt_X10_fillLengths (pc' := 25) (L' := [some (.ref 11), none, some (.int p2), some (.int p3), some (.int v4)]) (st' := [.ref 11]) 1 rfl ?_
          refine l1_getR hQ mt_X10_fillLengths rfl (o := 11) (ci := 9) (k := 8) (a := 0) (b := 1) rfl rfl rfl rfl rfl (q := 32) rfl ?_
          refine l1_many mt_X10_fillLengths (pc' := 31) (L' := [some (.ref 11), none, some (.int p2), some (.int p3), some (.int v4)]) (st' := [.int p3, .int v4, .ref 32]) 2 rfl ?_
          refine l1_ck (fun hx => ?_)
          refine l1_ast hQ mt_X10_fillLengths rfl (o := 32) rfl hx (fun c1 => ?_)
          refine l1_many mt_X10_fillLengths (pc' := 3) (L' := [some (.ref 11), none, some (.int p2), some (.int p3), some (.int (v4 + 1))]) (st' := []) 2 rfl ?_
          exact ih c1 (v4 + 1)
set_option maxRecDepth 100000 in
theorem en_X10_fillLengths {Q : hS → am_H → Prop} (hQ : l1_em kc Q) (N : Nat) (c : hS) (p1 : Int32) (p2 : Int32) (p3 : Int32) : l1_G (wN wV) Q am_i_X10_fillLengths 0 [some (.ref 11), some (.int p1), some (.int p2), some (.int p3)] [] c (f_X10_fillLengths N c p1 p2 p3) := by
  rw [f_X10_fillLengths]
  refine l1_many mt_X10_fillLengths (pc' := 3) (L' := [some (.ref 11), some (.int p1), some (.int p2), some (.int p3), some (.int p1)]) (st' := []) 2 rfl ?_
  refine l1_weak (m := [true, false, true, true, true]) (L' := [some (.ref 11), none, some (.int p2), some (.int p3), some (.int p1)]) rfl ?_
  exact ok_X10_fillLengths_3 hQ N p1 p2 p3 N c p1
theorem ok_X10_fillLengths {Q : hS → am_H → Prop} (hQ : l1_em kc Q) (N : Nat) (c : hS) (p1 : Int32) (p2 : Int32) (p3 : Int32) : l1_T wV Q am_i_X10_fillLengths [.ref 11, .int p1, .int p2, .int p3] c (f_X10_fillLengths N c p1 p2 p3) := l1_of (en_X10_fillLengths hQ N c p1 p2 p3) ⟨rfl, rfl, rfl, rfl, trivial⟩
set_option maxRecDepth 100000 in
theorem ok_X10_takeBits_35 {Q : hS → am_H → Prop} (hQ : l1_em kc Q) (N : Nat) (p1 : Int32) : ∀ n : Nat, ∀ (c : hS) (v2 : Int32) (v3 : Int32), l1_G (wN wI) Q am_i_X10_takeBits 35 [some (.ref 11), some (.int p1), some (.int v2), some (.int v3)] [] c (f_X10_takeBits_35 N p1 n c v2 v3) := by
  intro n
  induction n with
  | zero => intro c v2 v3; exact l1_none
  | succ n ih =>
    intro c v2 v3
    rw [f_X10_takeBits_35]
    refine l1_many mt_X10_takeBits (pc' := bif am_cc .ge v3 p1 then 84 else 40) (L' := [some (.ref 11), some (.int p1), some (.int v2), some (.int v3)]) (st' := []) 3 rfl ?_
    refine l1_bif rfl ?_ ?_
    · refine l1_many mt_X10_takeBits (pc' := 85) (L' := [some (.ref 11), some (.int p1), some (.int v2), some (.int v3)]) (st' := [.int v2]) 1 rfl ?_
      exact l1_ret mt_X10_takeBits rfl rfl rfl
    · refine l1_many mt_X10_takeBits (pc' := 42) (L' := [some (.ref 11), some (.int p1), some (.int v2), some (.int v3)]) (st' := [.ref 11, .int v2]) 2 rfl ?_
      refine l1_getR hQ mt_X10_takeBits rfl (o := 11) (ci := 9) (k := 0) (a := 0) (b := 1) rfl rfl rfl rfl rfl (q := 3) rfl ?_
      refine l1_many mt_X10_takeBits (pc' := 46) (L' := [some (.ref 11), some (.int p1), some (.int v2), some (.int v3)]) (st' := [.ref 11, .ref 3, .int v2]) 1 rfl ?_
      refine l1_getI hQ mt_X10_takeBits rfl (o := 11) (ci := 9) (k := 9) (a := 0) (b := 0) rfl rfl rfl rfl rfl ?_
      refine l1_many mt_X10_takeBits (pc' := 51) (L' := [some (.ref 11), some (.int p1), some (.int v2), some (.int v3)]) (st' := [.int (j_shr (c.1 11 9) 3), .ref 3, .int v2]) 2 rfl ?_
      refine l1_callV hQ mt_X10_takeBits mt_X2_get rfl rfl (o := 3) (ci := 1) (As := [.int (j_shr (c.1 11 9) 3)]) (rest := [.int v2]) rfl rfl rfl rfl rfl rfl (st1 := fun x1 => [.int x1, .int v2]) (fun _ => rfl) (ok_X2_get hQ c 3 (j_shr (c.1 11 9) 3) rfl) (fun x1 c2 => ?_)
      refine l1_many mt_X10_takeBits (pc' := 55) (L' := [some (.ref 11), some (.int p1), some (.int v2), some (.int v3)]) (st' := [.ref 11, .int x1, .int v2]) 1 rfl ?_
      refine l1_getI hQ mt_X10_takeBits rfl (o := 11) (ci := 9) (k := 9) (a := 0) (b := 0) rfl rfl rfl rfl rfl ?_
      refine l1_many mt_X10_takeBits (pc' := 70) (L' := [some (.ref 11), some (.int p1), some (.int (v2 ||| (j_shl ((j_shr x1 ((c2.1 11 9) &&& 7)) &&& 1) v3))), some (.int v3)]) (st' := [.ref 11, .ref 11]) 11 rfl ?_
      refine l1_getI hQ mt_X10_takeBits rfl (o := 11) (ci := 9) (k := 9) (a := 0) (b := 0) rfl rfl rfl rfl rfl ?_
      refine l1_many mt_X10_takeBits (pc' := 75) (L' := [some (.ref 11), some (.int p1), some (.int (v2 ||| (j_shl ((j_shr x1 ((c2.1 11 9) &&& 7)) &&& 1) v3))), some (.int v3)]) (st' := [.int ((c2.1 11 9) + 1), .ref 11]) 2 rfl ?_
      refine l1_putI hQ mt_X10_takeBits rfl (o := 11) (ci := 9) (k := 9) (a := 0) rfl rfl rfl rfl rfl rfl (fun c3 => ?_)
      refine l1_many mt_X10_takeBits (pc' := 35) (L' := [some (.ref 11), some (.int p1), some (.int (v2 ||| (j_shl ((j_shr x1 ((c2.1 11 9) &&& 7)) &&& 1) v3))), some (.int (v3 + 1))]) (st' := []) 2 rfl ?_
      exact ih c3 (v2 ||| (j_shl ((j_shr x1 ((c2.1 11 9) &&& 7)) &&& 1) v3)) (v3 + 1)
set_option maxRecDepth 100000 in
theorem en_X10_takeBits {Q : hS → am_H → Prop} (hQ : l1_em kc Q) (N : Nat) (c : hS) (p1 : Int32) : l1_G (wN wI) Q am_i_X10_takeBits 0 [some (.ref 11), some (.int p1)] [] c (f_X10_takeBits N c p1) := by
  rw [f_X10_takeBits]
  refine l1_many mt_X10_takeBits (pc' := 1) (L' := [some (.ref 11), some (.int p1)]) (st' := [.ref 11]) 1 rfl ?_
  refine l1_getI hQ mt_X10_takeBits rfl (o := 11) (ci := 9) (k := 10) (a := 0) (b := 0) rfl rfl rfl rfl rfl ?_
  refine l1_many mt_X10_takeBits (pc' := 5) (L' := [some (.ref 11), some (.int p1)]) (st' := [.ref 11, .int (c.1 11 10)]) 1 rfl ?_
  refine l1_getI hQ mt_X10_takeBits rfl (o := 11) (ci := 9) (k := 9) (a := 0) (b := 0) rfl rfl rfl rfl rfl ?_
  refine l1_many mt_X10_takeBits (pc' := bif am_cc .ge ((c.1 11 10) - (c.1 11 9)) p1 then 31 else 13) (L' := [some (.ref 11), some (.int p1)]) (st' := []) 3 rfl ?_
  refine l1_bif rfl ?_ ?_
  · refine l1_many mt_X10_takeBits (pc' := 35) (L' := [some (.ref 11), some (.int p1), some (.int 0), some (.int 0)]) (st' := []) 4 rfl ?_
    exact ok_X10_takeBits_35 hQ N p1 N c 0 0
  · refine l1_many mt_X10_takeBits (pc' := 14) (L' := [some (.ref 11), some (.int p1)]) (st' := [.ref 11]) 1 rfl ?_
    refine l1_getR hQ mt_X10_takeBits rfl (o := 11) (ci := 9) (k := 2) (a := 0) (b := 1) rfl rfl rfl rfl rfl (q := 9) rfl ?_
    refine l1_many mt_X10_takeBits (pc' := 20) (L' := [some (.ref 11), some (.int p1)]) (st' := [.ref 11, .int 20, .ref 9]) 2 rfl ?_
    refine l1_getI hQ mt_X10_takeBits rfl (o := 11) (ci := 9) (k := 10) (a := 0) (b := 0) rfl rfl rfl rfl rfl ?_
    refine l1_many mt_X10_takeBits (pc' := 25) (L' := [some (.ref 11), some (.int p1)]) (st' := [.int (j_shr (c.1 11 10) 3), .int 20, .ref 9]) 2 rfl ?_
    refine l1_callV hQ mt_X10_takeBits mt_X6_tell rfl rfl (o := 9) (ci := 5) (As := [.int 20, .int (j_shr (c.1 11 10) 3)]) (rest := []) rfl rfl rfl rfl rfl rfl (st1 := fun x1 => [.int x1]) (fun _ => rfl) (ok_X6_tell hQ c 20 (j_shr (c.1 11 10) 3)) (fun x1 c2 => ?_)
    refine l1_many mt_X10_takeBits (pc' := 30) (L' := [some (.ref 11), some (.int p1)]) (st' := [.int (-1)]) 2 rfl ?_
    exact l1_ret mt_X10_takeBits rfl rfl rfl
theorem ok_X10_takeBits {Q : hS → am_H → Prop} (hQ : l1_em kc Q) (N : Nat) (c : hS) (p1 : Int32) : l1_T wI Q am_i_X10_takeBits [.ref 11, .int p1] c (f_X10_takeBits N c p1) := l1_of (en_X10_takeBits hQ N c p1) ⟨rfl, rfl, trivial⟩
set_option maxRecDepth 100000 in
theorem ok_X10_areLengthCodes_177 {Q : hS → am_H → Prop} (hQ : l1_em kc Q) (N : Nat) : ∀ (c : hS), l1_G (wN wI) Q am_i_X10_areLengthCodes 177 [some (.ref 11)] [] c (f_X10_areLengthCodes_177 N c) := by
  intro c
  rw [f_X10_areLengthCodes_177]
  refine l1_many mt_X10_areLengthCodes (pc' := 178) (L' := [some (.ref 11)]) (st' := [.ref 11]) 1 rfl ?_
  refine l1_getR hQ mt_X10_areLengthCodes rfl (o := 11) (ci := 9) (k := 7) (a := 0) (b := 1) rfl rfl rfl rfl rfl (q := 28) rfl ?_
  refine l1_many mt_X10_areLengthCodes (pc' := 182) (L' := [some (.ref 11)]) (st' := [.ref 11, .ref 28]) 1 rfl ?_
  refine l1_getR hQ mt_X10_areLengthCodes rfl (o := 11) (ci := 9) (k := 8) (a := 0) (b := 1) rfl rfl rfl rfl rfl (q := 32) rfl ?_
  refine l1_many mt_X10_areLengthCodes (pc' := 189) (L' := [some (.ref 11)]) (st' := [.ref 1000000000, .int 0, .ref 32, .ref 28]) 2 rfl ?_
  refine l1_slen hQ mt_X10_areLengthCodes rfl oa0 ?_
  refine l1_callV hQ mt_X10_areLengthCodes mt_X3_order rfl rfl (o := 28) (ci := 2) (As := [.ref 32, .int 0, .int (Int32.ofNat sa0.length)]) (rest := []) rfl rfl rfl rfl rfl rfl (st1 := fun _ => []) (fun _ => rfl) (ok_X3_order hQ N c 28 0 (Int32.ofNat sa0.length) rfl) (fun _ c1 => ?_)
  refine l1_many mt_X10_areLengthCodes (pc' := 194) (L' := [some (.ref 11)]) (st' := [.ref 11]) 1 rfl ?_
  refine l1_getR hQ mt_X10_areLengthCodes rfl (o := 11) (ci := 9) (k := 7) (a := 0) (b := 1) rfl rfl rfl rfl rfl (q := 28) rfl ?_
  refine l1_callV hQ mt_X10_areLengthCodes mt_X3_areComplete rfl rfl (o := 28) (ci := 2) (As := []) (rest := []) rfl rfl rfl rfl rfl rfl (st1 := fun x2 => [.int x2]) (fun _ => rfl) (ok_X3_areComplete hQ N c1 28 rfl) (fun x2 c3 => ?_)
  refine l1_many mt_X10_areLengthCodes (pc' := bif am_cc .ne x2 0 then 219 else 203) (L' := [some (.ref 11)]) (st' := []) 1 rfl ?_
  refine l1_bin rfl ?_ ?_
  · refine l1_many mt_X10_areLengthCodes (pc' := 204) (L' := [some (.ref 11)]) (st' := [.ref 11]) 1 rfl ?_
    refine l1_getR hQ mt_X10_areLengthCodes rfl (o := 11) (ci := 9) (k := 2) (a := 0) (b := 1) rfl rfl rfl rfl rfl (q := 9) rfl ?_
    refine l1_many mt_X10_areLengthCodes (pc' := 210) (L' := [some (.ref 11)]) (st' := [.ref 11, .int 24, .ref 9]) 2 rfl ?_
    refine l1_getI hQ mt_X10_areLengthCodes rfl (o := 11) (ci := 9) (k := 12) (a := 0) (b := 0) rfl rfl rfl rfl rfl ?_
    refine l1_callV hQ mt_X10_areLengthCodes mt_X6_tell rfl rfl (o := 9) (ci := 5) (As := [.int 24, .int (c3.1 11 12)]) (rest := []) rfl rfl rfl rfl rfl rfl (st1 := fun x4 => [.int x4]) (fun _ => rfl) (ok_X6_tell hQ c3 24 (c3.1 11 12)) (fun x4 c5 => ?_)
    refine l1_many mt_X10_areLengthCodes (pc' := bif am_cc .eq x4 0 then 223 else 219) (L' := [some (.ref 11)]) (st' := []) 1 rfl ?_
    refine l1_bif rfl ?_ ?_
    · refine l1_many mt_X10_areLengthCodes (pc' := 224) (L' := [some (.ref 11)]) (st' := [.int 0]) 1 rfl ?_
      exact l1_ret mt_X10_areLengthCodes rfl rfl rfl
    · refine l1_many mt_X10_areLengthCodes (pc' := 224) (L' := [some (.ref 11)]) (st' := [.int 1]) 2 rfl ?_
      exact l1_ret mt_X10_areLengthCodes rfl rfl rfl
  · refine l1_many mt_X10_areLengthCodes (pc' := 224) (L' := [some (.ref 11)]) (st' := [.int 1]) 2 rfl ?_
    exact l1_ret mt_X10_areLengthCodes rfl rfl rfl
set_option maxRecDepth 100000 in
theorem ok_X10_areLengthCodes_119 {Q : hS → am_H → Prop} (hQ : l1_em kc Q) (N : Nat) : ∀ n : Nat, ∀ (c : hS) (v3 : Int32) (v4 : Int32), l1_G (wN wI) Q am_i_X10_areLengthCodes 119 [some (.ref 11), none, none, some (.int v3), some (.int v4)] [] c (f_X10_areLengthCodes_119 N n c v3 v4) := by
  intro n
  induction n with
  | zero => intro c v3 v4; exact l1_none
  | succ n ih =>
    intro c v3 v4
    rw [f_X10_areLengthCodes_119]
    refine l1_many mt_X10_areLengthCodes (pc' := bif am_cc .ge v4 (v3 + 4) then 177 else 127) (L' := [some (.ref 11), none, none, some (.int v3), some (.int v4)]) (st' := []) 5 rfl ?_
    refine l1_bif rfl ?_ ?_
    · refine l1_weak (m := [true, false, false, false, false, false]) (L' := [some (.ref 11)]) rfl ?_
      exact ok_X10_areLengthCodes_177 hQ N c
    · refine l1_many mt_X10_areLengthCodes (pc' := 132) (L' := [some (.ref 11), none, none, some (.int v3), some (.int v4)]) (st' := [.ref 1000000000, .int v4]) 2 rfl ?_
      refine l1_slen hQ mt_X10_areLengthCodes rfl oa0 ?_
      refine l1_many mt_X10_areLengthCodes (pc' := bif am_cc .ge v4 (Int32.ofNat sa0.length) then 177 else 136) (L' := [some (.ref 11), none, none, some (.int v3), some (.int v4)]) (st' := []) 1 rfl ?_
      refine l1_bif rfl ?_ ?_
      · refine l1_weak (m := [true, false, false, false, false, false]) (L' := [some (.ref 11)]) rfl ?_
        exact ok_X10_areLengthCodes_177 hQ N c
      · refine l1_many mt_X10_areLengthCodes (pc' := 138) (L' := [some (.ref 11), none, none, some (.int v3), some (.int v4)]) (st' := [.int 3, .ref 11]) 2 rfl ?_
        refine l1_callV hQ mt_X10_areLengthCodes mt_X10_takeBits rfl rfl (o := 11) (ci := 9) (As := [.int 3]) (rest := []) rfl rfl rfl rfl rfl rfl (st1 := fun x1 => [.int x1]) (fun _ => rfl) (ok_X10_takeBits hQ N c 3) (fun x1 c2 => ?_)
        refine l1_many mt_X10_areLengthCodes (pc' := bif am_cc .ne x1 (-1) then 151 else 149) (L' := [some (.ref 11), none, none, some (.int v3), some (.int v4), some (.int x1)]) (st' := []) 4 rfl ?_
        refine l1_bin rfl ?_ ?_
        · refine l1_many mt_X10_areLengthCodes (pc' := 150) (L' := [some (.ref 11), none, none, some (.int v3), some (.int v4), some (.int x1)]) (st' := [.int 0]) 1 rfl ?_
          exact l1_ret mt_X10_areLengthCodes rfl rfl rfl
        · refine l1_many mt_X10_areLengthCodes (pc' := 157) (L' := [some (.ref 11), none, none, some (.int v3), some (.int v4), some (.int x1)]) (st' := [.int v4, .ref 1000000000, .ref 11]) 3 rfl ?_
          refine l1_ck (fun hx => ?_)
          refine l1_sald hQ mt_X10_areLengthCodes rfl oa0 hx ?_
          refine l1_many mt_X10_areLengthCodes (pc' := 163) (L' := [some (.ref 11), none, none, some (.int v3), some (.int v4), some (.int x1)]) (st' := [.int v4, .ref 1000000000, .int (sa0.getD v4.toNatClampNeg 0), .ref 11]) 2 rfl ?_
          refine l1_ck (fun hx => ?_)
          refine l1_sald hQ mt_X10_areLengthCodes rfl oa0 hx ?_
          refine l1_many mt_X10_areLengthCodes (pc' := 168) (L' := [some (.ref 11), none, none, some (.int v3), some (.int v4), some (.int x1)]) (st' := [.int x1, .int ((sa0.getD v4.toNatClampNeg 0) + 1), .int (sa0.getD v4.toNatClampNeg 0), .ref 11]) 3 rfl ?_
          refine l1_callV hQ mt_X10_areLengthCodes mt_X10_fillLengths rfl rfl (o := 11) (ci := 9) (As := [.int (sa0.getD v4.toNatClampNeg 0), .int ((sa0.getD v4.toNatClampNeg 0) + 1), .int x1]) (rest := []) rfl rfl rfl rfl rfl rfl (st1 := fun _ => []) (fun _ => rfl) (ok_X10_fillLengths hQ N c2 (sa0.getD v4.toNatClampNeg 0) ((sa0.getD v4.toNatClampNeg 0) + 1) x1) (fun _ c3 => ?_)
          refine l1_many mt_X10_areLengthCodes (pc' := 119) (L' := [some (.ref 11), none, none, some (.int v3), some (.int (v4 + 1)), some (.int x1)]) (st' := []) 2 rfl ?_
          refine l1_weak (m := [true, false, false, true, true, false]) (L' := [some (.ref 11), none, none, some (.int v3), some (.int (v4 + 1))]) rfl ?_
          exact ih c3 v3 (v4 + 1)
set_option maxRecDepth 100000 in
theorem en_X10_areLengthCodes {Q : hS → am_H → Prop} (hQ : l1_em kc Q) (N : Nat) (c : hS) : l1_G (wN wI) Q am_i_X10_areLengthCodes 0 [some (.ref 11)] [] c (f_X10_areLengthCodes N c) := by
  rw [f_X10_areLengthCodes]
  refine l1_many mt_X10_areLengthCodes (pc' := 2) (L' := [some (.ref 11)]) (st' := [.int 5, .ref 11]) 2 rfl ?_
  refine l1_callV hQ mt_X10_areLengthCodes mt_X10_takeBits rfl rfl (o := 11) (ci := 9) (As := [.int 5]) (rest := []) rfl rfl rfl rfl rfl rfl (st1 := fun x1 => [.int x1]) (fun _ => rfl) (ok_X10_takeBits hQ N c 5) (fun x1 c2 => ?_)
  refine l1_many mt_X10_areLengthCodes (pc' := bif am_cc .ne x1 (-1) then 13 else 11) (L' := [some (.ref 11), some (.int x1)]) (st' := []) 4 rfl ?_
  refine l1_bin rfl ?_ ?_
  · refine l1_many mt_X10_areLengthCodes (pc' := 12) (L' := [some (.ref 11), some (.int x1)]) (st' := [.int 0]) 1 rfl ?_
    exact l1_ret mt_X10_areLengthCodes rfl rfl rfl
  · refine l1_many mt_X10_areLengthCodes (pc' := 19) (L' := [some (.ref 11), some (.int x1)]) (st' := [.int (x1 + 257), .ref 11]) 4 rfl ?_
    refine l1_putI hQ mt_X10_areLengthCodes rfl (o := 11) (ci := 9) (k := 13) (a := 0) rfl rfl rfl rfl rfl rfl (fun c3 => ?_)
    refine l1_many mt_X10_areLengthCodes (pc' := 23) (L' := [some (.ref 11), some (.int x1)]) (st' := [.ref 11]) 1 rfl ?_
    refine l1_getI hQ mt_X10_areLengthCodes rfl (o := 11) (ci := 9) (k := 13) (a := 0) (b := 0) rfl rfl rfl rfl rfl ?_
    refine l1_many mt_X10_areLengthCodes (pc' := bif am_cc .le (c3.1 11 13) 286 then 46 else 32) (L' := [some (.ref 11), some (.int x1)]) (st' := []) 2 rfl ?_
    refine l1_bif rfl ?_ ?_
    · refine l1_many mt_X10_areLengthCodes (pc' := 48) (L' := [some (.ref 11), some (.int x1)]) (st' := [.int 5, .ref 11]) 2 rfl ?_
      refine l1_callV hQ mt_X10_areLengthCodes mt_X10_takeBits rfl rfl (o := 11) (ci := 9) (As := [.int 5]) (rest := []) rfl rfl rfl rfl rfl rfl (st1 := fun x4 => [.int x4]) (fun _ => rfl) (ok_X10_takeBits hQ N c3 5) (fun x4 c5 => ?_)
      refine l1_many mt_X10_areLengthCodes (pc' := bif am_cc .ne x4 (-1) then 59 else 57) (L' := [some (.ref 11), some (.int x1), some (.int x4)]) (st' := []) 4 rfl ?_
      refine l1_bin rfl ?_ ?_
      · refine l1_many mt_X10_areLengthCodes (pc' := 58) (L' := [some (.ref 11), some (.int x1), some (.int x4)]) (st' := [.int 0]) 1 rfl ?_
        exact l1_ret mt_X10_areLengthCodes rfl rfl rfl
      · refine l1_many mt_X10_areLengthCodes (pc' := bif am_cc .le (x4 + 1) 30 then 81 else 67) (L' := [some (.ref 11), some (.int x1), some (.int x4)]) (st' := []) 5 rfl ?_
        refine l1_bif rfl ?_ ?_
        · refine l1_many mt_X10_areLengthCodes (pc' := 83) (L' := [some (.ref 11), some (.int x1), some (.int x4)]) (st' := [.ref 11, .ref 11]) 2 rfl ?_
          refine l1_getI hQ mt_X10_areLengthCodes rfl (o := 11) (ci := 9) (k := 13) (a := 0) (b := 0) rfl rfl rfl rfl rfl ?_
          refine l1_many mt_X10_areLengthCodes (pc' := 90) (L' := [some (.ref 11), some (.int x1), some (.int x4)]) (st' := [.int (((c5.1 11 13) + x4) + 1), .ref 11]) 4 rfl ?_
          refine l1_putI hQ mt_X10_areLengthCodes rfl (o := 11) (ci := 9) (k := 14) (a := 0) rfl rfl rfl rfl rfl rfl (fun c6 => ?_)
          refine l1_many mt_X10_areLengthCodes (pc' := 95) (L' := [some (.ref 11), some (.int x1), some (.int x4)]) (st' := [.int 4, .ref 11]) 2 rfl ?_
          refine l1_callV hQ mt_X10_areLengthCodes mt_X10_takeBits rfl rfl (o := 11) (ci := 9) (As := [.int 4]) (rest := []) rfl rfl rfl rfl rfl rfl (st1 := fun x7 => [.int x7]) (fun _ => rfl) (ok_X10_takeBits hQ N c6 4) (fun x7 c8 => ?_)
          refine l1_many mt_X10_areLengthCodes (pc' := bif am_cc .ne x7 (-1) then 106 else 104) (L' := [some (.ref 11), some (.int x1), some (.int x4), some (.int x7)]) (st' := []) 4 rfl ?_
          refine l1_bin rfl ?_ ?_
          · refine l1_many mt_X10_areLengthCodes (pc' := 105) (L' := [some (.ref 11), some (.int x1), some (.int x4), some (.int x7)]) (st' := [.int 0]) 1 rfl ?_
            exact l1_ret mt_X10_areLengthCodes rfl rfl rfl
          · refine l1_many mt_X10_areLengthCodes (pc' := 111) (L' := [some (.ref 11), some (.int x1), some (.int x4), some (.int x7)]) (st' := [.ref 1000000000, .int 0, .ref 11]) 3 rfl ?_
            refine l1_slen hQ mt_X10_areLengthCodes rfl oa0 ?_
            refine l1_many mt_X10_areLengthCodes (pc' := 113) (L' := [some (.ref 11), some (.int x1), some (.int x4), some (.int x7)]) (st' := [.int 0, .int (Int32.ofNat sa0.length), .int 0, .ref 11]) 1 rfl ?_
            refine l1_callV hQ mt_X10_areLengthCodes mt_X10_fillLengths rfl rfl (o := 11) (ci := 9) (As := [.int 0, .int (Int32.ofNat sa0.length), .int 0]) (rest := []) rfl rfl rfl rfl rfl rfl (st1 := fun _ => []) (fun _ => rfl) (ok_X10_fillLengths hQ N c8 0 (Int32.ofNat sa0.length) 0) (fun _ c9 => ?_)
            refine l1_many mt_X10_areLengthCodes (pc' := 119) (L' := [some (.ref 11), some (.int x1), some (.int x4), some (.int x7), some (.int 0)]) (st' := []) 2 rfl ?_
            refine l1_weak (m := [true, false, false, true, true, false]) (L' := [some (.ref 11), none, none, some (.int x7), some (.int 0)]) rfl ?_
            exact ok_X10_areLengthCodes_119 hQ N N c9 x7 0
        · refine l1_many mt_X10_areLengthCodes (pc' := 68) (L' := [some (.ref 11), some (.int x1), some (.int x4)]) (st' := [.ref 11]) 1 rfl ?_
          refine l1_getR hQ mt_X10_areLengthCodes rfl (o := 11) (ci := 9) (k := 2) (a := 0) (b := 1) rfl rfl rfl rfl rfl (q := 9) rfl ?_
          refine l1_many mt_X10_areLengthCodes (pc' := 74) (L' := [some (.ref 11), some (.int x1), some (.int x4)]) (st' := [.ref 11, .int 24, .ref 9]) 2 rfl ?_
          refine l1_getI hQ mt_X10_areLengthCodes rfl (o := 11) (ci := 9) (k := 12) (a := 0) (b := 0) rfl rfl rfl rfl rfl ?_
          refine l1_callV hQ mt_X10_areLengthCodes mt_X6_tell rfl rfl (o := 9) (ci := 5) (As := [.int 24, .int (c5.1 11 12)]) (rest := []) rfl rfl rfl rfl rfl rfl (st1 := fun x10 => [.int x10]) (fun _ => rfl) (ok_X6_tell hQ c5 24 (c5.1 11 12)) (fun x10 c11 => ?_)
          refine l1_ck (fun hz => ?_)
          exact l1_retZ mt_X10_areLengthCodes rfl rfl rfl hz
    · refine l1_many mt_X10_areLengthCodes (pc' := 33) (L' := [some (.ref 11), some (.int x1)]) (st' := [.ref 11]) 1 rfl ?_
      refine l1_getR hQ mt_X10_areLengthCodes rfl (o := 11) (ci := 9) (k := 2) (a := 0) (b := 1) rfl rfl rfl rfl rfl (q := 9) rfl ?_
      refine l1_many mt_X10_areLengthCodes (pc' := 39) (L' := [some (.ref 11), some (.int x1)]) (st' := [.ref 11, .int 24, .ref 9]) 2 rfl ?_
      refine l1_getI hQ mt_X10_areLengthCodes rfl (o := 11) (ci := 9) (k := 12) (a := 0) (b := 0) rfl rfl rfl rfl rfl ?_
      refine l1_callV hQ mt_X10_areLengthCodes mt_X6_tell rfl rfl (o := 9) (ci := 5) (As := [.int 24, .int (c3.1 11 12)]) (rest := []) rfl rfl rfl rfl rfl rfl (st1 := fun x12 => [.int x12]) (fun _ => rfl) (ok_X6_tell hQ c3 24 (c3.1 11 12)) (fun x12 c13 => ?_)
      refine l1_ck (fun hz => ?_)
      exact l1_retZ mt_X10_areLengthCodes rfl rfl rfl hz
theorem ok_X10_areLengthCodes {Q : hS → am_H → Prop} (hQ : l1_em kc Q) (N : Nat) (c : hS) : l1_T wI Q am_i_X10_areLengthCodes [.ref 11] c (f_X10_areLengthCodes N c) := l1_of (en_X10_areLengthCodes hQ N c) ⟨rfl, trivial⟩
set_option maxRecDepth 100000 in
theorem en_X10_lengthAt {Q : hS → am_H → Prop} (hQ : l1_em kc Q) (c : hS) (p1 : Int32) : l1_G (wN wI) Q am_i_X10_lengthAt 0 [some (.ref 11), some (.int p1)] [] c (f_X10_lengthAt c p1) := by
  rw [f_X10_lengthAt]
  refine l1_many mt_X10_lengthAt (pc' := bif am_cc .lt p1 0 then 22 else 4) (L' := [some (.ref 11), some (.int p1)]) (st' := []) 2 rfl ?_
  refine l1_bif rfl ?_ ?_
  · refine l1_many mt_X10_lengthAt (pc' := 23) (L' := [some (.ref 11), some (.int p1)]) (st' := [.int 0]) 1 rfl ?_
    exact l1_ret mt_X10_lengthAt rfl rfl rfl
  · refine l1_many mt_X10_lengthAt (pc' := 6) (L' := [some (.ref 11), some (.int p1)]) (st' := [.ref 11, .int p1]) 2 rfl ?_
    refine l1_getR hQ mt_X10_lengthAt rfl (o := 11) (ci := 9) (k := 8) (a := 0) (b := 1) rfl rfl rfl rfl rfl (q := 32) rfl ?_
    refine l1_len hQ mt_X10_lengthAt rfl (o := 32) (ci := 20) rfl rfl rfl ?_
    refine l1_many mt_X10_lengthAt (pc' := bif am_cc .ge p1 (Int32.ofNat (ln 32)) then 22 else 13) (L' := [some (.ref 11), some (.int p1)]) (st' := []) 1 rfl ?_
    refine l1_bif rfl ?_ ?_
    · refine l1_many mt_X10_lengthAt (pc' := 23) (L' := [some (.ref 11), some (.int p1)]) (st' := [.int 0]) 1 rfl ?_
      exact l1_ret mt_X10_lengthAt rfl rfl rfl
    · refine l1_many mt_X10_lengthAt (pc' := 14) (L' := [some (.ref 11), some (.int p1)]) (st' := [.ref 11]) 1 rfl ?_
      refine l1_getR hQ mt_X10_lengthAt rfl (o := 11) (ci := 9) (k := 8) (a := 0) (b := 1) rfl rfl rfl rfl rfl (q := 32) rfl ?_
      refine l1_many mt_X10_lengthAt (pc' := 18) (L' := [some (.ref 11), some (.int p1)]) (st' := [.int p1, .ref 32]) 1 rfl ?_
      refine l1_ck (fun hx => ?_)
      refine l1_ald hQ mt_X10_lengthAt rfl (o := 32) rfl hx ?_
      refine l1_many mt_X10_lengthAt (pc' := 23) (L' := [some (.ref 11), some (.int p1)]) (st' := [.int (c.1 32 p1.toNatClampNeg)]) 1 rfl ?_
      exact l1_ret mt_X10_lengthAt rfl rfl rfl
theorem ok_X10_lengthAt {Q : hS → am_H → Prop} (hQ : l1_em kc Q) (c : hS) (p1 : Int32) : l1_T wI Q am_i_X10_lengthAt [.ref 11, .int p1] c (f_X10_lengthAt c p1) := l1_of (en_X10_lengthAt hQ c p1) ⟨rfl, rfl, trivial⟩
set_option maxRecDepth 100000 in
theorem ok_X10_areSymbolLengths_29 {Q : hS → am_H → Prop} (hQ : l1_em kc Q) (N : Nat) (p1 : Int32) : ∀ (c : hS), l1_G (wN wI) Q am_i_X10_areSymbolLengths 29 [some (.ref 11), some (.int p1)] [] c (f_X10_areSymbolLengths_29 N p1 c) := by
  intro c
  rw [f_X10_areSymbolLengths_29]
  refine l1_many mt_X10_areSymbolLengths (pc' := 31) (L' := [some (.ref 11), some (.int p1)]) (st' := [.ref 11, .int p1]) 2 rfl ?_
  refine l1_getI hQ mt_X10_areSymbolLengths rfl (o := 11) (ci := 9) (k := 13) (a := 0) (b := 0) rfl rfl rfl rfl rfl ?_
  refine l1_many mt_X10_areSymbolLengths (pc' := bif am_cc .ge p1 (c.1 11 13) then 48 else 37) (L' := [some (.ref 11), some (.int p1)]) (st' := []) 1 rfl ?_
  refine l1_bif rfl ?_ ?_
  · refine l1_many mt_X10_areSymbolLengths (pc' := 49) (L' := [some (.ref 11), some (.int p1)]) (st' := [.int 1]) 1 rfl ?_
    exact l1_ret mt_X10_areSymbolLengths rfl rfl rfl
  · refine l1_many mt_X10_areSymbolLengths (pc' := 38) (L' := [some (.ref 11), some (.int p1)]) (st' := [.ref 11]) 1 rfl ?_
    refine l1_getI hQ mt_X10_areSymbolLengths rfl (o := 11) (ci := 9) (k := 15) (a := 0) (b := 0) rfl rfl rfl rfl rfl ?_
    refine l1_many mt_X10_areSymbolLengths (pc' := 42) (L' := [some (.ref 11), some (.int p1)]) (st' := [.ref 11, .int (c.1 11 15)]) 1 rfl ?_
    refine l1_getI hQ mt_X10_areSymbolLengths rfl (o := 11) (ci := 9) (k := 13) (a := 0) (b := 0) rfl rfl rfl rfl rfl ?_
    refine l1_many mt_X10_areSymbolLengths (pc' := bif am_cc .ge (c.1 11 15) (c.1 11 13) then 50 else 48) (L' := [some (.ref 11), some (.int p1)]) (st' := []) 1 rfl ?_
    refine l1_bif rfl ?_ ?_
    · refine l1_many mt_X10_areSymbolLengths (pc' := 51) (L' := [some (.ref 11), some (.int p1)]) (st' := [.ref 11]) 1 rfl ?_
      refine l1_getR hQ mt_X10_areSymbolLengths rfl (o := 11) (ci := 9) (k := 5) (a := 0) (b := 1) rfl rfl rfl rfl rfl (q := 20) rfl ?_
      refine l1_many mt_X10_areSymbolLengths (pc' := 55) (L' := [some (.ref 11), some (.int p1)]) (st' := [.ref 11, .ref 20]) 1 rfl ?_
      refine l1_getR hQ mt_X10_areSymbolLengths rfl (o := 11) (ci := 9) (k := 8) (a := 0) (b := 1) rfl rfl rfl rfl rfl (q := 32) rfl ?_
      refine l1_many mt_X10_areSymbolLengths (pc' := 60) (L' := [some (.ref 11), some (.int p1)]) (st' := [.ref 11, .int 0, .ref 32, .ref 20]) 2 rfl ?_
      refine l1_getI hQ mt_X10_areSymbolLengths rfl (o := 11) (ci := 9) (k := 13) (a := 0) (b := 0) rfl rfl rfl rfl rfl ?_
      refine l1_callV hQ mt_X10_areSymbolLengths mt_X3_order rfl rfl (o := 20) (ci := 2) (As := [.ref 32, .int 0, .int (c.1 11 13)]) (rest := []) rfl rfl rfl rfl rfl rfl (st1 := fun _ => []) (fun _ => rfl) (ok_X3_order hQ N c 20 0 (c.1 11 13) rfl) (fun _ c1 => ?_)
      refine l1_many mt_X10_areSymbolLengths (pc' := 67) (L' := [some (.ref 11), some (.int p1)]) (st' := [.ref 11]) 1 rfl ?_
      refine l1_getR hQ mt_X10_areSymbolLengths rfl (o := 11) (ci := 9) (k := 5) (a := 0) (b := 1) rfl rfl rfl rfl rfl (q := 20) rfl ?_
      refine l1_callV hQ mt_X10_areSymbolLengths mt_X3_areComplete rfl rfl (o := 20) (ci := 2) (As := []) (rest := []) rfl rfl rfl rfl rfl rfl (st1 := fun x2 => [.int x2]) (fun _ => rfl) (ok_X3_areComplete hQ N c1 20 rfl) (fun x2 c3 => ?_)
      refine l1_ck (fun hz => ?_)
      exact l1_retZ mt_X10_areSymbolLengths rfl rfl rfl hz
    · refine l1_many mt_X10_areSymbolLengths (pc' := 49) (L' := [some (.ref 11), some (.int p1)]) (st' := [.int 1]) 1 rfl ?_
      exact l1_ret mt_X10_areSymbolLengths rfl rfl rfl
set_option maxRecDepth 100000 in
theorem en_X10_areSymbolLengths {Q : hS → am_H → Prop} (hQ : l1_em kc Q) (N : Nat) (c : hS) (p1 : Int32) : l1_G (wN wI) Q am_i_X10_areSymbolLengths 0 [some (.ref 11), some (.int p1)] [] c (f_X10_areSymbolLengths N c p1) := by
  rw [f_X10_areSymbolLengths]
  refine l1_many mt_X10_areSymbolLengths (pc' := bif am_cc .gt p1 256 then 29 else 7) (L' := [some (.ref 11), some (.int p1)]) (st' := []) 3 rfl ?_
  refine l1_bif rfl ?_ ?_
  · exact ok_X10_areSymbolLengths_29 hQ N p1 c
  · refine l1_many mt_X10_areSymbolLengths (pc' := 8) (L' := [some (.ref 11), some (.int p1)]) (st' := [.ref 11]) 1 rfl ?_
    refine l1_getI hQ mt_X10_areSymbolLengths rfl (o := 11) (ci := 9) (k := 15) (a := 0) (b := 0) rfl rfl rfl rfl rfl ?_
    refine l1_many mt_X10_areSymbolLengths (pc' := bif am_cc .le (c.1 11 15) 256 then 29 else 17) (L' := [some (.ref 11), some (.int p1)]) (st' := []) 2 rfl ?_
    refine l1_bif rfl ?_ ?_
    · exact ok_X10_areSymbolLengths_29 hQ N p1 c
    · refine l1_many mt_X10_areSymbolLengths (pc' := 21) (L' := [some (.ref 11), some (.int p1)]) (st' := [.int 256, .ref 11]) 2 rfl ?_
      refine l1_callV hQ mt_X10_areSymbolLengths mt_X10_lengthAt rfl rfl (o := 11) (ci := 9) (As := [.int 256]) (rest := []) rfl rfl rfl rfl rfl rfl (st1 := fun x1 => [.int x1]) (fun _ => rfl) (ok_X10_lengthAt hQ c 256) (fun x1 c2 => ?_)
      refine l1_many mt_X10_areSymbolLengths (pc' := bif am_cc .ne x1 0 then 29 else 27) (L' := [some (.ref 11), some (.int p1)]) (st' := []) 1 rfl ?_
      refine l1_bin rfl ?_ ?_
      · refine l1_many mt_X10_areSymbolLengths (pc' := 28) (L' := [some (.ref 11), some (.int p1)]) (st' := [.int 0]) 1 rfl ?_
        exact l1_ret mt_X10_areSymbolLengths rfl rfl rfl
      · exact ok_X10_areSymbolLengths_29 hQ N p1 c2
theorem ok_X10_areSymbolLengths {Q : hS → am_H → Prop} (hQ : l1_em kc Q) (N : Nat) (c : hS) (p1 : Int32) : l1_T wI Q am_i_X10_areSymbolLengths [.ref 11, .int p1] c (f_X10_areSymbolLengths N c p1) := l1_of (en_X10_areSymbolLengths hQ N c p1) ⟨rfl, rfl, trivial⟩
set_option maxRecDepth 100000 in
theorem ok_X10_isRepeated_113 {Q : hS → am_H → Prop} (hQ : l1_em kc Q) (N : Nat) (p1 : Int32) : ∀ (c : hS) (v2 : Int32) (v3 : Int32) (w0 : Int32), l1_G (wN wI) Q am_i_X10_isRepeated 113 [some (.ref 11), none, some (.int v2), some (.int v3)] [.int w0] c (f_X10_isRepeated_113 N p1 c v2 v3 w0) := by
  intro c v2 v3 w0
  rw [f_X10_isRepeated_113]
  refine l1_many mt_X10_isRepeated (pc' := 117) (L' := [some (.ref 11), none, some (.int v2), some (.int v3), some (.int w0)]) (st' := [.int v3, .ref 11]) 3 rfl ?_
  refine l1_callV hQ mt_X10_isRepeated mt_X10_takeBits rfl rfl (o := 11) (ci := 9) (As := [.int v3]) (rest := []) rfl rfl rfl rfl rfl rfl (st1 := fun x1 => [.int x1]) (fun _ => rfl) (ok_X10_takeBits hQ N c v3) (fun x1 c2 => ?_)
  refine l1_many mt_X10_isRepeated (pc' := bif am_cc .ne x1 (-1) then 130 else 128) (L' := [some (.ref 11), none, some (.int v2), some (.int v3), some (.int w0), some (.int x1)]) (st' := []) 4 rfl ?_
  refine l1_bin rfl ?_ ?_
  · refine l1_many mt_X10_isRepeated (pc' := 129) (L' := [some (.ref 11), none, some (.int v2), some (.int v3), some (.int w0), some (.int x1)]) (st' := [.int 0]) 1 rfl ?_
    exact l1_ret mt_X10_isRepeated rfl rfl rfl
  · refine l1_many mt_X10_isRepeated (pc' := 131) (L' := [some (.ref 11), none, some (.int v2), some (.int v3), some (.int w0), some (.int x1)]) (st' := [.ref 11]) 1 rfl ?_
    refine l1_getI hQ mt_X10_isRepeated rfl (o := 11) (ci := 9) (k := 15) (a := 0) (b := 0) rfl rfl rfl rfl rfl ?_
    refine l1_many mt_X10_isRepeated (pc' := 145) (L' := [some (.ref 11), none, some (.int v2), some (.int v3), some (.int w0), some (.int x1), some (.int (((c2.1 11 15) + w0) + x1))]) (st' := [.ref 11, .int (((c2.1 11 15) + w0) + x1)]) 7 rfl ?_
    refine l1_getI hQ mt_X10_isRepeated rfl (o := 11) (ci := 9) (k := 14) (a := 0) (b := 0) rfl rfl rfl rfl rfl ?_
    refine l1_many mt_X10_isRepeated (pc' := bif am_cc .le (((c2.1 11 15) + w0) + x1) (c2.1 11 14) then 165 else 151) (L' := [some (.ref 11), none, some (.int v2), some (.int v3), some (.int w0), some (.int x1), some (.int (((c2.1 11 15) + w0) + x1))]) (st' := []) 1 rfl ?_
    refine l1_bif rfl ?_ ?_
    · refine l1_many mt_X10_isRepeated (pc' := 167) (L' := [some (.ref 11), none, some (.int v2), some (.int v3), some (.int w0), some (.int x1), some (.int (((c2.1 11 15) + w0) + x1))]) (st' := [.ref 11, .ref 11]) 2 rfl ?_
      refine l1_getI hQ mt_X10_isRepeated rfl (o := 11) (ci := 9) (k := 15) (a := 0) (b := 0) rfl rfl rfl rfl rfl ?_
      refine l1_many mt_X10_isRepeated (pc' := 173) (L' := [some (.ref 11), none, some (.int v2), some (.int v3), some (.int w0), some (.int x1), some (.int (((c2.1 11 15) + w0) + x1))]) (st' := [.int v2, .int (((c2.1 11 15) + w0) + x1), .int (c2.1 11 15), .ref 11]) 2 rfl ?_
      refine l1_callV hQ mt_X10_isRepeated mt_X10_fillLengths rfl rfl (o := 11) (ci := 9) (As := [.int (c2.1 11 15), .int (((c2.1 11 15) + w0) + x1), .int v2]) (rest := []) rfl rfl rfl rfl rfl rfl (st1 := fun _ => []) (fun _ => rfl) (ok_X10_fillLengths hQ N c2 (c2.1 11 15) (((c2.1 11 15) + w0) + x1) v2) (fun _ c3 => ?_)
      refine l1_many mt_X10_isRepeated (pc' := 179) (L' := [some (.ref 11), none, some (.int v2), some (.int v3), some (.int w0), some (.int x1), some (.int (((c2.1 11 15) + w0) + x1))]) (st' := [.int (((c2.1 11 15) + w0) + x1), .ref 11]) 2 rfl ?_
      refine l1_putI hQ mt_X10_isRepeated rfl (o := 11) (ci := 9) (k := 15) (a := 0) rfl rfl rfl rfl rfl rfl (fun c4 => ?_)
      refine l1_many mt_X10_isRepeated (pc' := 183) (L' := [some (.ref 11), none, some (.int v2), some (.int v3), some (.int w0), some (.int x1), some (.int (((c2.1 11 15) + w0) + x1))]) (st' := [.int 1]) 1 rfl ?_
      exact l1_ret mt_X10_isRepeated rfl rfl rfl
    · refine l1_many mt_X10_isRepeated (pc' := 152) (L' := [some (.ref 11), none, some (.int v2), some (.int v3), some (.int w0), some (.int x1), some (.int (((c2.1 11 15) + w0) + x1))]) (st' := [.ref 11]) 1 rfl ?_
      refine l1_getR hQ mt_X10_isRepeated rfl (o := 11) (ci := 9) (k := 2) (a := 0) (b := 1) rfl rfl rfl rfl rfl (q := 9) rfl ?_
      refine l1_many mt_X10_isRepeated (pc' := 158) (L' := [some (.ref 11), none, some (.int v2), some (.int v3), some (.int w0), some (.int x1), some (.int (((c2.1 11 15) + w0) + x1))]) (st' := [.ref 11, .int 24, .ref 9]) 2 rfl ?_
      refine l1_getI hQ mt_X10_isRepeated rfl (o := 11) (ci := 9) (k := 12) (a := 0) (b := 0) rfl rfl rfl rfl rfl ?_
      refine l1_callV hQ mt_X10_isRepeated mt_X6_tell rfl rfl (o := 9) (ci := 5) (As := [.int 24, .int (c2.1 11 12)]) (rest := []) rfl rfl rfl rfl rfl rfl (st1 := fun x5 => [.int x5]) (fun _ => rfl) (ok_X6_tell hQ c2 24 (c2.1 11 12)) (fun x5 c6 => ?_)
      refine l1_ck (fun hz => ?_)
      exact l1_retZ mt_X10_isRepeated rfl rfl rfl hz
set_option maxRecDepth 100000 in
theorem ok_X10_isRepeated_90 {Q : hS → am_H → Prop} (hQ : l1_em kc Q) (N : Nat) (p1 : Int32) : ∀ (c : hS) (v2 : Int32) (w0 : Int32), l1_G (wN wI) Q am_i_X10_isRepeated 90 [some (.ref 11), some (.int p1), some (.int v2)] [.int w0] c (f_X10_isRepeated_90 N p1 c v2 w0) := by
  intro c v2 w0
  rw [f_X10_isRepeated_90]
  refine l1_many mt_X10_isRepeated (pc' := bif am_cc .ge p1 16 then 101 else 97) (L' := [some (.ref 11), some (.int p1), some (.int v2), some (.int w0)]) (st' := []) 4 rfl ?_
  refine l1_bif rfl ?_ ?_
  · refine l1_many mt_X10_isRepeated (pc' := bif am_cc .ne p1 18 then 112 else 107) (L' := [some (.ref 11), some (.int p1), some (.int v2), some (.int w0)]) (st' := []) 3 rfl ?_
    refine l1_bin rfl ?_ ?_
    · refine l1_many mt_X10_isRepeated (pc' := 113) (L' := [some (.ref 11), some (.int p1), some (.int v2), some (.int w0)]) (st' := [.int 11]) 2 rfl ?_
      refine l1_weak (m := [true, false, true, true, false, false, false]) (L' := [some (.ref 11), none, some (.int v2), some (.int w0)]) rfl ?_
      exact ok_X10_isRepeated_113 hQ N p1 c v2 w0 11
    · refine l1_many mt_X10_isRepeated (pc' := 113) (L' := [some (.ref 11), some (.int p1), some (.int v2), some (.int w0)]) (st' := [.int 3]) 1 rfl ?_
      refine l1_weak (m := [true, false, true, true, false, false, false]) (L' := [some (.ref 11), none, some (.int v2), some (.int w0)]) rfl ?_
      exact ok_X10_isRepeated_113 hQ N p1 c v2 w0 3
  · refine l1_many mt_X10_isRepeated (pc' := 113) (L' := [some (.ref 11), some (.int p1), some (.int v2), some (.int w0)]) (st' := [.int 1]) 2 rfl ?_
    refine l1_weak (m := [true, false, true, true, false, false, false]) (L' := [some (.ref 11), none, some (.int v2), some (.int w0)]) rfl ?_
    exact ok_X10_isRepeated_113 hQ N p1 c v2 w0 1
set_option maxRecDepth 100000 in
theorem ok_X10_isRepeated_57 {Q : hS → am_H → Prop} (hQ : l1_em kc Q) (N : Nat) (p1 : Int32) : ∀ (c : hS) (w0 : Int32), l1_G (wN wI) Q am_i_X10_isRepeated 57 [some (.ref 11), some (.int p1)] [.int w0] c (f_X10_isRepeated_57 N p1 c w0) := by
  intro c w0
  rw [f_X10_isRepeated_57]
  refine l1_many mt_X10_isRepeated (pc' := bif am_cc .ge p1 16 then 68 else 64) (L' := [some (.ref 11), some (.int p1), some (.int w0)]) (st' := []) 4 rfl ?_
  refine l1_bif rfl ?_ ?_
  · refine l1_many mt_X10_isRepeated (pc' := bif am_cc .ne p1 16 then 78 else 74) (L' := [some (.ref 11), some (.int p1), some (.int w0)]) (st' := []) 3 rfl ?_
    refine l1_bin rfl ?_ ?_
    · refine l1_many mt_X10_isRepeated (pc' := 90) (L' := [some (.ref 11), some (.int p1), some (.int w0)]) (st' := [.int 2]) 2 rfl ?_
      exact ok_X10_isRepeated_90 hQ N p1 c w0 2
    · refine l1_many mt_X10_isRepeated (pc' := bif am_cc .ne p1 17 then 88 else 84) (L' := [some (.ref 11), some (.int p1), some (.int w0)]) (st' := []) 3 rfl ?_
      refine l1_bin rfl ?_ ?_
      · refine l1_many mt_X10_isRepeated (pc' := 90) (L' := [some (.ref 11), some (.int p1), some (.int w0)]) (st' := [.int 3]) 2 rfl ?_
        exact ok_X10_isRepeated_90 hQ N p1 c w0 3
      · refine l1_many mt_X10_isRepeated (pc' := 90) (L' := [some (.ref 11), some (.int p1), some (.int w0)]) (st' := [.int 7]) 1 rfl ?_
        exact ok_X10_isRepeated_90 hQ N p1 c w0 7
  · refine l1_many mt_X10_isRepeated (pc' := 90) (L' := [some (.ref 11), some (.int p1), some (.int w0)]) (st' := [.int 0]) 2 rfl ?_
    exact ok_X10_isRepeated_90 hQ N p1 c w0 0
set_option maxRecDepth 100000 in
theorem ok_X10_isRepeated_27 {Q : hS → am_H → Prop} (hQ : l1_em kc Q) (N : Nat) (p1 : Int32) : ∀ (c : hS), l1_G (wN wI) Q am_i_X10_isRepeated 27 [some (.ref 11), some (.int p1)] [] c (f_X10_isRepeated_27 N p1 c) := by
  intro c
  rw [f_X10_isRepeated_27]
  refine l1_many mt_X10_isRepeated (pc' := bif am_cc .ge p1 16 then 37 else 33) (L' := [some (.ref 11), some (.int p1)]) (st' := []) 3 rfl ?_
  refine l1_bif rfl ?_ ?_
  · refine l1_many mt_X10_isRepeated (pc' := bif am_cc .ne p1 16 then 56 else 43) (L' := [some (.ref 11), some (.int p1)]) (st' := []) 3 rfl ?_
    refine l1_bin rfl ?_ ?_
    · refine l1_many mt_X10_isRepeated (pc' := 45) (L' := [some (.ref 11), some (.int p1)]) (st' := [.ref 11, .ref 11]) 2 rfl ?_
      refine l1_getI hQ mt_X10_isRepeated rfl (o := 11) (ci := 9) (k := 15) (a := 0) (b := 0) rfl rfl rfl rfl rfl ?_
      refine l1_many mt_X10_isRepeated (pc' := 50) (L' := [some (.ref 11), some (.int p1)]) (st' := [.int ((c.1 11 15) - 1), .ref 11]) 2 rfl ?_
      refine l1_callV hQ mt_X10_isRepeated mt_X10_lengthAt rfl rfl (o := 11) (ci := 9) (As := [.int ((c.1 11 15) - 1)]) (rest := []) rfl rfl rfl rfl rfl rfl (st1 := fun x1 => [.int x1]) (fun _ => rfl) (ok_X10_lengthAt hQ c ((c.1 11 15) - 1)) (fun x1 c2 => ?_)
      refine l1_many mt_X10_isRepeated (pc' := 57) (L' := [some (.ref 11), some (.int p1)]) (st' := [.int x1]) 1 rfl ?_
      exact ok_X10_isRepeated_57 hQ N p1 c2 x1
    · refine l1_many mt_X10_isRepeated (pc' := 57) (L' := [some (.ref 11), some (.int p1)]) (st' := [.int 0]) 1 rfl ?_
      exact ok_X10_isRepeated_57 hQ N p1 c 0
  · refine l1_many mt_X10_isRepeated (pc' := 57) (L' := [some (.ref 11), some (.int p1)]) (st' := [.int p1]) 2 rfl ?_
    exact ok_X10_isRepeated_57 hQ N p1 c p1
set_option maxRecDepth 100000 in
theorem en_X10_isRepeated {Q : hS → am_H → Prop} (hQ : l1_em kc Q) (N : Nat) (c : hS) (p1 : Int32) : l1_G (wN wI) Q am_i_X10_isRepeated 0 [some (.ref 11), some (.int p1)] [] c (f_X10_isRepeated N c p1) := by
  rw [f_X10_isRepeated]
  refine l1_many mt_X10_isRepeated (pc' := bif am_cc .ne p1 16 then 27 else 6) (L' := [some (.ref 11), some (.int p1)]) (st' := []) 3 rfl ?_
  refine l1_bin rfl ?_ ?_
  · refine l1_many mt_X10_isRepeated (pc' := 7) (L' := [some (.ref 11), some (.int p1)]) (st' := [.ref 11]) 1 rfl ?_
    refine l1_getI hQ mt_X10_isRepeated rfl (o := 11) (ci := 9) (k := 15) (a := 0) (b := 0) rfl rfl rfl rfl rfl ?_
    refine l1_many mt_X10_isRepeated (pc' := bif am_cc .ne (c.1 11 15) 0 then 27 else 13) (L' := [some (.ref 11), some (.int p1)]) (st' := []) 1 rfl ?_
    refine l1_bin rfl ?_ ?_
    · refine l1_many mt_X10_isRepeated (pc' := 14) (L' := [some (.ref 11), some (.int p1)]) (st' := [.ref 11]) 1 rfl ?_
      refine l1_getR hQ mt_X10_isRepeated rfl (o := 11) (ci := 9) (k := 2) (a := 0) (b := 1) rfl rfl rfl rfl rfl (q := 9) rfl ?_
      refine l1_many mt_X10_isRepeated (pc' := 20) (L' := [some (.ref 11), some (.int p1)]) (st' := [.ref 11, .int 24, .ref 9]) 2 rfl ?_
      refine l1_getI hQ mt_X10_isRepeated rfl (o := 11) (ci := 9) (k := 12) (a := 0) (b := 0) rfl rfl rfl rfl rfl ?_
      refine l1_callV hQ mt_X10_isRepeated mt_X6_tell rfl rfl (o := 9) (ci := 5) (As := [.int 24, .int (c.1 11 12)]) (rest := []) rfl rfl rfl rfl rfl rfl (st1 := fun x1 => [.int x1]) (fun _ => rfl) (ok_X6_tell hQ c 24 (c.1 11 12)) (fun x1 c2 => ?_)
      refine l1_ck (fun hz => ?_)
      exact l1_retZ mt_X10_isRepeated rfl rfl rfl hz
    · exact ok_X10_isRepeated_27 hQ N p1 c
  · exact ok_X10_isRepeated_27 hQ N p1 c
theorem ok_X10_isRepeated {Q : hS → am_H → Prop} (hQ : l1_em kc Q) (N : Nat) (c : hS) (p1 : Int32) : l1_T wI Q am_i_X10_isRepeated [.ref 11, .int p1] c (f_X10_isRepeated N c p1) := l1_of (en_X10_isRepeated hQ N c p1) ⟨rfl, rfl, trivial⟩
set_option maxRecDepth 100000 in
theorem ok_X10_takeSymbol_148 {Q : hS → am_H → Prop} (hQ : l1_em kc Q) (N : Nat) (p1 : Nat) (p2 : Int32) (hp1 : kc p1 = 2) : ∀ (c : hS), l1_G (wN wI) Q am_i_X10_takeSymbol 148 [some (.ref 11), none, some (.int p2)] [] c (f_X10_takeSymbol_148 N p1 p2 c) := by
  intro c
  rw [f_X10_takeSymbol_148]
  refine l1_many mt_X10_takeSymbol (pc' := 149) (L' := [some (.ref 11), none, some (.int p2)]) (st' := [.ref 11]) 1 rfl ?_
  refine l1_getR hQ mt_X10_takeSymbol rfl (o := 11) (ci := 9) (k := 2) (a := 0) (b := 1) rfl rfl rfl rfl rfl (q := 9) rfl ?_
  refine l1_many mt_X10_takeSymbol (pc' := 155) (L' := [some (.ref 11), none, some (.int p2)]) (st' := [.int p2, .int 25, .ref 9]) 2 rfl ?_
  refine l1_callV hQ mt_X10_takeSymbol mt_X6_tell rfl rfl (o := 9) (ci := 5) (As := [.int 25, .int p2]) (rest := []) rfl rfl rfl rfl rfl rfl (st1 := fun x1 => [.int x1]) (fun _ => rfl) (ok_X6_tell hQ c 25 p2) (fun x1 c2 => ?_)
  refine l1_many mt_X10_takeSymbol (pc' := 160) (L' := [some (.ref 11), none, some (.int p2)]) (st' := [.int (-1)]) 2 rfl ?_
  exact l1_ret mt_X10_takeSymbol rfl rfl rfl
set_option maxRecDepth 100000 in
theorem ok_X10_takeSymbol_11 {Q : hS → am_H → Prop} (hQ : l1_em kc Q) (N : Nat) (p1 : Nat) (p2 : Int32) (hp1 : kc p1 = 2) : ∀ n : Nat, ∀ (c : hS) (v3 : Int32) (v4 : Int32) (v5 : Int32) (v6 : Int32), l1_G (wN wI) Q am_i_X10_takeSymbol 11 [some (.ref 11), some (.ref p1), some (.int p2), some (.int v3), some (.int v4), some (.int v5), some (.int v6)] [] c (f_X10_takeSymbol_11 N p1 p2 n c v3 v4 v5 v6) := by
  intro n
  induction n with
  | zero => intro c v3 v4 v5 v6; exact l1_none
  | succ n ih =>
    intro c v3 v4 v5 v6
    rw [f_X10_takeSymbol_11]
    refine l1_many mt_X10_takeSymbol (pc' := bif am_cc .gt v6 15 then 148 else 18) (L' := [some (.ref 11), some (.ref p1), some (.int p2), some (.int v3), some (.int v4), some (.int v5), some (.int v6)]) (st' := []) 3 rfl ?_
    refine l1_bif rfl ?_ ?_
    · refine l1_weak (m := [true, false, true, false, false, false, false, false]) (L' := [some (.ref 11), none, some (.int p2)]) rfl ?_
      exact ok_X10_takeSymbol_148 hQ N p1 p2 hp1 c
    · refine l1_many mt_X10_takeSymbol (pc' := 19) (L' := [some (.ref 11), some (.ref p1), some (.int p2), some (.int v3), some (.int v4), some (.int v5), some (.int v6)]) (st' := [.ref 11]) 1 rfl ?_
      refine l1_getI hQ mt_X10_takeSymbol rfl (o := 11) (ci := 9) (k := 9) (a := 0) (b := 0) rfl rfl rfl rfl rfl ?_
      refine l1_many mt_X10_takeSymbol (pc' := 23) (L' := [some (.ref 11), some (.ref p1), some (.int p2), some (.int v3), some (.int v4), some (.int v5), some (.int v6)]) (st' := [.ref 11, .int (c.1 11 9)]) 1 rfl ?_
      refine l1_getI hQ mt_X10_takeSymbol rfl (o := 11) (ci := 9) (k := 10) (a := 0) (b := 0) rfl rfl rfl rfl rfl ?_
      refine l1_many mt_X10_takeSymbol (pc' := bif am_cc .lt (c.1 11 9) (c.1 11 10) then 47 else 29) (L' := [some (.ref 11), some (.ref p1), some (.int p2), some (.int v3), some (.int v4), some (.int v5), some (.int v6)]) (st' := []) 1 rfl ?_
      refine l1_bif rfl ?_ ?_
      · refine l1_many mt_X10_takeSymbol (pc' := 51) (L' := [some (.ref 11), some (.ref p1), some (.int p2), some (.int v3), some (.int v4), some (.int v5), some (.int v6)]) (st' := [.ref 11, .int (j_shl v3 1)]) 4 rfl ?_
        refine l1_getR hQ mt_X10_takeSymbol rfl (o := 11) (ci := 9) (k := 0) (a := 0) (b := 1) rfl rfl rfl rfl rfl (q := 3) rfl ?_
        refine l1_many mt_X10_takeSymbol (pc' := 55) (L' := [some (.ref 11), some (.ref p1), some (.int p2), some (.int v3), some (.int v4), some (.int v5), some (.int v6)]) (st' := [.ref 11, .ref 3, .int (j_shl v3 1)]) 1 rfl ?_
        refine l1_getI hQ mt_X10_takeSymbol rfl (o := 11) (ci := 9) (k := 9) (a := 0) (b := 0) rfl rfl rfl rfl rfl ?_
        refine l1_many mt_X10_takeSymbol (pc' := 60) (L' := [some (.ref 11), some (.ref p1), some (.int p2), some (.int v3), some (.int v4), some (.int v5), some (.int v6)]) (st' := [.int (j_shr (c.1 11 9) 3), .ref 3, .int (j_shl v3 1)]) 2 rfl ?_
        refine l1_callV hQ mt_X10_takeSymbol mt_X2_get rfl rfl (o := 3) (ci := 1) (As := [.int (j_shr (c.1 11 9) 3)]) (rest := [.int (j_shl v3 1)]) rfl rfl rfl rfl rfl rfl (st1 := fun x1 => [.int x1, .int (j_shl v3 1)]) (fun _ => rfl) (ok_X2_get hQ c 3 (j_shr (c.1 11 9) 3) rfl) (fun x1 c2 => ?_)
        refine l1_many mt_X10_takeSymbol (pc' := 64) (L' := [some (.ref 11), some (.ref p1), some (.int p2), some (.int v3), some (.int v4), some (.int v5), some (.int v6)]) (st' := [.ref 11, .int x1, .int (j_shl v3 1)]) 1 rfl ?_
        refine l1_getI hQ mt_X10_takeSymbol rfl (o := 11) (ci := 9) (k := 9) (a := 0) (b := 0) rfl rfl rfl rfl rfl ?_
        refine l1_many mt_X10_takeSymbol (pc' := 77) (L' := [some (.ref 11), some (.ref p1), some (.int p2), some (.int ((j_shl v3 1) ||| ((j_shr x1 ((c2.1 11 9) &&& 7)) &&& 1))), some (.int v4), some (.int v5), some (.int v6)]) (st' := [.ref 11, .ref 11]) 9 rfl ?_
        refine l1_getI hQ mt_X10_takeSymbol rfl (o := 11) (ci := 9) (k := 9) (a := 0) (b := 0) rfl rfl rfl rfl rfl ?_
        refine l1_many mt_X10_takeSymbol (pc' := 82) (L' := [some (.ref 11), some (.ref p1), some (.int p2), some (.int ((j_shl v3 1) ||| ((j_shr x1 ((c2.1 11 9) &&& 7)) &&& 1))), some (.int v4), some (.int v5), some (.int v6)]) (st' := [.int ((c2.1 11 9) + 1), .ref 11]) 2 rfl ?_
        refine l1_putI hQ mt_X10_takeSymbol rfl (o := 11) (ci := 9) (k := 9) (a := 0) rfl rfl rfl rfl rfl rfl (fun c3 => ?_)
        refine l1_many mt_X10_takeSymbol (pc' := 88) (L' := [some (.ref 11), some (.ref p1), some (.int p2), some (.int ((j_shl v3 1) ||| ((j_shr x1 ((c2.1 11 9) &&& 7)) &&& 1))), some (.int v4), some (.int v5), some (.int v6)]) (st' := [.int v6, .ref p1]) 2 rfl ?_
        refine l1_callV hQ mt_X10_takeSymbol mt_X3_amount rfl rfl (o := p1) (ci := 2) (As := [.int v6]) (rest := []) rfl rfl hp1 rfl rfl rfl (st1 := fun x4 => [.int x4]) (fun _ => rfl) (ok_X3_amount hQ c3 p1 v6 hp1) (fun x4 c5 => ?_)
        refine l1_many mt_X10_takeSymbol (pc' := bif am_cc .ge (((j_shl v3 1) ||| ((j_shr x1 ((c2.1 11 9) &&& 7)) &&& 1)) - v4) x4 then 114 else 102) (L' := [some (.ref 11), some (.ref p1), some (.int p2), some (.int ((j_shl v3 1) ||| ((j_shr x1 ((c2.1 11 9) &&& 7)) &&& 1))), some (.int v4), some (.int v5), some (.int v6), some (.int x4)]) (st' := []) 6 rfl ?_
        refine l1_bif rfl ?_ ?_
        · refine l1_many mt_X10_takeSymbol (pc' := 117) (L' := [some (.ref 11), some (.ref p1), some (.int p2), some (.int ((j_shl v3 1) ||| ((j_shr x1 ((c2.1 11 9) &&& 7)) &&& 1))), some (.int v4), some (.int v5), some (.int v6), some (.int x4)]) (st' := [.ref p1, .int v6]) 2 rfl ?_
          refine l1_callV hQ mt_X10_takeSymbol mt_X3_longest rfl rfl (o := p1) (ci := 2) (As := []) (rest := [.int v6]) rfl rfl hp1 rfl rfl rfl (st1 := fun x6 => [.int x6, .int v6]) (fun _ => rfl) (ok_X3_longest hQ c5 p1 hp1) (fun x6 c7 => ?_)
          refine l1_many mt_X10_takeSymbol (pc' := bif am_cc .lt v6 x6 then 126 else 123) (L' := [some (.ref 11), some (.ref p1), some (.int p2), some (.int ((j_shl v3 1) ||| ((j_shr x1 ((c2.1 11 9) &&& 7)) &&& 1))), some (.int v4), some (.int v5), some (.int v6), some (.int x4)]) (st' := []) 1 rfl ?_
          refine l1_bif rfl ?_ ?_
          · refine l1_many mt_X10_takeSymbol (pc' := 11) (L' := [some (.ref 11), some (.ref p1), some (.int p2), some (.int ((j_shl v3 1) ||| ((j_shr x1 ((c2.1 11 9) &&& 7)) &&& 1))), some (.int (j_shl (v4 + x4) 1)), some (.int (v5 + x4)), some (.int (v6 + 1)), some (.int x4)]) (st' := []) 12 rfl ?_
            refine l1_weak (m := [true, true, true, true, true, true, true, false]) (L' := [some (.ref 11), some (.ref p1), some (.int p2), some (.int ((j_shl v3 1) ||| ((j_shr x1 ((c2.1 11 9) &&& 7)) &&& 1))), some (.int (j_shl (v4 + x4) 1)), some (.int (v5 + x4)), some (.int (v6 + 1))]) rfl ?_
            exact ih c7 ((j_shl v3 1) ||| ((j_shr x1 ((c2.1 11 9) &&& 7)) &&& 1)) (j_shl (v4 + x4) 1) (v5 + x4) (v6 + 1)
          · refine l1_many mt_X10_takeSymbol (pc' := 148) (L' := [some (.ref 11), some (.ref p1), some (.int p2), some (.int ((j_shl v3 1) ||| ((j_shr x1 ((c2.1 11 9) &&& 7)) &&& 1))), some (.int v4), some (.int v5), some (.int v6), some (.int x4)]) (st' := []) 1 rfl ?_
            refine l1_weak (m := [true, false, true, false, false, false, false, false]) (L' := [some (.ref 11), none, some (.int p2)]) rfl ?_
            exact ok_X10_takeSymbol_148 hQ N p1 p2 hp1 c7
        · refine l1_many mt_X10_takeSymbol (pc' := 110) (L' := [some (.ref 11), some (.ref p1), some (.int p2), some (.int ((j_shl v3 1) ||| ((j_shr x1 ((c2.1 11 9) &&& 7)) &&& 1))), some (.int v4), some (.int v5), some (.int v6), some (.int x4)]) (st' := [.int ((v5 + ((j_shl v3 1) ||| ((j_shr x1 ((c2.1 11 9) &&& 7)) &&& 1))) - v4), .ref p1]) 6 rfl ?_
          refine l1_callV hQ mt_X10_takeSymbol mt_X3_symbol rfl rfl (o := p1) (ci := 2) (As := [.int ((v5 + ((j_shl v3 1) ||| ((j_shr x1 ((c2.1 11 9) &&& 7)) &&& 1))) - v4)]) (rest := []) rfl rfl hp1 rfl rfl rfl (st1 := fun x8 => [.int x8]) (fun _ => rfl) (ok_X3_symbol hQ c5 p1 ((v5 + ((j_shl v3 1) ||| ((j_shr x1 ((c2.1 11 9) &&& 7)) &&& 1))) - v4) hp1) (fun x8 c9 => ?_)
          exact l1_ret mt_X10_takeSymbol rfl rfl rfl
      · refine l1_many mt_X10_takeSymbol (pc' := 30) (L' := [some (.ref 11), some (.ref p1), some (.int p2), some (.int v3), some (.int v4), some (.int v5), some (.int v6)]) (st' := [.ref 11]) 1 rfl ?_
        refine l1_getR hQ mt_X10_takeSymbol rfl (o := 11) (ci := 9) (k := 2) (a := 0) (b := 1) rfl rfl rfl rfl rfl (q := 9) rfl ?_
        refine l1_many mt_X10_takeSymbol (pc' := 36) (L' := [some (.ref 11), some (.ref p1), some (.int p2), some (.int v3), some (.int v4), some (.int v5), some (.int v6)]) (st' := [.ref 11, .int 20, .ref 9]) 2 rfl ?_
        refine l1_getI hQ mt_X10_takeSymbol rfl (o := 11) (ci := 9) (k := 10) (a := 0) (b := 0) rfl rfl rfl rfl rfl ?_
        refine l1_many mt_X10_takeSymbol (pc' := 41) (L' := [some (.ref 11), some (.ref p1), some (.int p2), some (.int v3), some (.int v4), some (.int v5), some (.int v6)]) (st' := [.int (j_shr (c.1 11 10) 3), .int 20, .ref 9]) 2 rfl ?_
        refine l1_callV hQ mt_X10_takeSymbol mt_X6_tell rfl rfl (o := 9) (ci := 5) (As := [.int 20, .int (j_shr (c.1 11 10) 3)]) (rest := []) rfl rfl rfl rfl rfl rfl (st1 := fun x10 => [.int x10]) (fun _ => rfl) (ok_X6_tell hQ c 20 (j_shr (c.1 11 10) 3)) (fun x10 c11 => ?_)
        refine l1_many mt_X10_takeSymbol (pc' := 46) (L' := [some (.ref 11), some (.ref p1), some (.int p2), some (.int v3), some (.int v4), some (.int v5), some (.int v6)]) (st' := [.int (-1)]) 2 rfl ?_
        exact l1_ret mt_X10_takeSymbol rfl rfl rfl
set_option maxRecDepth 100000 in
theorem en_X10_takeSymbol {Q : hS → am_H → Prop} (hQ : l1_em kc Q) (N : Nat) (c : hS) (p1 : Nat) (p2 : Int32) (hp1 : kc p1 = 2) : l1_G (wN wI) Q am_i_X10_takeSymbol 0 [some (.ref 11), some (.ref p1), some (.int p2)] [] c (f_X10_takeSymbol N c p1 p2) := by
  rw [f_X10_takeSymbol]
  refine l1_many mt_X10_takeSymbol (pc' := 11) (L' := [some (.ref 11), some (.ref p1), some (.int p2), some (.int 0), some (.int 0), some (.int 0), some (.int 1)]) (st' := []) 8 rfl ?_
  exact ok_X10_takeSymbol_11 hQ N p1 p2 hp1 N c 0 0 0 1
theorem ok_X10_takeSymbol {Q : hS → am_H → Prop} (hQ : l1_em kc Q) (N : Nat) (c : hS) (p1 : Nat) (p2 : Int32) (hp1 : kc p1 = 2) : l1_T wI Q am_i_X10_takeSymbol [.ref 11, .ref p1, .int p2] c (f_X10_takeSymbol N c p1 p2) := l1_of (en_X10_takeSymbol hQ N c p1 p2 hp1) ⟨rfl, rfl, rfl, trivial⟩
set_option maxRecDepth 100000 in
theorem ok_X10_areLengths_88 {Q : hS → am_H → Prop} (hQ : l1_em kc Q) (N : Nat) : ∀ (c : hS), l1_G (wN wI) Q am_i_X10_areLengths 88 [some (.ref 11)] [] c (f_X10_areLengths_88 N c) := by
  intro c
  rw [f_X10_areLengths_88]
  refine l1_many mt_X10_areLengths (pc' := 89) (L' := [some (.ref 11)]) (st' := [.ref 11]) 1 rfl ?_
  refine l1_getR hQ mt_X10_areLengths rfl (o := 11) (ci := 9) (k := 6) (a := 0) (b := 1) rfl rfl rfl rfl rfl (q := 24) rfl ?_
  refine l1_many mt_X10_areLengths (pc' := 93) (L' := [some (.ref 11)]) (st' := [.ref 11, .ref 24]) 1 rfl ?_
  refine l1_getR hQ mt_X10_areLengths rfl (o := 11) (ci := 9) (k := 8) (a := 0) (b := 1) rfl rfl rfl rfl rfl (q := 32) rfl ?_
  refine l1_many mt_X10_areLengths (pc' := 97) (L' := [some (.ref 11)]) (st' := [.ref 11, .ref 32, .ref 24]) 1 rfl ?_
  refine l1_getI hQ mt_X10_areLengths rfl (o := 11) (ci := 9) (k := 13) (a := 0) (b := 0) rfl rfl rfl rfl rfl ?_
  refine l1_many mt_X10_areLengths (pc' := 101) (L' := [some (.ref 11)]) (st' := [.ref 11, .int (c.1 11 13), .ref 32, .ref 24]) 1 rfl ?_
  refine l1_getI hQ mt_X10_areLengths rfl (o := 11) (ci := 9) (k := 14) (a := 0) (b := 0) rfl rfl rfl rfl rfl ?_
  refine l1_many mt_X10_areLengths (pc' := 105) (L' := [some (.ref 11)]) (st' := [.ref 11, .int (c.1 11 14), .int (c.1 11 13), .ref 32, .ref 24]) 1 rfl ?_
  refine l1_getI hQ mt_X10_areLengths rfl (o := 11) (ci := 9) (k := 13) (a := 0) (b := 0) rfl rfl rfl rfl rfl ?_
  refine l1_many mt_X10_areLengths (pc' := 109) (L' := [some (.ref 11)]) (st' := [.int ((c.1 11 14) - (c.1 11 13)), .int (c.1 11 13), .ref 32, .ref 24]) 1 rfl ?_
  refine l1_callV hQ mt_X10_areLengths mt_X3_order rfl rfl (o := 24) (ci := 2) (As := [.ref 32, .int (c.1 11 13), .int ((c.1 11 14) - (c.1 11 13))]) (rest := []) rfl rfl rfl rfl rfl rfl (st1 := fun _ => []) (fun _ => rfl) (ok_X3_order hQ N c 24 (c.1 11 13) ((c.1 11 14) - (c.1 11 13)) rfl) (fun _ c1 => ?_)
  refine l1_many mt_X10_areLengths (pc' := 113) (L' := [some (.ref 11)]) (st' := [.ref 11]) 1 rfl ?_
  refine l1_getR hQ mt_X10_areLengths rfl (o := 11) (ci := 9) (k := 6) (a := 0) (b := 1) rfl rfl rfl rfl rfl (q := 24) rfl ?_
  refine l1_callV hQ mt_X10_areLengths mt_X3_areComplete rfl rfl (o := 24) (ci := 2) (As := []) (rest := []) rfl rfl rfl rfl rfl rfl (st1 := fun x2 => [.int x2]) (fun _ => rfl) (ok_X3_areComplete hQ N c1 24 rfl) (fun x2 c3 => ?_)
  refine l1_many mt_X10_areLengths (pc' := bif am_cc .ne x2 0 then 148 else 122) (L' := [some (.ref 11)]) (st' := []) 1 rfl ?_
  refine l1_bin rfl ?_ ?_
  · refine l1_many mt_X10_areLengths (pc' := 123) (L' := [some (.ref 11)]) (st' := [.ref 11]) 1 rfl ?_
    refine l1_getR hQ mt_X10_areLengths rfl (o := 11) (ci := 9) (k := 6) (a := 0) (b := 1) rfl rfl rfl rfl rfl (q := 24) rfl ?_
    refine l1_callV hQ mt_X10_areLengths mt_X3_areNoneOrOneBit rfl rfl (o := 24) (ci := 2) (As := []) (rest := []) rfl rfl rfl rfl rfl rfl (st1 := fun x4 => [.int x4]) (fun _ => rfl) (ok_X3_areNoneOrOneBit hQ c3 24 rfl) (fun x4 c5 => ?_)
    refine l1_many mt_X10_areLengths (pc' := bif am_cc .ne x4 0 then 148 else 132) (L' := [some (.ref 11)]) (st' := []) 1 rfl ?_
    refine l1_bin rfl ?_ ?_
    · refine l1_many mt_X10_areLengths (pc' := 133) (L' := [some (.ref 11)]) (st' := [.ref 11]) 1 rfl ?_
      refine l1_getR hQ mt_X10_areLengths rfl (o := 11) (ci := 9) (k := 2) (a := 0) (b := 1) rfl rfl rfl rfl rfl (q := 9) rfl ?_
      refine l1_many mt_X10_areLengths (pc' := 139) (L' := [some (.ref 11)]) (st' := [.ref 11, .int 24, .ref 9]) 2 rfl ?_
      refine l1_getI hQ mt_X10_areLengths rfl (o := 11) (ci := 9) (k := 12) (a := 0) (b := 0) rfl rfl rfl rfl rfl ?_
      refine l1_callV hQ mt_X10_areLengths mt_X6_tell rfl rfl (o := 9) (ci := 5) (As := [.int 24, .int (c5.1 11 12)]) (rest := []) rfl rfl rfl rfl rfl rfl (st1 := fun x6 => [.int x6]) (fun _ => rfl) (ok_X6_tell hQ c5 24 (c5.1 11 12)) (fun x6 c7 => ?_)
      refine l1_many mt_X10_areLengths (pc' := bif am_cc .eq x6 0 then 152 else 148) (L' := [some (.ref 11)]) (st' := []) 1 rfl ?_
      refine l1_bif rfl ?_ ?_
      · refine l1_many mt_X10_areLengths (pc' := 153) (L' := [some (.ref 11)]) (st' := [.int 0]) 1 rfl ?_
        exact l1_ret mt_X10_areLengths rfl rfl rfl
      · refine l1_many mt_X10_areLengths (pc' := 153) (L' := [some (.ref 11)]) (st' := [.int 1]) 2 rfl ?_
        exact l1_ret mt_X10_areLengths rfl rfl rfl
    · refine l1_many mt_X10_areLengths (pc' := 153) (L' := [some (.ref 11)]) (st' := [.int 1]) 2 rfl ?_
      exact l1_ret mt_X10_areLengths rfl rfl rfl
  · refine l1_many mt_X10_areLengths (pc' := 153) (L' := [some (.ref 11)]) (st' := [.int 1]) 2 rfl ?_
    exact l1_ret mt_X10_areLengths rfl rfl rfl
set_option maxRecDepth 100000 in
theorem ok_X10_areLengths_7 {Q : hS → am_H → Prop} (hQ : l1_em kc Q) (N : Nat) : ∀ n : Nat, ∀ (c : hS) (v1 : Int32), l1_G (wN wI) Q am_i_X10_areLengths 7 [some (.ref 11), some (.int v1)] [] c (f_X10_areLengths_7 N n c v1) := by
  intro n
  induction n with
  | zero => intro c v1; exact l1_none
  | succ n ih =>
    intro c v1
    rw [f_X10_areLengths_7]
    refine l1_many mt_X10_areLengths (pc' := 9) (L' := [some (.ref 11), some (.int v1)]) (st' := [.ref 11, .int v1]) 2 rfl ?_
    refine l1_getR hQ mt_X10_areLengths rfl (o := 11) (ci := 9) (k := 8) (a := 0) (b := 1) rfl rfl rfl rfl rfl (q := 32) rfl ?_
    refine l1_len hQ mt_X10_areLengths rfl (o := 32) (ci := 20) rfl rfl rfl ?_
    refine l1_many mt_X10_areLengths (pc' := bif am_cc .ge v1 (Int32.ofNat (ln 32)) then 88 else 16) (L' := [some (.ref 11), some (.int v1)]) (st' := []) 1 rfl ?_
    refine l1_bif rfl ?_ ?_
    · refine l1_weak (m := [true, false, false, false]) (L' := [some (.ref 11)]) rfl ?_
      exact ok_X10_areLengths_88 hQ N c
    · refine l1_many mt_X10_areLengths (pc' := 17) (L' := [some (.ref 11), some (.int v1)]) (st' := [.ref 11]) 1 rfl ?_
      refine l1_getI hQ mt_X10_areLengths rfl (o := 11) (ci := 9) (k := 15) (a := 0) (b := 0) rfl rfl rfl rfl rfl ?_
      refine l1_many mt_X10_areLengths (pc' := 21) (L' := [some (.ref 11), some (.int v1)]) (st' := [.ref 11, .int (c.1 11 15)]) 1 rfl ?_
      refine l1_getI hQ mt_X10_areLengths rfl (o := 11) (ci := 9) (k := 14) (a := 0) (b := 0) rfl rfl rfl rfl rfl ?_
      refine l1_many mt_X10_areLengths (pc' := bif am_cc .ge (c.1 11 15) (c.1 11 14) then 88 else 27) (L' := [some (.ref 11), some (.int v1)]) (st' := []) 1 rfl ?_
      refine l1_bif rfl ?_ ?_
      · refine l1_weak (m := [true, false, false, false]) (L' := [some (.ref 11)]) rfl ?_
        exact ok_X10_areLengths_88 hQ N c
      · refine l1_many mt_X10_areLengths (pc' := 28) (L' := [some (.ref 11), some (.int v1)]) (st' := [.ref 11]) 1 rfl ?_
        refine l1_getI hQ mt_X10_areLengths rfl (o := 11) (ci := 9) (k := 15) (a := 0) (b := 0) rfl rfl rfl rfl rfl ?_
        refine l1_many mt_X10_areLengths (pc' := 34) (L' := [some (.ref 11), some (.int v1), some (.int (c.1 11 15))]) (st' := [.ref 11, .ref 11]) 3 rfl ?_
        refine l1_getR hQ mt_X10_areLengths rfl (o := 11) (ci := 9) (k := 7) (a := 0) (b := 1) rfl rfl rfl rfl rfl (q := 28) rfl ?_
        refine l1_many mt_X10_areLengths (pc' := 38) (L' := [some (.ref 11), some (.int v1), some (.int (c.1 11 15))]) (st' := [.ref 11, .ref 28, .ref 11]) 1 rfl ?_
        refine l1_getI hQ mt_X10_areLengths rfl (o := 11) (ci := 9) (k := 12) (a := 0) (b := 0) rfl rfl rfl rfl rfl ?_
        refine l1_callV hQ mt_X10_areLengths mt_X10_takeSymbol rfl rfl (o := 11) (ci := 9) (As := [.ref 28, .int (c.1 11 12)]) (rest := []) rfl rfl rfl rfl rfl rfl (st1 := fun x1 => [.int x1]) (fun _ => rfl) (ok_X10_takeSymbol hQ N c 28 (c.1 11 12) rfl) (fun x1 c2 => ?_)
        refine l1_many mt_X10_areLengths (pc' := bif am_cc .eq x1 (-1) then 58 else 50) (L' := [some (.ref 11), some (.int v1), some (.int (c.1 11 15)), some (.int x1)]) (st' := []) 4 rfl ?_
        refine l1_bif rfl ?_ ?_
        · refine l1_many mt_X10_areLengths (pc' := 59) (L' := [some (.ref 11), some (.int v1), some (.int (c.1 11 15)), some (.int x1)]) (st' := [.int 0]) 1 rfl ?_
          exact l1_ret mt_X10_areLengths rfl rfl rfl
        · refine l1_many mt_X10_areLengths (pc' := 52) (L' := [some (.ref 11), some (.int v1), some (.int (c.1 11 15)), some (.int x1)]) (st' := [.int x1, .ref 11]) 2 rfl ?_
          refine l1_callV hQ mt_X10_areLengths mt_X10_isRepeated rfl rfl (o := 11) (ci := 9) (As := [.int x1]) (rest := []) rfl rfl rfl rfl rfl rfl (st1 := fun x3 => [.int x3]) (fun _ => rfl) (ok_X10_isRepeated hQ N c2 x1) (fun x3 c4 => ?_)
          refine l1_many mt_X10_areLengths (pc' := bif am_cc .ne x3 0 then 60 else 58) (L' := [some (.ref 11), some (.int v1), some (.int (c.1 11 15)), some (.int x1)]) (st' := []) 1 rfl ?_
          refine l1_bin rfl ?_ ?_
          · refine l1_many mt_X10_areLengths (pc' := 59) (L' := [some (.ref 11), some (.int v1), some (.int (c.1 11 15)), some (.int x1)]) (st' := [.int 0]) 1 rfl ?_
            exact l1_ret mt_X10_areLengths rfl rfl rfl
          · refine l1_many mt_X10_areLengths (pc' := 62) (L' := [some (.ref 11), some (.int v1), some (.int (c.1 11 15)), some (.int x1)]) (st' := [.int (c.1 11 15), .ref 11]) 2 rfl ?_
            refine l1_callV hQ mt_X10_areLengths mt_X10_areSymbolLengths rfl rfl (o := 11) (ci := 9) (As := [.int (c.1 11 15)]) (rest := []) rfl rfl rfl rfl rfl rfl (st1 := fun x5 => [.int x5]) (fun _ => rfl) (ok_X10_areSymbolLengths hQ N c4 (c.1 11 15)) (fun x5 c6 => ?_)
            refine l1_many mt_X10_areLengths (pc' := bif am_cc .ne x5 0 then 82 else 68) (L' := [some (.ref 11), some (.int v1), some (.int (c.1 11 15)), some (.int x1)]) (st' := []) 1 rfl ?_
            refine l1_bin rfl ?_ ?_
            · refine l1_many mt_X10_areLengths (pc' := 69) (L' := [some (.ref 11), some (.int v1), some (.int (c.1 11 15)), some (.int x1)]) (st' := [.ref 11]) 1 rfl ?_
              refine l1_getR hQ mt_X10_areLengths rfl (o := 11) (ci := 9) (k := 2) (a := 0) (b := 1) rfl rfl rfl rfl rfl (q := 9) rfl ?_
              refine l1_many mt_X10_areLengths (pc' := 75) (L' := [some (.ref 11), some (.int v1), some (.int (c.1 11 15)), some (.int x1)]) (st' := [.ref 11, .int 24, .ref 9]) 2 rfl ?_
              refine l1_getI hQ mt_X10_areLengths rfl (o := 11) (ci := 9) (k := 12) (a := 0) (b := 0) rfl rfl rfl rfl rfl ?_
              refine l1_callV hQ mt_X10_areLengths mt_X6_tell rfl rfl (o := 9) (ci := 5) (As := [.int 24, .int (c6.1 11 12)]) (rest := []) rfl rfl rfl rfl rfl rfl (st1 := fun x7 => [.int x7]) (fun _ => rfl) (ok_X6_tell hQ c6 24 (c6.1 11 12)) (fun x7 c8 => ?_)
              refine l1_ck (fun hz => ?_)
              exact l1_retZ mt_X10_areLengths rfl rfl rfl hz
            · refine l1_many mt_X10_areLengths (pc' := 7) (L' := [some (.ref 11), some (.int (v1 + 1)), some (.int (c.1 11 15)), some (.int x1)]) (st' := []) 2 rfl ?_
              refine l1_weak (m := [true, true, false, false]) (L' := [some (.ref 11), some (.int (v1 + 1))]) rfl ?_
              exact ih c6 (v1 + 1)
set_option maxRecDepth 100000 in
theorem en_X10_areLengths {Q : hS → am_H → Prop} (hQ : l1_em kc Q) (N : Nat) (c : hS) : l1_G (wN wI) Q am_i_X10_areLengths 0 [some (.ref 11)] [] c (f_X10_areLengths N c) := by
  rw [f_X10_areLengths]
  refine l1_many mt_X10_areLengths (pc' := 2) (L' := [some (.ref 11)]) (st' := [.int 0, .ref 11]) 2 rfl ?_
  refine l1_putI hQ mt_X10_areLengths rfl (o := 11) (ci := 9) (k := 15) (a := 0) rfl rfl rfl rfl rfl rfl (fun c1 => ?_)
  refine l1_many mt_X10_areLengths (pc' := 7) (L' := [some (.ref 11), some (.int 0)]) (st' := []) 2 rfl ?_
  exact ok_X10_areLengths_7 hQ N N c1 0
theorem ok_X10_areLengths {Q : hS → am_H → Prop} (hQ : l1_em kc Q) (N : Nat) (c : hS) : l1_T wI Q am_i_X10_areLengths [.ref 11] c (f_X10_areLengths N c) := l1_of (en_X10_areLengths hQ N c) ⟨rfl, trivial⟩
set_option maxRecDepth 100000 in
theorem en_X11_distanceBits {Q : hS → am_H → Prop} (hQ : l1_em kc Q) (c : hS) (p0 : Int32) : l1_G (wN wI) Q am_i_X11_distanceBits 0 [some (.int p0)] [] c (f_X11_distanceBits c p0) := by
  rw [f_X11_distanceBits]
  refine l1_many mt_X11_distanceBits (pc' := bif am_cc .ge p0 4 then 9 else 5) (L' := [some (.int p0)]) (st' := []) 3 rfl ?_
  refine l1_bif rfl ?_ ?_
  · refine l1_many mt_X11_distanceBits (pc' := 14) (L' := [some (.int p0)]) (st' := [.int (j_shr (p0 - 2) 1)]) 5 rfl ?_
    exact l1_ret mt_X11_distanceBits rfl rfl rfl
  · refine l1_many mt_X11_distanceBits (pc' := 14) (L' := [some (.int p0)]) (st' := [.int 0]) 2 rfl ?_
    exact l1_ret mt_X11_distanceBits rfl rfl rfl
theorem ok_X11_distanceBits {Q : hS → am_H → Prop} (hQ : l1_em kc Q) (c : hS) (p0 : Int32) : l1_T wI Q am_i_X11_distanceBits [.int p0] c (f_X11_distanceBits c p0) := l1_of (en_X11_distanceBits hQ c p0) ⟨rfl, trivial⟩
set_option maxRecDepth 100000 in
theorem en_X11_distanceBase {Q : hS → am_H → Prop} (hQ : l1_em kc Q) (c : hS) (p0 : Int32) : l1_G (wN wI) Q am_i_X11_distanceBase 0 [some (.int p0)] [] c (f_X11_distanceBase c p0) := by
  rw [f_X11_distanceBase]
  refine l1_many mt_X11_distanceBase (pc' := bif am_cc .ge p0 4 then 11 else 5) (L' := [some (.int p0)]) (st' := []) 3 rfl ?_
  refine l1_bif rfl ?_ ?_
  · refine l1_many mt_X11_distanceBase (pc' := 17) (L' := [some (.int p0)]) (st' := [.int p0, .int (2 + (p0 &&& 1))]) 6 rfl ?_
    refine l1_callS mt_X11_distanceBase mt_X11_distanceBits rfl rfl (As := [.int p0]) (rest := [.int (2 + (p0 &&& 1))]) rfl rfl rfl (st1 := fun x1 => [.int x1, .int (2 + (p0 &&& 1))]) (fun _ => rfl) (ok_X11_distanceBits hQ c p0) (fun x1 c2 => ?_)
    refine l1_many mt_X11_distanceBase (pc' := 23) (L' := [some (.int p0)]) (st' := [.int ((j_shl (2 + (p0 &&& 1)) x1) + 1)]) 3 rfl ?_
    exact l1_ret mt_X11_distanceBase rfl rfl rfl
  · refine l1_many mt_X11_distanceBase (pc' := 23) (L' := [some (.int p0)]) (st' := [.int (1 + p0)]) 4 rfl ?_
    exact l1_ret mt_X11_distanceBase rfl rfl rfl
theorem ok_X11_distanceBase {Q : hS → am_H → Prop} (hQ : l1_em kc Q) (c : hS) (p0 : Int32) : l1_T wI Q am_i_X11_distanceBase [.int p0] c (f_X11_distanceBase c p0) := l1_of (en_X11_distanceBase hQ c p0) ⟨rfl, trivial⟩
set_option maxRecDepth 100000 in
theorem en_X11_lengthBits {Q : hS → am_H → Prop} (hQ : l1_em kc Q) (c : hS) (p0 : Int32) : l1_G (wN wI) Q am_i_X11_lengthBits 0 [some (.int p0)] [] c (f_X11_lengthBits c p0) := by
  rw [f_X11_lengthBits]
  refine l1_many mt_X11_lengthBits (pc' := bif am_cc .lt p0 8 then 12 else 6) (L' := [some (.int p0)]) (st' := []) 3 rfl ?_
  refine l1_bif rfl ?_ ?_
  · refine l1_many mt_X11_lengthBits (pc' := 21) (L' := [some (.int p0)]) (st' := [.int 0]) 2 rfl ?_
    exact l1_ret mt_X11_lengthBits rfl rfl rfl
  · refine l1_many mt_X11_lengthBits (pc' := bif am_cc .ne p0 28 then 16 else 12) (L' := [some (.int p0)]) (st' := []) 3 rfl ?_
    refine l1_bin rfl ?_ ?_
    · refine l1_many mt_X11_lengthBits (pc' := 21) (L' := [some (.int p0)]) (st' := [.int 0]) 2 rfl ?_
      exact l1_ret mt_X11_lengthBits rfl rfl rfl
    · refine l1_many mt_X11_lengthBits (pc' := 21) (L' := [some (.int p0)]) (st' := [.int (j_shr (p0 - 4) 2)]) 5 rfl ?_
      exact l1_ret mt_X11_lengthBits rfl rfl rfl
theorem ok_X11_lengthBits {Q : hS → am_H → Prop} (hQ : l1_em kc Q) (c : hS) (p0 : Int32) : l1_T wI Q am_i_X11_lengthBits [.int p0] c (f_X11_lengthBits c p0) := l1_of (en_X11_lengthBits hQ c p0) ⟨rfl, trivial⟩
set_option maxRecDepth 100000 in
theorem en_X11_lengthBase {Q : hS → am_H → Prop} (hQ : l1_em kc Q) (c : hS) (p0 : Int32) : l1_G (wN wI) Q am_i_X11_lengthBase 0 [some (.int p0)] [] c (f_X11_lengthBase c p0) := by
  rw [f_X11_lengthBase]
  refine l1_many mt_X11_lengthBase (pc' := bif am_cc .ne p0 28 then 10 else 6) (L' := [some (.int p0)]) (st' := []) 3 rfl ?_
  refine l1_bin rfl ?_ ?_
  · refine l1_many mt_X11_lengthBase (pc' := 9) (L' := [some (.int p0)]) (st' := [.int 258]) 1 rfl ?_
    exact l1_ret mt_X11_lengthBase rfl rfl rfl
  · refine l1_many mt_X11_lengthBase (pc' := bif am_cc .ge p0 8 then 22 else 16) (L' := [some (.int p0)]) (st' := []) 3 rfl ?_
    refine l1_bif rfl ?_ ?_
    · refine l1_many mt_X11_lengthBase (pc' := 28) (L' := [some (.int p0)]) (st' := [.int p0, .int (4 + (p0 &&& 3))]) 6 rfl ?_
      refine l1_callS mt_X11_lengthBase mt_X11_lengthBits rfl rfl (As := [.int p0]) (rest := [.int (4 + (p0 &&& 3))]) rfl rfl rfl (st1 := fun x1 => [.int x1, .int (4 + (p0 &&& 3))]) (fun _ => rfl) (ok_X11_lengthBits hQ c p0) (fun x1 c2 => ?_)
      refine l1_many mt_X11_lengthBase (pc' := 34) (L' := [some (.int p0)]) (st' := [.int ((j_shl (4 + (p0 &&& 3)) x1) + 3)]) 3 rfl ?_
      exact l1_ret mt_X11_lengthBase rfl rfl rfl
    · refine l1_many mt_X11_lengthBase (pc' := 34) (L' := [some (.int p0)]) (st' := [.int (3 + p0)]) 4 rfl ?_
      exact l1_ret mt_X11_lengthBase rfl rfl rfl
theorem ok_X11_lengthBase {Q : hS → am_H → Prop} (hQ : l1_em kc Q) (c : hS) (p0 : Int32) : l1_T wI Q am_i_X11_lengthBase [.int p0] c (f_X11_lengthBase c p0) := l1_of (en_X11_lengthBase hQ c p0) ⟨rfl, trivial⟩
end
section
/-! THAT THE MACHINE FOLLOWS THEM, printed by gen_l1.py -/
set_option maxRecDepth 100000 in
theorem ok_X10_isCopied_144 {Q : hS → am_H → Prop} (hQ : l1_em kc Q) (N : Nat) (p1 : Int32) (p2 : Nat) (p3 : Int32) (hp2 : kc p2 = 2) : ∀ n : Nat, ∀ (c : hS) (v7 : Int32) (v8 : Int32) (v9 : Int32), l1_G (wN wI) Q am_i_X10_isCopied 144 [some (.ref 11), none, none, none, none, none, none, some (.int v7), some (.int v8), some (.int v9)] [] c (f_X10_isCopied_144 N p1 p2 p3 n c v7 v8 v9) := by
  intro n
  induction n with
  | zero => intro c v7 v8 v9; exact l1_none
  | succ n ih =>
    intro c v7 v8 v9
    rw [f_X10_isCopied_144]
    refine l1_many mt_X10_isCopied (pc' := bif am_cc .ge v9 v7 then 181 else 151) (L' := [some (.ref 11), none, none, none, none, none, none, some (.int v7), some (.int v8), some (.int v9)]) (st' := []) 3 rfl ?_
    refine l1_bif rfl ?_ ?_
    · refine l1_many mt_X10_isCopied (pc' := 182) (L' := [some (.ref 11), none, none, none, none, none, none, some (.int v7), some (.int v8), some (.int v9)]) (st' := [.int 1]) 1 rfl ?_
      exact l1_ret mt_X10_isCopied rfl rfl rfl
    · refine l1_many mt_X10_isCopied (pc' := 152) (L' := [some (.ref 11), none, none, none, none, none, none, some (.int v7), some (.int v8), some (.int v9)]) (st' := [.ref 11]) 1 rfl ?_
      refine l1_getR hQ mt_X10_isCopied rfl (o := 11) (ci := 9) (k := 1) (a := 0) (b := 1) rfl rfl rfl rfl rfl (q := 7) rfl ?_
      refine l1_many mt_X10_isCopied (pc' := 156) (L' := [some (.ref 11), none, none, none, none, none, none, some (.int v7), some (.int v8), some (.int v9)]) (st' := [.ref 11, .ref 7]) 1 rfl ?_
      refine l1_getR hQ mt_X10_isCopied rfl (o := 11) (ci := 9) (k := 1) (a := 0) (b := 1) rfl rfl rfl rfl rfl (q := 7) rfl ?_
      refine l1_many mt_X10_isCopied (pc' := 160) (L' := [some (.ref 11), none, none, none, none, none, none, some (.int v7), some (.int v8), some (.int v9)]) (st' := [.ref 11, .ref 7, .ref 7]) 1 rfl ?_
      refine l1_getR hQ mt_X10_isCopied rfl (o := 11) (ci := 9) (k := 1) (a := 0) (b := 1) rfl rfl rfl rfl rfl (q := 7) rfl ?_
      refine l1_callV hQ mt_X10_isCopied mt_X2_size rfl rfl (o := 7) (ci := 1) (As := []) (rest := [.ref 7, .ref 7]) rfl rfl rfl rfl rfl rfl (st1 := fun x1 => [.int x1, .ref 7, .ref 7]) (fun _ => rfl) (ok_X2_size hQ c 7 rfl) (fun x1 c2 => ?_)
      refine l1_many mt_X10_isCopied (pc' := 169) (L' := [some (.ref 11), none, none, none, none, none, none, some (.int v7), some (.int v8), some (.int v9)]) (st' := [.int (x1 - v8), .ref 7, .ref 7]) 2 rfl ?_
      refine l1_callV hQ mt_X10_isCopied mt_X2_get rfl rfl (o := 7) (ci := 1) (As := [.int (x1 - v8)]) (rest := [.ref 7]) rfl rfl rfl rfl rfl rfl (st1 := fun x3 => [.int x3, .ref 7]) (fun _ => rfl) (ok_X2_get hQ c2 7 (x1 - v8) rfl) (fun x3 c4 => ?_)
      refine l1_callV hQ mt_X10_isCopied mt_X2_add rfl rfl (o := 7) (ci := 1) (As := [.int x3]) (rest := []) rfl rfl rfl rfl rfl rfl (st1 := fun _ => []) (fun _ => rfl) (ok_X2_add hQ c4 7 x3 rfl) (fun _ c5 => ?_)
      refine l1_many mt_X10_isCopied (pc' := 144) (L' := [some (.ref 11), none, none, none, none, none, none, some (.int v7), some (.int v8), some (.int (v9 + 1))]) (st' := []) 2 rfl ?_
      exact ih c5 v7 v8 (v9 + 1)
set_option maxRecDepth 100000 in
theorem en_X10_isCopied {Q : hS → am_H → Prop} (hQ : l1_em kc Q) (N : Nat) (c : hS) (p1 : Int32) (p2 : Nat) (p3 : Int32) (hp2 : kc p2 = 2) : l1_G (wN wI) Q am_i_X10_isCopied 0 [some (.ref 11), some (.int p1), some (.ref p2), some (.int p3)] [] c (f_X10_isCopied N c p1 p2 p3) := by
  rw [f_X10_isCopied]
  refine l1_many mt_X10_isCopied (pc' := 2) (L' := [some (.ref 11), some (.int p1), some (.ref p2), some (.int p3)]) (st' := [.int p1, .ref 11]) 2 rfl ?_
  refine l1_callS mt_X10_isCopied mt_X11_lengthBits rfl rfl (As := [.int p1]) (rest := [.ref 11]) rfl rfl rfl (st1 := fun x1 => [.int x1, .ref 11]) (fun _ => rfl) (ok_X11_lengthBits hQ c p1) (fun x1 c2 => ?_)
  refine l1_callV hQ mt_X10_isCopied mt_X10_takeBits rfl rfl (o := 11) (ci := 9) (As := [.int x1]) (rest := []) rfl rfl rfl rfl rfl rfl (st1 := fun x3 => [.int x3]) (fun _ => rfl) (ok_X10_takeBits hQ N c2 x1) (fun x3 c4 => ?_)
  refine l1_many mt_X10_isCopied (pc' := bif am_cc .ne x3 (-1) then 18 else 16) (L' := [some (.ref 11), some (.int p1), some (.ref p2), some (.int p3), some (.int x3)]) (st' := []) 4 rfl ?_
  refine l1_bin rfl ?_ ?_
  · refine l1_many mt_X10_isCopied (pc' := 17) (L' := [some (.ref 11), some (.int p1), some (.ref p2), some (.int p3), some (.int x3)]) (st' := [.int 0]) 1 rfl ?_
    exact l1_ret mt_X10_isCopied rfl rfl rfl
  · refine l1_many mt_X10_isCopied (pc' := 21) (L' := [some (.ref 11), some (.int p1), some (.ref p2), some (.int p3), some (.int x3)]) (st' := [.int p3, .ref p2, .ref 11]) 3 rfl ?_
    refine l1_callV hQ mt_X10_isCopied mt_X10_takeSymbol rfl rfl (o := 11) (ci := 9) (As := [.ref p2, .int p3]) (rest := []) rfl rfl rfl rfl rfl rfl (st1 := fun x5 => [.int x5]) (fun _ => rfl) (ok_X10_takeSymbol hQ N c4 p2 p3 hp2) (fun x5 c6 => ?_)
    refine l1_many mt_X10_isCopied (pc' := bif am_cc .ne x5 (-1) then 34 else 32) (L' := [some (.ref 11), some (.int p1), some (.ref p2), some (.int p3), some (.int x3), some (.int x5)]) (st' := []) 4 rfl ?_
    refine l1_bin rfl ?_ ?_
    · refine l1_many mt_X10_isCopied (pc' := 33) (L' := [some (.ref 11), some (.int p1), some (.ref p2), some (.int p3), some (.int x3), some (.int x5)]) (st' := [.int 0]) 1 rfl ?_
      exact l1_ret mt_X10_isCopied rfl rfl rfl
    · refine l1_many mt_X10_isCopied (pc' := bif am_cc .le x5 29 then 52 else 41) (L' := [some (.ref 11), some (.int p1), some (.ref p2), some (.int p3), some (.int x3), some (.int x5)]) (st' := []) 3 rfl ?_
      refine l1_bif rfl ?_ ?_
      · refine l1_many mt_X10_isCopied (pc' := 55) (L' := [some (.ref 11), some (.int p1), some (.ref p2), some (.int p3), some (.int x3), some (.int x5)]) (st' := [.int x5, .ref 11]) 2 rfl ?_
        refine l1_callS mt_X10_isCopied mt_X11_distanceBits rfl rfl (As := [.int x5]) (rest := [.ref 11]) rfl rfl rfl (st1 := fun x7 => [.int x7, .ref 11]) (fun _ => rfl) (ok_X11_distanceBits hQ c6 x5) (fun x7 c8 => ?_)
        refine l1_callV hQ mt_X10_isCopied mt_X10_takeBits rfl rfl (o := 11) (ci := 9) (As := [.int x7]) (rest := []) rfl rfl rfl rfl rfl rfl (st1 := fun x9 => [.int x9]) (fun _ => rfl) (ok_X10_takeBits hQ N c8 x7) (fun x9 c10 => ?_)
        refine l1_many mt_X10_isCopied (pc' := bif am_cc .ne x9 (-1) then 71 else 69) (L' := [some (.ref 11), some (.int p1), some (.ref p2), some (.int p3), some (.int x3), some (.int x5), some (.int x9)]) (st' := []) 4 rfl ?_
        refine l1_bin rfl ?_ ?_
        · refine l1_many mt_X10_isCopied (pc' := 70) (L' := [some (.ref 11), some (.int p1), some (.ref p2), some (.int p3), some (.int x3), some (.int x5), some (.int x9)]) (st' := [.int 0]) 1 rfl ?_
          exact l1_ret mt_X10_isCopied rfl rfl rfl
        · refine l1_many mt_X10_isCopied (pc' := 72) (L' := [some (.ref 11), some (.int p1), some (.ref p2), some (.int p3), some (.int x3), some (.int x5), some (.int x9)]) (st' := [.int p1]) 1 rfl ?_
          refine l1_callS mt_X10_isCopied mt_X11_lengthBase rfl rfl (As := [.int p1]) (rest := []) rfl rfl rfl (st1 := fun x11 => [.int x11]) (fun _ => rfl) (ok_X11_lengthBase hQ c10 p1) (fun x11 c12 => ?_)
          refine l1_many mt_X10_isCopied (pc' := 82) (L' := [some (.ref 11), some (.int p1), some (.ref p2), some (.int p3), some (.int x3), some (.int x5), some (.int x9), some (.int (x11 + x3))]) (st' := [.int x5]) 4 rfl ?_
          refine l1_callS mt_X10_isCopied mt_X11_distanceBase rfl rfl (As := [.int x5]) (rest := []) rfl rfl rfl (st1 := fun x13 => [.int x13]) (fun _ => rfl) (ok_X11_distanceBase hQ c12 x5) (fun x13 c14 => ?_)
          refine l1_many mt_X10_isCopied (pc' := 93) (L' := [some (.ref 11), some (.int p1), some (.ref p2), some (.int p3), some (.int x3), some (.int x5), some (.int x9), some (.int (x11 + x3)), some (.int (x13 + x9))]) (st' := [.ref 11, .int (x13 + x9)]) 5 rfl ?_
          refine l1_getR hQ mt_X10_isCopied rfl (o := 11) (ci := 9) (k := 1) (a := 0) (b := 1) rfl rfl rfl rfl rfl (q := 7) rfl ?_
          refine l1_callV hQ mt_X10_isCopied mt_X2_size rfl rfl (o := 7) (ci := 1) (As := []) (rest := [.int (x13 + x9)]) rfl rfl rfl rfl rfl rfl (st1 := fun x15 => [.int x15, .int (x13 + x9)]) (fun _ => rfl) (ok_X2_size hQ c14 7 rfl) (fun x15 c16 => ?_)
          refine l1_many mt_X10_isCopied (pc' := bif am_cc .le (x13 + x9) x15 then 113 else 102) (L' := [some (.ref 11), some (.int p1), some (.ref p2), some (.int p3), some (.int x3), some (.int x5), some (.int x9), some (.int (x11 + x3)), some (.int (x13 + x9))]) (st' := []) 1 rfl ?_
          refine l1_bif rfl ?_ ?_
          · refine l1_many mt_X10_isCopied (pc' := 114) (L' := [some (.ref 11), some (.int p1), some (.ref p2), some (.int p3), some (.int x3), some (.int x5), some (.int x9), some (.int (x11 + x3)), some (.int (x13 + x9))]) (st' := [.ref 11]) 1 rfl ?_
            refine l1_getR hQ mt_X10_isCopied rfl (o := 11) (ci := 9) (k := 1) (a := 0) (b := 1) rfl rfl rfl rfl rfl (q := 7) rfl ?_
            refine l1_callV hQ mt_X10_isCopied mt_X2_size rfl rfl (o := 7) (ci := 1) (As := []) (rest := []) rfl rfl rfl rfl rfl rfl (st1 := fun x17 => [.int x17]) (fun _ => rfl) (ok_X2_size hQ c16 7 rfl) (fun x17 c18 => ?_)
            refine l1_many mt_X10_isCopied (pc' := 124) (L' := [some (.ref 11), some (.int p1), some (.ref p2), some (.int p3), some (.int x3), some (.int x5), some (.int x9), some (.int (x11 + x3)), some (.int (x13 + x9))]) (st' := [.ref 11, .int (x17 + (x11 + x3))]) 3 rfl ?_
            refine l1_getI hQ mt_X10_isCopied rfl (o := 11) (ci := 9) (k := 11) (a := 0) (b := 0) rfl rfl rfl rfl rfl ?_
            refine l1_many mt_X10_isCopied (pc' := bif am_cc .le (x17 + (x11 + x3)) (c18.1 11 11) then 141 else 130) (L' := [some (.ref 11), some (.int p1), some (.ref p2), some (.int p3), some (.int x3), some (.int x5), some (.int x9), some (.int (x11 + x3)), some (.int (x13 + x9))]) (st' := []) 1 rfl ?_
            refine l1_bif rfl ?_ ?_
            · refine l1_many mt_X10_isCopied (pc' := 144) (L' := [some (.ref 11), some (.int p1), some (.ref p2), some (.int p3), some (.int x3), some (.int x5), some (.int x9), some (.int (x11 + x3)), some (.int (x13 + x9)), some (.int 0)]) (st' := []) 2 rfl ?_
              refine l1_weak (m := [true, false, false, false, false, false, false, true, true, true]) (L' := [some (.ref 11), none, none, none, none, none, none, some (.int (x11 + x3)), some (.int (x13 + x9)), some (.int 0)]) rfl ?_
              exact ok_X10_isCopied_144 hQ N p1 p2 p3 hp2 N c18 (x11 + x3) (x13 + x9) 0
            · refine l1_many mt_X10_isCopied (pc' := 131) (L' := [some (.ref 11), some (.int p1), some (.ref p2), some (.int p3), some (.int x3), some (.int x5), some (.int x9), some (.int (x11 + x3)), some (.int (x13 + x9))]) (st' := [.ref 11]) 1 rfl ?_
              refine l1_getR hQ mt_X10_isCopied rfl (o := 11) (ci := 9) (k := 2) (a := 0) (b := 1) rfl rfl rfl rfl rfl (q := 9) rfl ?_
              refine l1_many mt_X10_isCopied (pc' := 137) (L' := [some (.ref 11), some (.int p1), some (.ref p2), some (.int p3), some (.int x3), some (.int x5), some (.int x9), some (.int (x11 + x3)), some (.int (x13 + x9))]) (st' := [.int p3, .int 23, .ref 9]) 2 rfl ?_
              refine l1_callV hQ mt_X10_isCopied mt_X6_tell rfl rfl (o := 9) (ci := 5) (As := [.int 23, .int p3]) (rest := []) rfl rfl rfl rfl rfl rfl (st1 := fun x19 => [.int x19]) (fun _ => rfl) (ok_X6_tell hQ c18 23 p3) (fun x19 c20 => ?_)
              refine l1_ck (fun hz => ?_)
              exact l1_retZ mt_X10_isCopied rfl rfl rfl hz
          · refine l1_many mt_X10_isCopied (pc' := 103) (L' := [some (.ref 11), some (.int p1), some (.ref p2), some (.int p3), some (.int x3), some (.int x5), some (.int x9), some (.int (x11 + x3)), some (.int (x13 + x9))]) (st' := [.ref 11]) 1 rfl ?_
            refine l1_getR hQ mt_X10_isCopied rfl (o := 11) (ci := 9) (k := 2) (a := 0) (b := 1) rfl rfl rfl rfl rfl (q := 9) rfl ?_
            refine l1_many mt_X10_isCopied (pc' := 109) (L' := [some (.ref 11), some (.int p1), some (.ref p2), some (.int p3), some (.int x3), some (.int x5), some (.int x9), some (.int (x11 + x3)), some (.int (x13 + x9))]) (st' := [.int p3, .int 26, .ref 9]) 2 rfl ?_
            refine l1_callV hQ mt_X10_isCopied mt_X6_tell rfl rfl (o := 9) (ci := 5) (As := [.int 26, .int p3]) (rest := []) rfl rfl rfl rfl rfl rfl (st1 := fun x21 => [.int x21]) (fun _ => rfl) (ok_X6_tell hQ c16 26 p3) (fun x21 c22 => ?_)
            refine l1_ck (fun hz => ?_)
            exact l1_retZ mt_X10_isCopied rfl rfl rfl hz
      · refine l1_many mt_X10_isCopied (pc' := 42) (L' := [some (.ref 11), some (.int p1), some (.ref p2), some (.int p3), some (.int x3), some (.int x5)]) (st' := [.ref 11]) 1 rfl ?_
        refine l1_getR hQ mt_X10_isCopied rfl (o := 11) (ci := 9) (k := 2) (a := 0) (b := 1) rfl rfl rfl rfl rfl (q := 9) rfl ?_
        refine l1_many mt_X10_isCopied (pc' := 48) (L' := [some (.ref 11), some (.int p1), some (.ref p2), some (.int p3), some (.int x3), some (.int x5)]) (st' := [.int p3, .int 25, .ref 9]) 2 rfl ?_
        refine l1_callV hQ mt_X10_isCopied mt_X6_tell rfl rfl (o := 9) (ci := 5) (As := [.int 25, .int p3]) (rest := []) rfl rfl rfl rfl rfl rfl (st1 := fun x23 => [.int x23]) (fun _ => rfl) (ok_X6_tell hQ c6 25 p3) (fun x23 c24 => ?_)
        refine l1_ck (fun hz => ?_)
        exact l1_retZ mt_X10_isCopied rfl rfl rfl hz
theorem ok_X10_isCopied {Q : hS → am_H → Prop} (hQ : l1_em kc Q) (N : Nat) (c : hS) (p1 : Int32) (p2 : Nat) (p3 : Int32) (hp2 : kc p2 = 2) : l1_T wI Q am_i_X10_isCopied [.ref 11, .int p1, .ref p2, .int p3] c (f_X10_isCopied N c p1 p2 p3) := l1_of (en_X10_isCopied hQ N c p1 p2 p3 hp2) ⟨rfl, rfl, rfl, rfl, trivial⟩
set_option maxRecDepth 100000 in
theorem ok_X10_areSymbols_2 {Q : hS → am_H → Prop} (hQ : l1_em kc Q) (N : Nat) (p1 : Nat) (p2 : Nat) (hp1 : kc p1 = 2) (hp2 : kc p2 = 2) : ∀ n : Nat, ∀ (c : hS) (v3 : Int32), l1_G (wN wI) Q am_i_X10_areSymbols 2 [some (.ref 11), some (.ref p1), some (.ref p2), some (.int v3)] [] c (f_X10_areSymbols_2 N p1 p2 n c v3) := by
  intro n
  induction n with
  | zero => intro c v3; exact l1_none
  | succ n ih =>
    intro c v3
    rw [f_X10_areSymbols_2]
    refine l1_many mt_X10_areSymbols (pc' := bif am_cc .gt v3 160000 then 132 else 8) (L' := [some (.ref 11), some (.ref p1), some (.ref p2), some (.int v3)]) (st' := []) 3 rfl ?_
    refine l1_bif rfl ?_ ?_
    · refine l1_many mt_X10_areSymbols (pc' := 133) (L' := [some (.ref 11), some (.ref p1), some (.ref p2), some (.int v3)]) (st' := [.int 0]) 1 rfl ?_
      exact l1_ret mt_X10_areSymbols rfl rfl rfl
    · refine l1_many mt_X10_areSymbols (pc' := 9) (L' := [some (.ref 11), some (.ref p1), some (.ref p2), some (.int v3)]) (st' := [.ref 11]) 1 rfl ?_
      refine l1_getI hQ mt_X10_areSymbols rfl (o := 11) (ci := 9) (k := 9) (a := 0) (b := 0) rfl rfl rfl rfl rfl ?_
      refine l1_many mt_X10_areSymbols (pc' := 20) (L' := [some (.ref 11), some (.ref p1), some (.ref p2), some (.int v3), some (.int (j_shr (c.1 11 9) 3))]) (st' := [.int (j_shr (c.1 11 9) 3), .ref p1, .ref 11]) 6 rfl ?_
      refine l1_callV hQ mt_X10_areSymbols mt_X10_takeSymbol rfl rfl (o := 11) (ci := 9) (As := [.ref p1, .int (j_shr (c.1 11 9) 3)]) (rest := []) rfl rfl rfl rfl rfl rfl (st1 := fun x1 => [.int x1]) (fun _ => rfl) (ok_X10_takeSymbol hQ N c p1 (j_shr (c.1 11 9) 3) hp1) (fun x1 c2 => ?_)
      refine l1_many mt_X10_areSymbols (pc' := bif am_cc .ne x1 (-1) then 33 else 31) (L' := [some (.ref 11), some (.ref p1), some (.ref p2), some (.int v3), some (.int (j_shr (c.1 11 9) 3)), some (.int x1)]) (st' := []) 4 rfl ?_
      refine l1_bin rfl ?_ ?_
      · refine l1_many mt_X10_areSymbols (pc' := 32) (L' := [some (.ref 11), some (.ref p1), some (.ref p2), some (.int v3), some (.int (j_shr (c.1 11 9) 3)), some (.int x1)]) (st' := [.int 0]) 1 rfl ?_
        exact l1_ret mt_X10_areSymbols rfl rfl rfl
      · refine l1_many mt_X10_areSymbols (pc' := bif am_cc .ne x1 256 then 43 else 41) (L' := [some (.ref 11), some (.ref p1), some (.ref p2), some (.int v3), some (.int (j_shr (c.1 11 9) 3)), some (.int x1)]) (st' := []) 3 rfl ?_
        refine l1_bin rfl ?_ ?_
        · refine l1_many mt_X10_areSymbols (pc' := 42) (L' := [some (.ref 11), some (.ref p1), some (.ref p2), some (.int v3), some (.int (j_shr (c.1 11 9) 3)), some (.int x1)]) (st' := [.int 1]) 1 rfl ?_
          exact l1_ret mt_X10_areSymbols rfl rfl rfl
        · refine l1_many mt_X10_areSymbols (pc' := bif am_cc .le x1 285 then 63 else 51) (L' := [some (.ref 11), some (.ref p1), some (.ref p2), some (.int v3), some (.int (j_shr (c.1 11 9) 3)), some (.int x1)]) (st' := []) 3 rfl ?_
          refine l1_bif rfl ?_ ?_
          · refine l1_many mt_X10_areSymbols (pc' := bif am_cc .le x1 256 then 91 else 71) (L' := [some (.ref 11), some (.ref p1), some (.ref p2), some (.int v3), some (.int (j_shr (c.1 11 9) 3)), some (.int x1)]) (st' := []) 3 rfl ?_
            refine l1_bif rfl ?_ ?_
            · refine l1_many mt_X10_areSymbols (pc' := 92) (L' := [some (.ref 11), some (.ref p1), some (.ref p2), some (.int v3), some (.int (j_shr (c.1 11 9) 3)), some (.int x1)]) (st' := [.ref 11]) 1 rfl ?_
              refine l1_getR hQ mt_X10_areSymbols rfl (o := 11) (ci := 9) (k := 1) (a := 0) (b := 1) rfl rfl rfl rfl rfl (q := 7) rfl ?_
              refine l1_callV hQ mt_X10_areSymbols mt_X2_size rfl rfl (o := 7) (ci := 1) (As := []) (rest := []) rfl rfl rfl rfl rfl rfl (st1 := fun x3 => [.int x3]) (fun _ => rfl) (ok_X2_size hQ c2 7 rfl) (fun x3 c4 => ?_)
              refine l1_many mt_X10_areSymbols (pc' := 99) (L' := [some (.ref 11), some (.ref p1), some (.ref p2), some (.int v3), some (.int (j_shr (c.1 11 9) 3)), some (.int x1)]) (st' := [.ref 11, .int x3]) 1 rfl ?_
              refine l1_getI hQ mt_X10_areSymbols rfl (o := 11) (ci := 9) (k := 11) (a := 0) (b := 0) rfl rfl rfl rfl rfl ?_
              refine l1_many mt_X10_areSymbols (pc' := bif am_cc .lt x3 (c4.1 11 11) then 117 else 105) (L' := [some (.ref 11), some (.ref p1), some (.ref p2), some (.int v3), some (.int (j_shr (c.1 11 9) 3)), some (.int x1)]) (st' := []) 1 rfl ?_
              refine l1_bif rfl ?_ ?_
              · refine l1_many mt_X10_areSymbols (pc' := 118) (L' := [some (.ref 11), some (.ref p1), some (.ref p2), some (.int v3), some (.int (j_shr (c.1 11 9) 3)), some (.int x1)]) (st' := [.ref 11]) 1 rfl ?_
                refine l1_getR hQ mt_X10_areSymbols rfl (o := 11) (ci := 9) (k := 1) (a := 0) (b := 1) rfl rfl rfl rfl rfl (q := 7) rfl ?_
                refine l1_many mt_X10_areSymbols (pc' := 123) (L' := [some (.ref 11), some (.ref p1), some (.ref p2), some (.int v3), some (.int (j_shr (c.1 11 9) 3)), some (.int x1)]) (st' := [.int x1, .ref 7]) 1 rfl ?_
                refine l1_callV hQ mt_X10_areSymbols mt_X2_add rfl rfl (o := 7) (ci := 1) (As := [.int x1]) (rest := []) rfl rfl rfl rfl rfl rfl (st1 := fun _ => []) (fun _ => rfl) (ok_X2_add hQ c4 7 x1 rfl) (fun _ c5 => ?_)
                refine l1_many mt_X10_areSymbols (pc' := 2) (L' := [some (.ref 11), some (.ref p1), some (.ref p2), some (.int (v3 + 1)), some (.int (j_shr (c.1 11 9) 3)), some (.int x1)]) (st' := []) 2 rfl ?_
                refine l1_weak (m := [true, true, true, true, false, false]) (L' := [some (.ref 11), some (.ref p1), some (.ref p2), some (.int (v3 + 1))]) rfl ?_
                exact ih c5 (v3 + 1)
              · refine l1_many mt_X10_areSymbols (pc' := 106) (L' := [some (.ref 11), some (.ref p1), some (.ref p2), some (.int v3), some (.int (j_shr (c.1 11 9) 3)), some (.int x1)]) (st' := [.ref 11]) 1 rfl ?_
                refine l1_getR hQ mt_X10_areSymbols rfl (o := 11) (ci := 9) (k := 2) (a := 0) (b := 1) rfl rfl rfl rfl rfl (q := 9) rfl ?_
                refine l1_many mt_X10_areSymbols (pc' := 113) (L' := [some (.ref 11), some (.ref p1), some (.ref p2), some (.int v3), some (.int (j_shr (c.1 11 9) 3)), some (.int x1)]) (st' := [.int (j_shr (c.1 11 9) 3), .int 23, .ref 9]) 2 rfl ?_
                refine l1_callV hQ mt_X10_areSymbols mt_X6_tell rfl rfl (o := 9) (ci := 5) (As := [.int 23, .int (j_shr (c.1 11 9) 3)]) (rest := []) rfl rfl rfl rfl rfl rfl (st1 := fun x6 => [.int x6]) (fun _ => rfl) (ok_X6_tell hQ c4 23 (j_shr (c.1 11 9) 3)) (fun x6 c7 => ?_)
                refine l1_ck (fun hz => ?_)
                exact l1_retZ mt_X10_areSymbols rfl rfl rfl hz
            · refine l1_many mt_X10_areSymbols (pc' := 83) (L' := [some (.ref 11), some (.ref p1), some (.ref p2), some (.int v3), some (.int (j_shr (c.1 11 9) 3)), some (.int x1)]) (st' := [.int (j_shr (c.1 11 9) 3), .ref p2, .int ((x1 - 256) - 1), .ref 11]) 8 rfl ?_
              refine l1_callV hQ mt_X10_areSymbols mt_X10_isCopied rfl rfl (o := 11) (ci := 9) (As := [.int ((x1 - 256) - 1), .ref p2, .int (j_shr (c.1 11 9) 3)]) (rest := []) rfl rfl rfl rfl rfl rfl (st1 := fun x8 => [.int x8]) (fun _ => rfl) (ok_X10_isCopied hQ N c2 ((x1 - 256) - 1) p2 (j_shr (c.1 11 9) 3) hp2) (fun x8 c9 => ?_)
              refine l1_many mt_X10_areSymbols (pc' := bif am_cc .ne x8 0 then 126 else 89) (L' := [some (.ref 11), some (.ref p1), some (.ref p2), some (.int v3), some (.int (j_shr (c.1 11 9) 3)), some (.int x1)]) (st' := []) 1 rfl ?_
              refine l1_bin rfl ?_ ?_
              · refine l1_many mt_X10_areSymbols (pc' := 90) (L' := [some (.ref 11), some (.ref p1), some (.ref p2), some (.int v3), some (.int (j_shr (c.1 11 9) 3)), some (.int x1)]) (st' := [.int 0]) 1 rfl ?_
                exact l1_ret mt_X10_areSymbols rfl rfl rfl
              · refine l1_many mt_X10_areSymbols (pc' := 2) (L' := [some (.ref 11), some (.ref p1), some (.ref p2), some (.int (v3 + 1)), some (.int (j_shr (c.1 11 9) 3)), some (.int x1)]) (st' := []) 2 rfl ?_
                refine l1_weak (m := [true, true, true, true, false, false]) (L' := [some (.ref 11), some (.ref p1), some (.ref p2), some (.int (v3 + 1))]) rfl ?_
                exact ih c9 (v3 + 1)
          · refine l1_many mt_X10_areSymbols (pc' := 52) (L' := [some (.ref 11), some (.ref p1), some (.ref p2), some (.int v3), some (.int (j_shr (c.1 11 9) 3)), some (.int x1)]) (st' := [.ref 11]) 1 rfl ?_
            refine l1_getR hQ mt_X10_areSymbols rfl (o := 11) (ci := 9) (k := 2) (a := 0) (b := 1) rfl rfl rfl rfl rfl (q := 9) rfl ?_
            refine l1_many mt_X10_areSymbols (pc' := 59) (L' := [some (.ref 11), some (.ref p1), some (.ref p2), some (.int v3), some (.int (j_shr (c.1 11 9) 3)), some (.int x1)]) (st' := [.int (j_shr (c.1 11 9) 3), .int 25, .ref 9]) 2 rfl ?_
            refine l1_callV hQ mt_X10_areSymbols mt_X6_tell rfl rfl (o := 9) (ci := 5) (As := [.int 25, .int (j_shr (c.1 11 9) 3)]) (rest := []) rfl rfl rfl rfl rfl rfl (st1 := fun x10 => [.int x10]) (fun _ => rfl) (ok_X6_tell hQ c2 25 (j_shr (c.1 11 9) 3)) (fun x10 c11 => ?_)
            refine l1_ck (fun hz => ?_)
            exact l1_retZ mt_X10_areSymbols rfl rfl rfl hz
set_option maxRecDepth 100000 in
theorem en_X10_areSymbols {Q : hS → am_H → Prop} (hQ : l1_em kc Q) (N : Nat) (c : hS) (p1 : Nat) (p2 : Nat) (hp1 : kc p1 = 2) (hp2 : kc p2 = 2) : l1_G (wN wI) Q am_i_X10_areSymbols 0 [some (.ref 11), some (.ref p1), some (.ref p2)] [] c (f_X10_areSymbols N c p1 p2) := by
  rw [f_X10_areSymbols]
  refine l1_many mt_X10_areSymbols (pc' := 2) (L' := [some (.ref 11), some (.ref p1), some (.ref p2), some (.int 0)]) (st' := []) 2 rfl ?_
  exact ok_X10_areSymbols_2 hQ N p1 p2 hp1 hp2 N c 0
theorem ok_X10_areSymbols {Q : hS → am_H → Prop} (hQ : l1_em kc Q) (N : Nat) (c : hS) (p1 : Nat) (p2 : Nat) (hp1 : kc p1 = 2) (hp2 : kc p2 = 2) : l1_T wI Q am_i_X10_areSymbols [.ref 11, .ref p1, .ref p2] c (f_X10_areSymbols N c p1 p2) := l1_of (en_X10_areSymbols hQ N c p1 p2 hp1 hp2) ⟨rfl, rfl, rfl, trivial⟩
set_option maxRecDepth 100000 in
theorem ok_X10_isStored_64 {Q : hS → am_H → Prop} (hQ : l1_em kc Q) (N : Nat) : ∀ n : Nat, ∀ (c : hS) (v1 : Int32) (v3 : Int32), l1_G (wN wI) Q am_i_X10_isStored 64 [some (.ref 11), some (.int v1), none, some (.int v3)] [] c (f_X10_isStored_64 N n c v1 v3) := by
  intro n
  induction n with
  | zero => intro c v1 v3; exact l1_none
  | succ n ih =>
    intro c v1 v3
    rw [f_X10_isStored_64]
    refine l1_many mt_X10_isStored (pc' := bif am_cc .ge v3 v1 then 134 else 69) (L' := [some (.ref 11), some (.int v1), none, some (.int v3)]) (st' := []) 3 rfl ?_
    refine l1_bif rfl ?_ ?_
    · refine l1_many mt_X10_isStored (pc' := 135) (L' := [some (.ref 11), some (.int v1), none, some (.int v3)]) (st' := [.int 1]) 1 rfl ?_
      exact l1_ret mt_X10_isStored rfl rfl rfl
    · refine l1_many mt_X10_isStored (pc' := 70) (L' := [some (.ref 11), some (.int v1), none, some (.int v3)]) (st' := [.ref 11]) 1 rfl ?_
      refine l1_getI hQ mt_X10_isStored rfl (o := 11) (ci := 9) (k := 9) (a := 0) (b := 0) rfl rfl rfl rfl rfl ?_
      refine l1_many mt_X10_isStored (pc' := 80) (L' := [some (.ref 11), some (.int v1), none, some (.int v3), some (.int (j_shr (c.1 11 9) 3))]) (st' := [.int 8, .ref 11]) 5 rfl ?_
      refine l1_callV hQ mt_X10_isStored mt_X10_takeBits rfl rfl (o := 11) (ci := 9) (As := [.int 8]) (rest := []) rfl rfl rfl rfl rfl rfl (st1 := fun x1 => [.int x1]) (fun _ => rfl) (ok_X10_takeBits hQ N c 8) (fun x1 c2 => ?_)
      refine l1_many mt_X10_isStored (pc' := bif am_cc .ne x1 (-1) then 93 else 91) (L' := [some (.ref 11), some (.int v1), none, some (.int v3), some (.int (j_shr (c.1 11 9) 3)), some (.int x1)]) (st' := []) 4 rfl ?_
      refine l1_bin rfl ?_ ?_
      · refine l1_many mt_X10_isStored (pc' := 92) (L' := [some (.ref 11), some (.int v1), none, some (.int v3), some (.int (j_shr (c.1 11 9) 3)), some (.int x1)]) (st' := [.int 0]) 1 rfl ?_
        exact l1_ret mt_X10_isStored rfl rfl rfl
      · refine l1_many mt_X10_isStored (pc' := 94) (L' := [some (.ref 11), some (.int v1), none, some (.int v3), some (.int (j_shr (c.1 11 9) 3)), some (.int x1)]) (st' := [.ref 11]) 1 rfl ?_
        refine l1_getR hQ mt_X10_isStored rfl (o := 11) (ci := 9) (k := 1) (a := 0) (b := 1) rfl rfl rfl rfl rfl (q := 7) rfl ?_
        refine l1_callV hQ mt_X10_isStored mt_X2_size rfl rfl (o := 7) (ci := 1) (As := []) (rest := []) rfl rfl rfl rfl rfl rfl (st1 := fun x3 => [.int x3]) (fun _ => rfl) (ok_X2_size hQ c2 7 rfl) (fun x3 c4 => ?_)
        refine l1_many mt_X10_isStored (pc' := 101) (L' := [some (.ref 11), some (.int v1), none, some (.int v3), some (.int (j_shr (c.1 11 9) 3)), some (.int x1)]) (st' := [.ref 11, .int x3]) 1 rfl ?_
        refine l1_getI hQ mt_X10_isStored rfl (o := 11) (ci := 9) (k := 11) (a := 0) (b := 0) rfl rfl rfl rfl rfl ?_
        refine l1_many mt_X10_isStored (pc' := bif am_cc .lt x3 (c4.1 11 11) then 119 else 107) (L' := [some (.ref 11), some (.int v1), none, some (.int v3), some (.int (j_shr (c.1 11 9) 3)), some (.int x1)]) (st' := []) 1 rfl ?_
        refine l1_bif rfl ?_ ?_
        · refine l1_many mt_X10_isStored (pc' := 120) (L' := [some (.ref 11), some (.int v1), none, some (.int v3), some (.int (j_shr (c.1 11 9) 3)), some (.int x1)]) (st' := [.ref 11]) 1 rfl ?_
          refine l1_getR hQ mt_X10_isStored rfl (o := 11) (ci := 9) (k := 1) (a := 0) (b := 1) rfl rfl rfl rfl rfl (q := 7) rfl ?_
          refine l1_many mt_X10_isStored (pc' := 125) (L' := [some (.ref 11), some (.int v1), none, some (.int v3), some (.int (j_shr (c.1 11 9) 3)), some (.int x1)]) (st' := [.int x1, .ref 7]) 1 rfl ?_
          refine l1_callV hQ mt_X10_isStored mt_X2_add rfl rfl (o := 7) (ci := 1) (As := [.int x1]) (rest := []) rfl rfl rfl rfl rfl rfl (st1 := fun _ => []) (fun _ => rfl) (ok_X2_add hQ c4 7 x1 rfl) (fun _ c5 => ?_)
          refine l1_many mt_X10_isStored (pc' := 64) (L' := [some (.ref 11), some (.int v1), none, some (.int (v3 + 1)), some (.int (j_shr (c.1 11 9) 3)), some (.int x1)]) (st' := []) 2 rfl ?_
          refine l1_weak (m := [true, true, false, true, false, false]) (L' := [some (.ref 11), some (.int v1), none, some (.int (v3 + 1))]) rfl ?_
          exact ih c5 v1 (v3 + 1)
        · refine l1_many mt_X10_isStored (pc' := 108) (L' := [some (.ref 11), some (.int v1), none, some (.int v3), some (.int (j_shr (c.1 11 9) 3)), some (.int x1)]) (st' := [.ref 11]) 1 rfl ?_
          refine l1_getR hQ mt_X10_isStored rfl (o := 11) (ci := 9) (k := 2) (a := 0) (b := 1) rfl rfl rfl rfl rfl (q := 9) rfl ?_
          refine l1_many mt_X10_isStored (pc' := 115) (L' := [some (.ref 11), some (.int v1), none, some (.int v3), some (.int (j_shr (c.1 11 9) 3)), some (.int x1)]) (st' := [.int (j_shr (c.1 11 9) 3), .int 23, .ref 9]) 2 rfl ?_
          refine l1_callV hQ mt_X10_isStored mt_X6_tell rfl rfl (o := 9) (ci := 5) (As := [.int 23, .int (j_shr (c.1 11 9) 3)]) (rest := []) rfl rfl rfl rfl rfl rfl (st1 := fun x6 => [.int x6]) (fun _ => rfl) (ok_X6_tell hQ c4 23 (j_shr (c.1 11 9) 3)) (fun x6 c7 => ?_)
          refine l1_ck (fun hz => ?_)
          exact l1_retZ mt_X10_isStored rfl rfl rfl hz
set_option maxRecDepth 100000 in
theorem en_X10_isStored {Q : hS → am_H → Prop} (hQ : l1_em kc Q) (N : Nat) (c : hS) : l1_G (wN wI) Q am_i_X10_isStored 0 [some (.ref 11)] [] c (f_X10_isStored N c) := by
  rw [f_X10_isStored]
  refine l1_many mt_X10_isStored (pc' := 2) (L' := [some (.ref 11)]) (st' := [.ref 11, .ref 11]) 2 rfl ?_
  refine l1_getI hQ mt_X10_isStored rfl (o := 11) (ci := 9) (k := 9) (a := 0) (b := 0) rfl rfl rfl rfl rfl ?_
  refine l1_many mt_X10_isStored (pc' := 11) (L' := [some (.ref 11)]) (st' := [.int (((c.1 11 9) + 7) &&& (-8)), .ref 11]) 4 rfl ?_
  refine l1_putI hQ mt_X10_isStored rfl (o := 11) (ci := 9) (k := 9) (a := 0) rfl rfl rfl rfl rfl rfl (fun c1 => ?_)
  refine l1_many mt_X10_isStored (pc' := 17) (L' := [some (.ref 11)]) (st' := [.int 16, .ref 11]) 2 rfl ?_
  refine l1_callV hQ mt_X10_isStored mt_X10_takeBits rfl rfl (o := 11) (ci := 9) (As := [.int 16]) (rest := []) rfl rfl rfl rfl rfl rfl (st1 := fun x2 => [.int x2]) (fun _ => rfl) (ok_X10_takeBits hQ N c1 16) (fun x2 c3 => ?_)
  refine l1_many mt_X10_isStored (pc' := 24) (L' := [some (.ref 11), some (.int x2)]) (st' := [.int 16, .ref 11]) 3 rfl ?_
  refine l1_callV hQ mt_X10_isStored mt_X10_takeBits rfl rfl (o := 11) (ci := 9) (As := [.int 16]) (rest := []) rfl rfl rfl rfl rfl rfl (st1 := fun x4 => [.int x4]) (fun _ => rfl) (ok_X10_takeBits hQ N c3 16) (fun x4 c5 => ?_)
  refine l1_many mt_X10_isStored (pc' := bif am_cc .eq x2 (-1) then 38 else 33) (L' := [some (.ref 11), some (.int x2), some (.int x4)]) (st' := []) 4 rfl ?_
  refine l1_bif rfl ?_ ?_
  · refine l1_many mt_X10_isStored (pc' := 39) (L' := [some (.ref 11), some (.int x2), some (.int x4)]) (st' := [.int 0]) 1 rfl ?_
    exact l1_ret mt_X10_isStored rfl rfl rfl
  · refine l1_many mt_X10_isStored (pc' := bif am_cc .ne x4 (-1) then 40 else 38) (L' := [some (.ref 11), some (.int x2), some (.int x4)]) (st' := []) 3 rfl ?_
    refine l1_bin rfl ?_ ?_
    · refine l1_many mt_X10_isStored (pc' := 39) (L' := [some (.ref 11), some (.int x2), some (.int x4)]) (st' := [.int 0]) 1 rfl ?_
      exact l1_ret mt_X10_isStored rfl rfl rfl
    · refine l1_many mt_X10_isStored (pc' := bif am_cc .eq x4 (65535 - x2) then 62 else 48) (L' := [some (.ref 11), some (.int x2), some (.int x4)]) (st' := []) 5 rfl ?_
      refine l1_bif rfl ?_ ?_
      · refine l1_many mt_X10_isStored (pc' := 64) (L' := [some (.ref 11), some (.int x2), some (.int x4), some (.int 0)]) (st' := []) 2 rfl ?_
        refine l1_weak (m := [true, true, false, true, false, false]) (L' := [some (.ref 11), some (.int x2), none, some (.int 0)]) rfl ?_
        exact ok_X10_isStored_64 hQ N N c5 x2 0
      · refine l1_many mt_X10_isStored (pc' := 49) (L' := [some (.ref 11), some (.int x2), some (.int x4)]) (st' := [.ref 11]) 1 rfl ?_
        refine l1_getR hQ mt_X10_isStored rfl (o := 11) (ci := 9) (k := 2) (a := 0) (b := 1) rfl rfl rfl rfl rfl (q := 9) rfl ?_
        refine l1_many mt_X10_isStored (pc' := 55) (L' := [some (.ref 11), some (.int x2), some (.int x4)]) (st' := [.ref 11, .int 22, .ref 9]) 2 rfl ?_
        refine l1_getI hQ mt_X10_isStored rfl (o := 11) (ci := 9) (k := 12) (a := 0) (b := 0) rfl rfl rfl rfl rfl ?_
        refine l1_callV hQ mt_X10_isStored mt_X6_tell rfl rfl (o := 9) (ci := 5) (As := [.int 22, .int (c5.1 11 12)]) (rest := []) rfl rfl rfl rfl rfl rfl (st1 := fun x6 => [.int x6]) (fun _ => rfl) (ok_X6_tell hQ c5 22 (c5.1 11 12)) (fun x6 c7 => ?_)
        refine l1_ck (fun hz => ?_)
        exact l1_retZ mt_X10_isStored rfl rfl rfl hz
theorem ok_X10_isStored {Q : hS → am_H → Prop} (hQ : l1_em kc Q) (N : Nat) (c : hS) : l1_T wI Q am_i_X10_isStored [.ref 11] c (f_X10_isStored N c) := l1_of (en_X10_isStored hQ N c) ⟨rfl, trivial⟩
set_option maxRecDepth 100000 in
theorem ok_X10_open_179 {Q : hS → am_H → Prop} (hQ : l1_em kc Q) (N : Nat) (p1 : Int32) (p2 : Int32) (p3 : Int32) {k35 : hS → Int32 → Int32 → Option (Int32 × hS)} (hk35 : ∀ c v4 v5, l1_G (wN wI) Q am_i_X10_open 35 [some (.ref 11), none, some (.int p2), none, some (.int v4), some (.int v5)] [] c (k35 c v4 v5)) : ∀ (c : hS) (v5 : Int32) (v6 : Int32), l1_G (wN wI) Q am_i_X10_open 179 [some (.ref 11), none, some (.int p2), none, none, some (.int v5), some (.int v6)] [] c (f_X10_open_179 N p1 p2 p3 k35 c v5 v6) := by
  intro c v5 v6
  rw [f_X10_open_179]
  refine l1_many mt_X10_open (pc' := bif am_cc .ne v6 1 then 189 else 185) (L' := [some (.ref 11), none, some (.int p2), none, none, some (.int v5), some (.int v6)]) (st' := []) 3 rfl ?_
  refine l1_bin rfl ?_ ?_
  · refine l1_many mt_X10_open (pc' := 35) (L' := [some (.ref 11), none, some (.int p2), none, some (.int 1), some (.int (v5 + 1)), some (.int v6)]) (st' := []) 5 rfl ?_
    refine l1_weak (m := [true, false, true, false, true, true, false, false]) (L' := [some (.ref 11), none, some (.int p2), none, some (.int 1), some (.int (v5 + 1))]) rfl ?_
    exact hk35 c 1 (v5 + 1)
  · refine l1_many mt_X10_open (pc' := 35) (L' := [some (.ref 11), none, some (.int p2), none, some (.int 0), some (.int (v5 + 1)), some (.int v6)]) (st' := []) 4 rfl ?_
    refine l1_weak (m := [true, false, true, false, true, true, false, false]) (L' := [some (.ref 11), none, some (.int p2), none, some (.int 0), some (.int (v5 + 1))]) rfl ?_
    exact hk35 c 0 (v5 + 1)
set_option maxRecDepth 100000 in
theorem ok_X10_open_142 {Q : hS → am_H → Prop} (hQ : l1_em kc Q) (N : Nat) (p1 : Int32) (p2 : Int32) (p3 : Int32) {k35 : hS → Int32 → Int32 → Option (Int32 × hS)} (hk35 : ∀ c v4 v5, l1_G (wN wI) Q am_i_X10_open 35 [some (.ref 11), none, some (.int p2), none, some (.int v4), some (.int v5)] [] c (k35 c v4 v5)) : ∀ (c : hS) (v5 : Int32) (v6 : Int32) (v7 : Int32), l1_G (wN wI) Q am_i_X10_open 142 [some (.ref 11), none, some (.int p2), none, none, some (.int v5), some (.int v6), some (.int v7)] [] c (f_X10_open_142 N p1 p2 p3 k35 c v5 v6 v7) := by
  intro c v5 v6 v7
  rw [f_X10_open_142]
  refine l1_many mt_X10_open (pc' := bif am_cc .ne v7 2 then 179 else 148) (L' := [some (.ref 11), none, some (.int p2), none, none, some (.int v5), some (.int v6), some (.int v7)]) (st' := []) 3 rfl ?_
  refine l1_bin rfl ?_ ?_
  · refine l1_many mt_X10_open (pc' := 149) (L' := [some (.ref 11), none, some (.int p2), none, none, some (.int v5), some (.int v6), some (.int v7)]) (st' := [.ref 11]) 1 rfl ?_
    refine l1_callV hQ mt_X10_open mt_X10_areLengthCodes rfl rfl (o := 11) (ci := 9) (As := []) (rest := []) rfl rfl rfl rfl rfl rfl (st1 := fun x1 => [.int x1]) (fun _ => rfl) (ok_X10_areLengthCodes hQ N c) (fun x1 c2 => ?_)
    refine l1_many mt_X10_open (pc' := bif am_cc .eq x1 0 then 177 else 155) (L' := [some (.ref 11), none, some (.int p2), none, none, some (.int v5), some (.int v6), some (.int v7)]) (st' := []) 1 rfl ?_
    refine l1_bif rfl ?_ ?_
    · refine l1_many mt_X10_open (pc' := 178) (L' := [some (.ref 11), none, some (.int p2), none, none, some (.int v5), some (.int v6), some (.int v7)]) (st' := [.int 0]) 1 rfl ?_
      exact l1_ret mt_X10_open rfl rfl rfl
    · refine l1_many mt_X10_open (pc' := 156) (L' := [some (.ref 11), none, some (.int p2), none, none, some (.int v5), some (.int v6), some (.int v7)]) (st' := [.ref 11]) 1 rfl ?_
      refine l1_callV hQ mt_X10_open mt_X10_areLengths rfl rfl (o := 11) (ci := 9) (As := []) (rest := []) rfl rfl rfl rfl rfl rfl (st1 := fun x3 => [.int x3]) (fun _ => rfl) (ok_X10_areLengths hQ N c2) (fun x3 c4 => ?_)
      refine l1_many mt_X10_open (pc' := bif am_cc .eq x3 0 then 177 else 162) (L' := [some (.ref 11), none, some (.int p2), none, none, some (.int v5), some (.int v6), some (.int v7)]) (st' := []) 1 rfl ?_
      refine l1_bif rfl ?_ ?_
      · refine l1_many mt_X10_open (pc' := 178) (L' := [some (.ref 11), none, some (.int p2), none, none, some (.int v5), some (.int v6), some (.int v7)]) (st' := [.int 0]) 1 rfl ?_
        exact l1_ret mt_X10_open rfl rfl rfl
      · refine l1_many mt_X10_open (pc' := 164) (L' := [some (.ref 11), none, some (.int p2), none, none, some (.int v5), some (.int v6), some (.int v7)]) (st' := [.ref 11, .ref 11]) 2 rfl ?_
        refine l1_getR hQ mt_X10_open rfl (o := 11) (ci := 9) (k := 5) (a := 0) (b := 1) rfl rfl rfl rfl rfl (q := 20) rfl ?_
        refine l1_many mt_X10_open (pc' := 168) (L' := [some (.ref 11), none, some (.int p2), none, none, some (.int v5), some (.int v6), some (.int v7)]) (st' := [.ref 11, .ref 20, .ref 11]) 1 rfl ?_
        refine l1_getR hQ mt_X10_open rfl (o := 11) (ci := 9) (k := 6) (a := 0) (b := 1) rfl rfl rfl rfl rfl (q := 24) rfl ?_
        refine l1_callV hQ mt_X10_open mt_X10_areSymbols rfl rfl (o := 11) (ci := 9) (As := [.ref 20, .ref 24]) (rest := []) rfl rfl rfl rfl rfl rfl (st1 := fun x5 => [.int x5]) (fun _ => rfl) (ok_X10_areSymbols hQ N c4 20 24 rfl rfl) (fun x5 c6 => ?_)
        refine l1_many mt_X10_open (pc' := bif am_cc .ne x5 0 then 179 else 177) (L' := [some (.ref 11), none, some (.int p2), none, none, some (.int v5), some (.int v6), some (.int v7)]) (st' := []) 1 rfl ?_
        refine l1_bin rfl ?_ ?_
        · refine l1_many mt_X10_open (pc' := 178) (L' := [some (.ref 11), none, some (.int p2), none, none, some (.int v5), some (.int v6), some (.int v7)]) (st' := [.int 0]) 1 rfl ?_
          exact l1_ret mt_X10_open rfl rfl rfl
        · refine l1_weak (m := [true, false, true, false, false, true, true, false]) (L' := [some (.ref 11), none, some (.int p2), none, none, some (.int v5), some (.int v6)]) rfl ?_
          exact ok_X10_open_179 hQ N p1 p2 p3 hk35 c6 v5 v6
  · refine l1_weak (m := [true, false, true, false, false, true, true, false]) (L' := [some (.ref 11), none, some (.int p2), none, none, some (.int v5), some (.int v6)]) rfl ?_
    exact ok_X10_open_179 hQ N p1 p2 p3 hk35 c v5 v6
set_option maxRecDepth 100000 in
theorem ok_X10_open_119 {Q : hS → am_H → Prop} (hQ : l1_em kc Q) (N : Nat) (p1 : Int32) (p2 : Int32) (p3 : Int32) {k35 : hS → Int32 → Int32 → Option (Int32 × hS)} (hk35 : ∀ c v4 v5, l1_G (wN wI) Q am_i_X10_open 35 [some (.ref 11), none, some (.int p2), none, some (.int v4), some (.int v5)] [] c (k35 c v4 v5)) : ∀ (c : hS) (v5 : Int32) (v6 : Int32) (v7 : Int32), l1_G (wN wI) Q am_i_X10_open 119 [some (.ref 11), none, some (.int p2), none, none, some (.int v5), some (.int v6), some (.int v7)] [] c (f_X10_open_119 N p1 p2 p3 k35 c v5 v6 v7) := by
  intro c v5 v6 v7
  rw [f_X10_open_119]
  refine l1_many mt_X10_open (pc' := bif am_cc .ne v7 1 then 142 else 125) (L' := [some (.ref 11), none, some (.int p2), none, none, some (.int v5), some (.int v6), some (.int v7)]) (st' := []) 3 rfl ?_
  refine l1_bin rfl ?_ ?_
  · refine l1_many mt_X10_open (pc' := 127) (L' := [some (.ref 11), none, some (.int p2), none, none, some (.int v5), some (.int v6), some (.int v7)]) (st' := [.ref 11, .ref 11]) 2 rfl ?_
    refine l1_getR hQ mt_X10_open rfl (o := 11) (ci := 9) (k := 3) (a := 0) (b := 1) rfl rfl rfl rfl rfl (q := 12) rfl ?_
    refine l1_many mt_X10_open (pc' := 131) (L' := [some (.ref 11), none, some (.int p2), none, none, some (.int v5), some (.int v6), some (.int v7)]) (st' := [.ref 11, .ref 12, .ref 11]) 1 rfl ?_
    refine l1_getR hQ mt_X10_open rfl (o := 11) (ci := 9) (k := 4) (a := 0) (b := 1) rfl rfl rfl rfl rfl (q := 16) rfl ?_
    refine l1_callV hQ mt_X10_open mt_X10_areSymbols rfl rfl (o := 11) (ci := 9) (As := [.ref 12, .ref 16]) (rest := []) rfl rfl rfl rfl rfl rfl (st1 := fun x1 => [.int x1]) (fun _ => rfl) (ok_X10_areSymbols hQ N c 12 16 rfl rfl) (fun x1 c2 => ?_)
    refine l1_many mt_X10_open (pc' := bif am_cc .ne x1 0 then 142 else 140) (L' := [some (.ref 11), none, some (.int p2), none, none, some (.int v5), some (.int v6), some (.int v7)]) (st' := []) 1 rfl ?_
    refine l1_bin rfl ?_ ?_
    · refine l1_many mt_X10_open (pc' := 141) (L' := [some (.ref 11), none, some (.int p2), none, none, some (.int v5), some (.int v6), some (.int v7)]) (st' := [.int 0]) 1 rfl ?_
      exact l1_ret mt_X10_open rfl rfl rfl
    · exact ok_X10_open_142 hQ N p1 p2 p3 hk35 c2 v5 v6 v7
  · exact ok_X10_open_142 hQ N p1 p2 p3 hk35 c v5 v6 v7
set_option maxRecDepth 100000 in
theorem ok_X10_open_198 {Q : hS → am_H → Prop} (hQ : l1_em kc Q) (N : Nat) (p1 : Int32) (p2 : Int32) (p3 : Int32) : ∀ (c : hS), l1_G (wN wI) Q am_i_X10_open 198 [some (.ref 11), none, some (.int p2)] [] c (f_X10_open_198 N p1 p2 p3 c) := by
  intro c
  rw [f_X10_open_198]
  refine l1_many mt_X10_open (pc' := 199) (L' := [some (.ref 11), none, some (.int p2)]) (st' := [.ref 11]) 1 rfl ?_
  refine l1_getI hQ mt_X10_open rfl (o := 11) (ci := 9) (k := 9) (a := 0) (b := 0) rfl rfl rfl rfl rfl ?_
  refine l1_many mt_X10_open (pc' := bif am_cc .eq (j_shr ((c.1 11 9) + 7) 3) p2 then 229 else 215) (L' := [some (.ref 11), none, some (.int p2), none, none, some (.int (j_shr ((c.1 11 9) + 7) 3))]) (st' := []) 8 rfl ?_
  refine l1_bif rfl ?_ ?_
  · refine l1_many mt_X10_open (pc' := 234) (L' := [some (.ref 11), none, some (.int p2), none, none, some (.int (j_shr ((c.1 11 9) + 7) 3))]) (st' := [.int 1]) 2 rfl ?_
    exact l1_ret mt_X10_open rfl rfl rfl
  · refine l1_many mt_X10_open (pc' := 216) (L' := [some (.ref 11), none, some (.int p2), none, none, some (.int (j_shr ((c.1 11 9) + 7) 3))]) (st' := [.ref 11]) 1 rfl ?_
    refine l1_getR hQ mt_X10_open rfl (o := 11) (ci := 9) (k := 2) (a := 0) (b := 1) rfl rfl rfl rfl rfl (q := 9) rfl ?_
    refine l1_many mt_X10_open (pc' := 223) (L' := [some (.ref 11), none, some (.int p2), none, none, some (.int (j_shr ((c.1 11 9) + 7) 3))]) (st' := [.int (j_shr ((c.1 11 9) + 7) 3), .int 27, .ref 9]) 2 rfl ?_
    refine l1_callV hQ mt_X10_open mt_X6_tell rfl rfl (o := 9) (ci := 5) (As := [.int 27, .int (j_shr ((c.1 11 9) + 7) 3)]) (rest := []) rfl rfl rfl rfl rfl rfl (st1 := fun x1 => [.int x1]) (fun _ => rfl) (ok_X6_tell hQ c 27 (j_shr ((c.1 11 9) + 7) 3)) (fun x1 c2 => ?_)
    refine l1_many mt_X10_open (pc' := bif am_cc .eq x1 0 then 233 else 229) (L' := [some (.ref 11), none, some (.int p2), none, none, some (.int (j_shr ((c.1 11 9) + 7) 3))]) (st' := []) 1 rfl ?_
    refine l1_bif rfl ?_ ?_
    · refine l1_many mt_X10_open (pc' := 234) (L' := [some (.ref 11), none, some (.int p2), none, none, some (.int (j_shr ((c.1 11 9) + 7) 3))]) (st' := [.int 0]) 1 rfl ?_
      exact l1_ret mt_X10_open rfl rfl rfl
    · refine l1_many mt_X10_open (pc' := 234) (L' := [some (.ref 11), none, some (.int p2), none, none, some (.int (j_shr ((c.1 11 9) + 7) 3))]) (st' := [.int 1]) 2 rfl ?_
      exact l1_ret mt_X10_open rfl rfl rfl
set_option maxRecDepth 100000 in
theorem ok_X10_open_35 {Q : hS → am_H → Prop} (hQ : l1_em kc Q) (N : Nat) (p1 : Int32) (p2 : Int32) (p3 : Int32) : ∀ n : Nat, ∀ (c : hS) (v4 : Int32) (v5 : Int32), l1_G (wN wI) Q am_i_X10_open 35 [some (.ref 11), none, some (.int p2), none, some (.int v4), some (.int v5)] [] c (f_X10_open_35 N p1 p2 p3 n c v4 v5) := by
  intro n
  induction n with
  | zero => intro c v4 v5; exact l1_none
  | succ n ih =>
    intro c v4 v5
    rw [f_X10_open_35]
    refine l1_many mt_X10_open (pc' := bif am_cc .gt v5 160000 then 198 else 42) (L' := [some (.ref 11), none, some (.int p2), none, some (.int v4), some (.int v5)]) (st' := []) 3 rfl ?_
    refine l1_bif rfl ?_ ?_
    · refine l1_weak (m := [true, false, true, false, false, false, false, false]) (L' := [some (.ref 11), none, some (.int p2)]) rfl ?_
      exact ok_X10_open_198 hQ N p1 p2 p3 c
    · refine l1_many mt_X10_open (pc' := bif am_cc .ne v4 0 then 198 else 47) (L' := [some (.ref 11), none, some (.int p2), none, some (.int v4), some (.int v5)]) (st' := []) 2 rfl ?_
      refine l1_bin rfl ?_ ?_
      · refine l1_many mt_X10_open (pc' := 49) (L' := [some (.ref 11), none, some (.int p2), none, some (.int v4), some (.int v5)]) (st' := [.ref 11, .ref 11]) 2 rfl ?_
        refine l1_getI hQ mt_X10_open rfl (o := 11) (ci := 9) (k := 9) (a := 0) (b := 0) rfl rfl rfl rfl rfl ?_
        refine l1_many mt_X10_open (pc' := 54) (L' := [some (.ref 11), none, some (.int p2), none, some (.int v4), some (.int v5)]) (st' := [.int (j_shr (c.1 11 9) 3), .ref 11]) 2 rfl ?_
        refine l1_putI hQ mt_X10_open rfl (o := 11) (ci := 9) (k := 12) (a := 0) rfl rfl rfl rfl rfl rfl (fun c1 => ?_)
        refine l1_many mt_X10_open (pc' := 59) (L' := [some (.ref 11), none, some (.int p2), none, some (.int v4), some (.int v5)]) (st' := [.int 1, .ref 11]) 2 rfl ?_
        refine l1_callV hQ mt_X10_open mt_X10_takeBits rfl rfl (o := 11) (ci := 9) (As := [.int 1]) (rest := []) rfl rfl rfl rfl rfl rfl (st1 := fun x2 => [.int x2]) (fun _ => rfl) (ok_X10_takeBits hQ N c1 1) (fun x2 c3 => ?_)
        refine l1_many mt_X10_open (pc' := 66) (L' := [some (.ref 11), none, some (.int p2), none, some (.int v4), some (.int v5), some (.int x2)]) (st' := [.int 2, .ref 11]) 3 rfl ?_
        refine l1_callV hQ mt_X10_open mt_X10_takeBits rfl rfl (o := 11) (ci := 9) (As := [.int 2]) (rest := []) rfl rfl rfl rfl rfl rfl (st1 := fun x4 => [.int x4]) (fun _ => rfl) (ok_X10_takeBits hQ N c3 2) (fun x4 c5 => ?_)
        refine l1_many mt_X10_open (pc' := bif am_cc .eq x2 (-1) then 83 else 77) (L' := [some (.ref 11), none, some (.int p2), none, some (.int v4), some (.int v5), some (.int x2), some (.int x4)]) (st' := []) 4 rfl ?_
        refine l1_bif rfl ?_ ?_
        · refine l1_many mt_X10_open (pc' := 84) (L' := [some (.ref 11), none, some (.int p2), none, some (.int v4), some (.int v5), some (.int x2), some (.int x4)]) (st' := [.int 0]) 1 rfl ?_
          exact l1_ret mt_X10_open rfl rfl rfl
        · refine l1_many mt_X10_open (pc' := bif am_cc .ne x4 (-1) then 85 else 83) (L' := [some (.ref 11), none, some (.int p2), none, some (.int v4), some (.int v5), some (.int x2), some (.int x4)]) (st' := []) 3 rfl ?_
          refine l1_bin rfl ?_ ?_
          · refine l1_many mt_X10_open (pc' := 84) (L' := [some (.ref 11), none, some (.int p2), none, some (.int v4), some (.int v5), some (.int x2), some (.int x4)]) (st' := [.int 0]) 1 rfl ?_
            exact l1_ret mt_X10_open rfl rfl rfl
          · refine l1_many mt_X10_open (pc' := bif am_cc .ne x4 3 then 105 else 91) (L' := [some (.ref 11), none, some (.int p2), none, some (.int v4), some (.int v5), some (.int x2), some (.int x4)]) (st' := []) 3 rfl ?_
            refine l1_bin rfl ?_ ?_
            · refine l1_many mt_X10_open (pc' := 92) (L' := [some (.ref 11), none, some (.int p2), none, some (.int v4), some (.int v5), some (.int x2), some (.int x4)]) (st' := [.ref 11]) 1 rfl ?_
              refine l1_getR hQ mt_X10_open rfl (o := 11) (ci := 9) (k := 2) (a := 0) (b := 1) rfl rfl rfl rfl rfl (q := 9) rfl ?_
              refine l1_many mt_X10_open (pc' := 98) (L' := [some (.ref 11), none, some (.int p2), none, some (.int v4), some (.int v5), some (.int x2), some (.int x4)]) (st' := [.ref 11, .int 21, .ref 9]) 2 rfl ?_
              refine l1_getI hQ mt_X10_open rfl (o := 11) (ci := 9) (k := 12) (a := 0) (b := 0) rfl rfl rfl rfl rfl ?_
              refine l1_callV hQ mt_X10_open mt_X6_tell rfl rfl (o := 9) (ci := 5) (As := [.int 21, .int (c5.1 11 12)]) (rest := []) rfl rfl rfl rfl rfl rfl (st1 := fun x8 => [.int x8]) (fun _ => rfl) (ok_X6_tell hQ c5 21 (c5.1 11 12)) (fun x8 c9 => ?_)
              refine l1_ck (fun hz => ?_)
              exact l1_retZ mt_X10_open rfl rfl rfl hz
            · refine l1_many mt_X10_open (pc' := bif am_cc .ne x4 0 then 119 else 110) (L' := [some (.ref 11), none, some (.int p2), none, some (.int v4), some (.int v5), some (.int x2), some (.int x4)]) (st' := []) 2 rfl ?_
              refine l1_bin rfl ?_ ?_
              · refine l1_many mt_X10_open (pc' := 111) (L' := [some (.ref 11), none, some (.int p2), none, some (.int v4), some (.int v5), some (.int x2), some (.int x4)]) (st' := [.ref 11]) 1 rfl ?_
                refine l1_callV hQ mt_X10_open mt_X10_isStored rfl rfl (o := 11) (ci := 9) (As := []) (rest := []) rfl rfl rfl rfl rfl rfl (st1 := fun x6 => [.int x6]) (fun _ => rfl) (ok_X10_isStored hQ N c5) (fun x6 c7 => ?_)
                refine l1_many mt_X10_open (pc' := bif am_cc .ne x6 0 then 119 else 117) (L' := [some (.ref 11), none, some (.int p2), none, some (.int v4), some (.int v5), some (.int x2), some (.int x4)]) (st' := []) 1 rfl ?_
                refine l1_bin rfl ?_ ?_
                · refine l1_many mt_X10_open (pc' := 118) (L' := [some (.ref 11), none, some (.int p2), none, some (.int v4), some (.int v5), some (.int x2), some (.int x4)]) (st' := [.int 0]) 1 rfl ?_
                  exact l1_ret mt_X10_open rfl rfl rfl
                · refine l1_weak (m := [true, false, true, false, false, true, true, true]) (L' := [some (.ref 11), none, some (.int p2), none, none, some (.int v5), some (.int x2), some (.int x4)]) rfl ?_
                  exact ok_X10_open_119 hQ N p1 p2 p3 ih c7 v5 x2 x4
              · refine l1_weak (m := [true, false, true, false, false, true, true, true]) (L' := [some (.ref 11), none, some (.int p2), none, none, some (.int v5), some (.int x2), some (.int x4)]) rfl ?_
                exact ok_X10_open_119 hQ N p1 p2 p3 ih c5 v5 x2 x4
      · refine l1_weak (m := [true, false, true, false, false, false, false, false]) (L' := [some (.ref 11), none, some (.int p2)]) rfl ?_
        exact ok_X10_open_198 hQ N p1 p2 p3 c
set_option maxRecDepth 100000 in
theorem en_X10_open {Q : hS → am_H → Prop} (hQ : l1_em kc Q) (N : Nat) (c : hS) (p1 : Int32) (p2 : Int32) (p3 : Int32) : l1_G (wN wI) Q am_i_X10_open 0 [some (.ref 11), some (.int p1), some (.int p2), some (.int p3)] [] c (f_X10_open N c p1 p2 p3) := by
  rw [f_X10_open]
  refine l1_many mt_X10_open (pc' := 5) (L' := [some (.ref 11), some (.int p1), some (.int p2), some (.int p3)]) (st' := [.int (8 * p1), .ref 11]) 4 rfl ?_
  refine l1_putI hQ mt_X10_open rfl (o := 11) (ci := 9) (k := 9) (a := 0) rfl rfl rfl rfl rfl rfl (fun c1 => ?_)
  refine l1_many mt_X10_open (pc' := 13) (L' := [some (.ref 11), some (.int p1), some (.int p2), some (.int p3)]) (st' := [.int (8 * p2), .ref 11]) 4 rfl ?_
  refine l1_putI hQ mt_X10_open rfl (o := 11) (ci := 9) (k := 10) (a := 0) rfl rfl rfl rfl rfl rfl (fun c2 => ?_)
  refine l1_many mt_X10_open (pc' := 18) (L' := [some (.ref 11), some (.int p1), some (.int p2), some (.int p3)]) (st' := [.int p3, .ref 11]) 2 rfl ?_
  refine l1_putI hQ mt_X10_open rfl (o := 11) (ci := 9) (k := 11) (a := 0) rfl rfl rfl rfl rfl rfl (fun c3 => ?_)
  refine l1_many mt_X10_open (pc' := 22) (L' := [some (.ref 11), some (.int p1), some (.int p2), some (.int p3)]) (st' := [.ref 11]) 1 rfl ?_
  refine l1_getR hQ mt_X10_open rfl (o := 11) (ci := 9) (k := 1) (a := 0) (b := 1) rfl rfl rfl rfl rfl (q := 7) rfl ?_
  refine l1_many mt_X10_open (pc' := 26) (L' := [some (.ref 11), some (.int p1), some (.int p2), some (.int p3)]) (st' := [.int 0, .ref 7]) 1 rfl ?_
  refine l1_callV hQ mt_X10_open mt_X2_cutTo rfl rfl (o := 7) (ci := 1) (As := [.int 0]) (rest := []) rfl rfl rfl rfl rfl rfl (st1 := fun _ => []) (fun _ => rfl) (ok_X2_cutTo hQ c3 7 0 rfl) (fun _ c4 => ?_)
  refine l1_many mt_X10_open (pc' := 35) (L' := [some (.ref 11), some (.int p1), some (.int p2), some (.int p3), some (.int 0), some (.int 0)]) (st' := []) 4 rfl ?_
  refine l1_weak (m := [true, false, true, false, true, true, false, false]) (L' := [some (.ref 11), none, some (.int p2), none, some (.int 0), some (.int 0)]) rfl ?_
  exact ok_X10_open_35 hQ N p1 p2 p3 N c4 0 0
theorem ok_X10_open {Q : hS → am_H → Prop} (hQ : l1_em kc Q) (N : Nat) (c : hS) (p1 : Int32) (p2 : Int32) (p3 : Int32) : l1_T wI Q am_i_X10_open [.ref 11, .int p1, .int p2, .int p3] c (f_X10_open N c p1 p2 p3) := l1_of (en_X10_open hQ N c p1 p2 p3) ⟨rfl, rfl, rfl, rfl, trivial⟩
set_option maxRecDepth 100000 in
theorem ok_X11_checkOf_22 {Q : hS → am_H → Prop} (hQ : l1_em kc Q) (N : Nat) (p0 : Nat) (hp0 : kc p0 = 1) {k4 : hS → Int32 → Int32 → Option (Int32 × hS)} (hk4 : ∀ c v1 v2, l1_G (wN wI) Q am_i_X11_checkOf 4 [some (.ref p0), some (.int v1), some (.int v2)] [] c (k4 c v1 v2)) : ∀ n : Nat, ∀ (c : hS) (v1 : Int32) (v2 : Int32) (v3 : Int32), l1_G (wN wI) Q am_i_X11_checkOf 22 [some (.ref p0), some (.int v1), some (.int v2), some (.int v3)] [] c (f_X11_checkOf_22 N p0 k4 n c v1 v2 v3) := by
  intro n
  induction n with
  | zero => intro c v1 v2 v3; exact l1_none
  | succ n ih =>
    intro c v1 v2 v3
    rw [f_X11_checkOf_22]
    refine l1_many mt_X11_checkOf (pc' := bif am_cc .ge v3 8 then 54 else 28) (L' := [some (.ref p0), some (.int v1), some (.int v2), some (.int v3)]) (st' := []) 3 rfl ?_
    refine l1_bif rfl ?_ ?_
    · refine l1_many mt_X11_checkOf (pc' := 4) (L' := [some (.ref p0), some (.int v1), some (.int (v2 + 1)), some (.int v3)]) (st' := []) 2 rfl ?_
      refine l1_weak (m := [true, true, true, false]) (L' := [some (.ref p0), some (.int v1), some (.int (v2 + 1))]) rfl ?_
      exact hk4 c v1 (v2 + 1)
    · refine l1_many mt_X11_checkOf (pc' := bif am_cc .ne (v1 &&& 1) 1 then 44 else 35) (L' := [some (.ref p0), some (.int v1), some (.int v2), some (.int v3)]) (st' := []) 5 rfl ?_
      refine l1_bin rfl ?_ ?_
      · refine l1_many mt_X11_checkOf (pc' := 22) (L' := [some (.ref p0), some (.int ((j_ushr v1 1) ^^^ (-306674912))), some (.int v2), some (.int (v3 + 1))]) (st' := []) 9 rfl ?_
        exact ih c ((j_ushr v1 1) ^^^ (-306674912)) v2 (v3 + 1)
      · refine l1_many mt_X11_checkOf (pc' := 22) (L' := [some (.ref p0), some (.int (j_ushr v1 1)), some (.int v2), some (.int (v3 + 1))]) (st' := []) 6 rfl ?_
        exact ih c (j_ushr v1 1) v2 (v3 + 1)
set_option maxRecDepth 100000 in
theorem ok_X11_checkOf_4 {Q : hS → am_H → Prop} (hQ : l1_em kc Q) (N : Nat) (p0 : Nat) (hp0 : kc p0 = 1) : ∀ n : Nat, ∀ (c : hS) (v1 : Int32) (v2 : Int32), l1_G (wN wI) Q am_i_X11_checkOf 4 [some (.ref p0), some (.int v1), some (.int v2)] [] c (f_X11_checkOf_4 N p0 n c v1 v2) := by
  intro n
  induction n with
  | zero => intro c v1 v2; exact l1_none
  | succ n ih =>
    intro c v1 v2
    rw [f_X11_checkOf_4]
    refine l1_many mt_X11_checkOf (pc' := 6) (L' := [some (.ref p0), some (.int v1), some (.int v2)]) (st' := [.ref p0, .int v2]) 2 rfl ?_
    refine l1_callV hQ mt_X11_checkOf mt_X2_size rfl rfl (o := p0) (ci := 1) (As := []) (rest := [.int v2]) rfl rfl hp0 rfl rfl rfl (st1 := fun x1 => [.int x1, .int v2]) (fun _ => rfl) (ok_X2_size hQ c p0 hp0) (fun x1 c2 => ?_)
    refine l1_many mt_X11_checkOf (pc' := bif am_cc .ge v2 x1 then 60 else 12) (L' := [some (.ref p0), some (.int v1), some (.int v2)]) (st' := []) 1 rfl ?_
    refine l1_bif rfl ?_ ?_
    · refine l1_many mt_X11_checkOf (pc' := 63) (L' := [some (.ref p0), some (.int v1), some (.int v2)]) (st' := [.int (v1 ^^^ (-1))]) 3 rfl ?_
      exact l1_ret mt_X11_checkOf rfl rfl rfl
    · refine l1_many mt_X11_checkOf (pc' := 15) (L' := [some (.ref p0), some (.int v1), some (.int v2)]) (st' := [.int v2, .ref p0, .int v1]) 3 rfl ?_
      refine l1_callV hQ mt_X11_checkOf mt_X2_get rfl rfl (o := p0) (ci := 1) (As := [.int v2]) (rest := [.int v1]) rfl rfl hp0 rfl rfl rfl (st1 := fun x3 => [.int x3, .int v1]) (fun _ => rfl) (ok_X2_get hQ c2 p0 v2 hp0) (fun x3 c4 => ?_)
      refine l1_many mt_X11_checkOf (pc' := 22) (L' := [some (.ref p0), some (.int (v1 ^^^ x3)), some (.int v2), some (.int 0)]) (st' := []) 4 rfl ?_
      exact ok_X11_checkOf_22 hQ N p0 hp0 ih N c4 (v1 ^^^ x3) v2 0
set_option maxRecDepth 100000 in
theorem en_X11_checkOf {Q : hS → am_H → Prop} (hQ : l1_em kc Q) (N : Nat) (c : hS) (p0 : Nat) (hp0 : kc p0 = 1) : l1_G (wN wI) Q am_i_X11_checkOf 0 [some (.ref p0)] [] c (f_X11_checkOf N c p0) := by
  rw [f_X11_checkOf]
  refine l1_many mt_X11_checkOf (pc' := 4) (L' := [some (.ref p0), some (.int (-1)), some (.int 0)]) (st' := []) 4 rfl ?_
  exact ok_X11_checkOf_4 hQ N p0 hp0 N c (-1) 0
theorem ok_X11_checkOf {Q : hS → am_H → Prop} (hQ : l1_em kc Q) (N : Nat) (c : hS) (p0 : Nat) (hp0 : kc p0 = 1) : l1_T wI Q am_i_X11_checkOf [.ref p0] c (f_X11_checkOf N c p0) := l1_of (en_X11_checkOf hQ N c p0 hp0) ⟨rfl, trivial⟩
set_option maxRecDepth 100000 in
theorem en_X5_isBody {Q : hS → am_H → Prop} (hQ : l1_em kc Q) (N : Nat) (c : hS) (p1 : Int32) : l1_G (wN wI) Q am_i_X5_isBody 0 [some (.ref 36), some (.int p1)] [] c (f_X5_isBody N c p1) := by
  rw [f_X5_isBody]
  refine l1_many mt_X5_isBody (pc' := 1) (L' := [some (.ref 36), some (.int p1)]) (st' := [.ref 36]) 1 rfl ?_
  refine l1_getR hQ mt_X5_isBody rfl (o := 36) (ci := 4) (k := 5) (a := 0) (b := 1) rfl rfl rfl rfl rfl (q := 7) rfl ?_
  refine l1_callV hQ mt_X5_isBody mt_X2_size rfl rfl (o := 7) (ci := 1) (As := []) (rest := []) rfl rfl rfl rfl rfl rfl (st1 := fun x1 => [.int x1]) (fun _ => rfl) (ok_X2_size hQ c 7 rfl) (fun x1 c2 => ?_)
  refine l1_many mt_X5_isBody (pc' := 8) (L' := [some (.ref 36), some (.int p1)]) (st' := [.ref 36, .int x1]) 1 rfl ?_
  refine l1_getI hQ mt_X5_isBody rfl (o := 36) (ci := 4) (k := 12) (a := 0) (b := 0) rfl rfl rfl rfl rfl ?_
  refine l1_many mt_X5_isBody (pc' := bif am_cc .eq x1 (c2.1 36 12) then 28 else 14) (L' := [some (.ref 36), some (.int p1)]) (st' := []) 1 rfl ?_
  refine l1_bif rfl ?_ ?_
  · refine l1_many mt_X5_isBody (pc' := 29) (L' := [some (.ref 36), some (.int p1)]) (st' := [.ref 36]) 1 rfl ?_
    refine l1_getR hQ mt_X5_isBody rfl (o := 36) (ci := 4) (k := 5) (a := 0) (b := 1) rfl rfl rfl rfl rfl (q := 7) rfl ?_
    refine l1_callS mt_X5_isBody mt_X11_checkOf rfl rfl (As := [.ref 7]) (rest := []) rfl rfl rfl (st1 := fun x3 => [.int x3]) (fun _ => rfl) (ok_X11_checkOf hQ N c2 7 rfl) (fun x3 c4 => ?_)
    refine l1_many mt_X5_isBody (pc' := 36) (L' := [some (.ref 36), some (.int p1)]) (st' := [.ref 36, .int x3]) 1 rfl ?_
    refine l1_getR hQ mt_X5_isBody rfl (o := 36) (ci := 4) (k := 0) (a := 1) (b := 2) rfl rfl rfl rfl rfl (q := 3) rfl ?_
    refine l1_many mt_X5_isBody (pc' := 44) (L' := [some (.ref 36), some (.int p1)]) (st' := [.int 4, .int (p1 + 16), .ref 3, .int x3]) 4 rfl ?_
    refine l1_callV hQ mt_X5_isBody mt_X2_little rfl rfl (o := 3) (ci := 1) (As := [.int (p1 + 16), .int 4]) (rest := [.int x3]) rfl rfl rfl rfl rfl rfl (st1 := fun x5 => [.long x5, .int x3]) (fun _ => rfl) (ok_X2_little hQ N c4 3 (p1 + 16) 4 rfl) (fun x5 c6 => ?_)
    refine l1_many mt_X5_isBody (pc' := bif am_cc .eq x3 x5.toInt32 then 66 else 51) (L' := [some (.ref 36), some (.int p1)]) (st' := []) 2 rfl ?_
    refine l1_bif rfl ?_ ?_
    · refine l1_many mt_X5_isBody (pc' := 71) (L' := [some (.ref 36), some (.int p1)]) (st' := [.int 1]) 2 rfl ?_
      exact l1_ret mt_X5_isBody rfl rfl rfl
    · refine l1_many mt_X5_isBody (pc' := 52) (L' := [some (.ref 36), some (.int p1)]) (st' := [.ref 36]) 1 rfl ?_
      refine l1_getR hQ mt_X5_isBody rfl (o := 36) (ci := 4) (k := 2) (a := 1) (b := 2) rfl rfl rfl rfl rfl (q := 9) rfl ?_
      refine l1_many mt_X5_isBody (pc' := 60) (L' := [some (.ref 36), some (.int p1)]) (st' := [.int (p1 + 16), .int 4, .ref 9]) 4 rfl ?_
      refine l1_callV hQ mt_X5_isBody mt_X6_tell rfl rfl (o := 9) (ci := 5) (As := [.int 4, .int (p1 + 16)]) (rest := []) rfl rfl rfl rfl rfl rfl (st1 := fun x7 => [.int x7]) (fun _ => rfl) (ok_X6_tell hQ c6 4 (p1 + 16)) (fun x7 c8 => ?_)
      refine l1_many mt_X5_isBody (pc' := bif am_cc .eq x7 0 then 70 else 66) (L' := [some (.ref 36), some (.int p1)]) (st' := []) 1 rfl ?_
      refine l1_bif rfl ?_ ?_
      · refine l1_many mt_X5_isBody (pc' := 71) (L' := [some (.ref 36), some (.int p1)]) (st' := [.int 0]) 1 rfl ?_
        exact l1_ret mt_X5_isBody rfl rfl rfl
      · refine l1_many mt_X5_isBody (pc' := 71) (L' := [some (.ref 36), some (.int p1)]) (st' := [.int 1]) 2 rfl ?_
        exact l1_ret mt_X5_isBody rfl rfl rfl
  · refine l1_many mt_X5_isBody (pc' := 15) (L' := [some (.ref 36), some (.int p1)]) (st' := [.ref 36]) 1 rfl ?_
    refine l1_getR hQ mt_X5_isBody rfl (o := 36) (ci := 4) (k := 2) (a := 1) (b := 2) rfl rfl rfl rfl rfl (q := 9) rfl ?_
    refine l1_many mt_X5_isBody (pc' := 24) (L' := [some (.ref 36), some (.int p1)]) (st' := [.int (p1 + 24), .int 14, .ref 9]) 4 rfl ?_
    refine l1_callV hQ mt_X5_isBody mt_X6_tell rfl rfl (o := 9) (ci := 5) (As := [.int 14, .int (p1 + 24)]) (rest := []) rfl rfl rfl rfl rfl rfl (st1 := fun x9 => [.int x9]) (fun _ => rfl) (ok_X6_tell hQ c2 14 (p1 + 24)) (fun x9 c10 => ?_)
    refine l1_ck (fun hz => ?_)
    exact l1_retZ mt_X5_isBody rfl rfl rfl hz
theorem ok_X5_isBody {Q : hS → am_H → Prop} (hQ : l1_em kc Q) (N : Nat) (c : hS) (p1 : Int32) : l1_T wI Q am_i_X5_isBody [.ref 36, .int p1] c (f_X5_isBody N c p1) := l1_of (en_X5_isBody hQ N c p1) ⟨rfl, rfl, trivial⟩
set_option maxRecDepth 100000 in
theorem en_X5_isZero {Q : hS → am_H → Prop} (hQ : l1_em kc Q) (N : Nat) (c : hS) (p1 : Int32) (p2 : Int32) (p3 : Int32) : l1_G (wN wI) Q am_i_X5_isZero 0 [some (.ref 36), some (.int p1), some (.int p2), some (.int p3)] [] c (f_X5_isZero N c p1 p2 p3) := by
  rw [f_X5_isZero]
  refine l1_many mt_X5_isZero (pc' := 1) (L' := [some (.ref 36), some (.int p1), some (.int p2), some (.int p3)]) (st' := [.ref 36]) 1 rfl ?_
  refine l1_getR hQ mt_X5_isZero rfl (o := 36) (ci := 4) (k := 0) (a := 1) (b := 2) rfl rfl rfl rfl rfl (q := 3) rfl ?_
  refine l1_many mt_X5_isZero (pc' := 6) (L' := [some (.ref 36), some (.int p1), some (.int p2), some (.int p3)]) (st' := [.int p2, .int p1, .ref 3]) 2 rfl ?_
  refine l1_callV hQ mt_X5_isZero mt_X2_little rfl rfl (o := 3) (ci := 1) (As := [.int p1, .int p2]) (rest := []) rfl rfl rfl rfl rfl rfl (st1 := fun x1 => [.long x1]) (fun _ => rfl) (ok_X2_little hQ N c 3 p1 p2 rfl) (fun x1 c2 => ?_)
  refine l1_many mt_X5_isZero (pc' := bif am_cc .eq (j_cmp x1 0) 0 then 26 else 14) (L' := [some (.ref 36), some (.int p1), some (.int p2), some (.int p3)]) (st' := []) 3 rfl ?_
  refine l1_bif rfl ?_ ?_
  · refine l1_many mt_X5_isZero (pc' := 31) (L' := [some (.ref 36), some (.int p1), some (.int p2), some (.int p3)]) (st' := [.int 1]) 2 rfl ?_
    exact l1_ret mt_X5_isZero rfl rfl rfl
  · refine l1_many mt_X5_isZero (pc' := 15) (L' := [some (.ref 36), some (.int p1), some (.int p2), some (.int p3)]) (st' := [.ref 36]) 1 rfl ?_
    refine l1_getR hQ mt_X5_isZero rfl (o := 36) (ci := 4) (k := 2) (a := 1) (b := 2) rfl rfl rfl rfl rfl (q := 9) rfl ?_
    refine l1_many mt_X5_isZero (pc' := 20) (L' := [some (.ref 36), some (.int p1), some (.int p2), some (.int p3)]) (st' := [.int p1, .int p3, .ref 9]) 2 rfl ?_
    refine l1_callV hQ mt_X5_isZero mt_X6_tell rfl rfl (o := 9) (ci := 5) (As := [.int p3, .int p1]) (rest := []) rfl rfl rfl rfl rfl rfl (st1 := fun x3 => [.int x3]) (fun _ => rfl) (ok_X6_tell hQ c2 p3 p1) (fun x3 c4 => ?_)
    refine l1_many mt_X5_isZero (pc' := bif am_cc .eq x3 0 then 30 else 26) (L' := [some (.ref 36), some (.int p1), some (.int p2), some (.int p3)]) (st' := []) 1 rfl ?_
    refine l1_bif rfl ?_ ?_
    · refine l1_many mt_X5_isZero (pc' := 31) (L' := [some (.ref 36), some (.int p1), some (.int p2), some (.int p3)]) (st' := [.int 0]) 1 rfl ?_
      exact l1_ret mt_X5_isZero rfl rfl rfl
    · refine l1_many mt_X5_isZero (pc' := 31) (L' := [some (.ref 36), some (.int p1), some (.int p2), some (.int p3)]) (st' := [.int 1]) 2 rfl ?_
      exact l1_ret mt_X5_isZero rfl rfl rfl
theorem ok_X5_isZero {Q : hS → am_H → Prop} (hQ : l1_em kc Q) (N : Nat) (c : hS) (p1 : Int32) (p2 : Int32) (p3 : Int32) : l1_T wI Q am_i_X5_isZero [.ref 36, .int p1, .int p2, .int p3] c (f_X5_isZero N c p1 p2 p3) := l1_of (en_X5_isZero hQ N c p1 p2 p3) ⟨rfl, rfl, rfl, rfl, trivial⟩
set_option maxRecDepth 100000 in
theorem en_X5_isClosing {Q : hS → am_H → Prop} (hQ : l1_em kc Q) (N : Nat) (c : hS) : l1_G (wN wI) Q am_i_X5_isClosing 0 [some (.ref 36)] [] c (f_X5_isClosing N c) := by
  rw [f_X5_isClosing]
  refine l1_many mt_X5_isClosing (pc' := 2) (L' := [some (.ref 36)]) (st' := [.ref 36, .ref 36]) 2 rfl ?_
  refine l1_getR hQ mt_X5_isClosing rfl (o := 36) (ci := 4) (k := 0) (a := 1) (b := 2) rfl rfl rfl rfl rfl (q := 3) rfl ?_
  refine l1_callV hQ mt_X5_isClosing mt_X2_size rfl rfl (o := 3) (ci := 1) (As := []) (rest := [.ref 36]) rfl rfl rfl rfl rfl rfl (st1 := fun x1 => [.int x1, .ref 36]) (fun _ => rfl) (ok_X2_size hQ c 3 rfl) (fun x1 c2 => ?_)
  refine l1_many mt_X5_isClosing (pc' := 11) (L' := [some (.ref 36)]) (st' := [.int (x1 - 22), .ref 36]) 2 rfl ?_
  refine l1_putI hQ mt_X5_isClosing rfl (o := 36) (ci := 4) (k := 6) (a := 0) rfl rfl rfl rfl rfl rfl (fun c3 => ?_)
  refine l1_many mt_X5_isClosing (pc' := 15) (L' := [some (.ref 36)]) (st' := [.ref 36]) 1 rfl ?_
  refine l1_getI hQ mt_X5_isClosing rfl (o := 36) (ci := 4) (k := 6) (a := 0) (b := 0) rfl rfl rfl rfl rfl ?_
  refine l1_many mt_X5_isClosing (pc' := bif am_cc .ge (c3.1 36 6) 0 then 37 else 21) (L' := [some (.ref 36)]) (st' := []) 1 rfl ?_
  refine l1_bif rfl ?_ ?_
  · refine l1_many mt_X5_isClosing (pc' := 39) (L' := [some (.ref 36)]) (st' := [.ref 36, .ref 36]) 2 rfl ?_
    refine l1_getI hQ mt_X5_isClosing rfl (o := 36) (ci := 4) (k := 6) (a := 0) (b := 0) rfl rfl rfl rfl rfl ?_
    refine l1_many mt_X5_isClosing (pc' := 46) (L' := [some (.ref 36)]) (st' := [.int 3, .ref 1000000005, .int (c3.1 36 6), .ref 36]) 2 rfl ?_
    refine l1_callV hQ mt_X5_isClosing mt_X0_isMarked rfl rfl (o := 36) (ci := 4) (As := [.int (c3.1 36 6), .ref 1000000005, .int 3]) (rest := []) rfl rfl rfl rfl rfl rfl (st1 := fun x4 => [.int x4]) (fun _ => rfl) (ok_X0_isMarked_36 hQ N c3 (c3.1 36 6) sa5 3 oa5) (fun x4 c5 => ?_)
    refine l1_many mt_X5_isClosing (pc' := bif am_cc .eq x4 0 then 85 else 52) (L' := [some (.ref 36)]) (st' := []) 1 rfl ?_
    refine l1_bif rfl ?_ ?_
    · refine l1_many mt_X5_isClosing (pc' := 86) (L' := [some (.ref 36)]) (st' := [.int 0]) 1 rfl ?_
      exact l1_ret mt_X5_isClosing rfl rfl rfl
    · refine l1_many mt_X5_isClosing (pc' := 54) (L' := [some (.ref 36)]) (st' := [.ref 36, .ref 36]) 2 rfl ?_
      refine l1_getI hQ mt_X5_isClosing rfl (o := 36) (ci := 4) (k := 6) (a := 0) (b := 0) rfl rfl rfl rfl rfl ?_
      refine l1_many mt_X5_isClosing (pc' := 62) (L' := [some (.ref 36)]) (st' := [.int 6, .int 2, .int ((c5.1 36 6) + 4), .ref 36]) 4 rfl ?_
      refine l1_callV hQ mt_X5_isClosing mt_X5_isZero rfl rfl (o := 36) (ci := 4) (As := [.int ((c5.1 36 6) + 4), .int 2, .int 6]) (rest := []) rfl rfl rfl rfl rfl rfl (st1 := fun x6 => [.int x6]) (fun _ => rfl) (ok_X5_isZero hQ N c5 ((c5.1 36 6) + 4) 2 6) (fun x6 c7 => ?_)
      refine l1_many mt_X5_isClosing (pc' := bif am_cc .eq x6 0 then 85 else 68) (L' := [some (.ref 36)]) (st' := []) 1 rfl ?_
      refine l1_bif rfl ?_ ?_
      · refine l1_many mt_X5_isClosing (pc' := 86) (L' := [some (.ref 36)]) (st' := [.int 0]) 1 rfl ?_
        exact l1_ret mt_X5_isClosing rfl rfl rfl
      · refine l1_many mt_X5_isClosing (pc' := 70) (L' := [some (.ref 36)]) (st' := [.ref 36, .ref 36]) 2 rfl ?_
        refine l1_getI hQ mt_X5_isClosing rfl (o := 36) (ci := 4) (k := 6) (a := 0) (b := 0) rfl rfl rfl rfl rfl ?_
        refine l1_many mt_X5_isClosing (pc' := 79) (L' := [some (.ref 36)]) (st' := [.int 6, .int 2, .int ((c7.1 36 6) + 6), .ref 36]) 4 rfl ?_
        refine l1_callV hQ mt_X5_isClosing mt_X5_isZero rfl rfl (o := 36) (ci := 4) (As := [.int ((c7.1 36 6) + 6), .int 2, .int 6]) (rest := []) rfl rfl rfl rfl rfl rfl (st1 := fun x8 => [.int x8]) (fun _ => rfl) (ok_X5_isZero hQ N c7 ((c7.1 36 6) + 6) 2 6) (fun x8 c9 => ?_)
        refine l1_many mt_X5_isClosing (pc' := bif am_cc .ne x8 0 then 87 else 85) (L' := [some (.ref 36)]) (st' := []) 1 rfl ?_
        refine l1_bin rfl ?_ ?_
        · refine l1_many mt_X5_isClosing (pc' := 86) (L' := [some (.ref 36)]) (st' := [.int 0]) 1 rfl ?_
          exact l1_ret mt_X5_isClosing rfl rfl rfl
        · refine l1_many mt_X5_isClosing (pc' := 88) (L' := [some (.ref 36)]) (st' := [.ref 36]) 1 rfl ?_
          refine l1_getR hQ mt_X5_isClosing rfl (o := 36) (ci := 4) (k := 0) (a := 1) (b := 2) rfl rfl rfl rfl rfl (q := 3) rfl ?_
          refine l1_many mt_X5_isClosing (pc' := 92) (L' := [some (.ref 36)]) (st' := [.ref 36, .ref 3]) 1 rfl ?_
          refine l1_getI hQ mt_X5_isClosing rfl (o := 36) (ci := 4) (k := 6) (a := 0) (b := 0) rfl rfl rfl rfl rfl ?_
          refine l1_many mt_X5_isClosing (pc' := 99) (L' := [some (.ref 36)]) (st' := [.int 2, .int ((c9.1 36 6) + 8), .ref 3]) 3 rfl ?_
          refine l1_callV hQ mt_X5_isClosing mt_X2_little rfl rfl (o := 3) (ci := 1) (As := [.int ((c9.1 36 6) + 8), .int 2]) (rest := []) rfl rfl rfl rfl rfl rfl (st1 := fun x10 => [.long x10]) (fun _ => rfl) (ok_X2_little hQ N c9 3 ((c9.1 36 6) + 8) 2 rfl) (fun x10 c11 => ?_)
          refine l1_many mt_X5_isClosing (pc' := 103) (L' := [some (.ref 36)]) (st' := [.ref 36, .long x10]) 1 rfl ?_
          refine l1_getR hQ mt_X5_isClosing rfl (o := 36) (ci := 4) (k := 0) (a := 1) (b := 2) rfl rfl rfl rfl rfl (q := 3) rfl ?_
          refine l1_many mt_X5_isClosing (pc' := 107) (L' := [some (.ref 36)]) (st' := [.ref 36, .ref 3, .long x10]) 1 rfl ?_
          refine l1_getI hQ mt_X5_isClosing rfl (o := 36) (ci := 4) (k := 6) (a := 0) (b := 0) rfl rfl rfl rfl rfl ?_
          refine l1_many mt_X5_isClosing (pc' := 114) (L' := [some (.ref 36)]) (st' := [.int 2, .int ((c11.1 36 6) + 10), .ref 3, .long x10]) 3 rfl ?_
          refine l1_callV hQ mt_X5_isClosing mt_X2_little rfl rfl (o := 3) (ci := 1) (As := [.int ((c11.1 36 6) + 10), .int 2]) (rest := [.long x10]) rfl rfl rfl rfl rfl rfl (st1 := fun x12 => [.long x12, .long x10]) (fun _ => rfl) (ok_X2_little hQ N c11 3 ((c11.1 36 6) + 10) 2 rfl) (fun x12 c13 => ?_)
          refine l1_many mt_X5_isClosing (pc' := bif am_cc .eq (j_cmp x10 x12) 0 then 138 else 121) (L' := [some (.ref 36)]) (st' := []) 2 rfl ?_
          refine l1_bif rfl ?_ ?_
          · refine l1_many mt_X5_isClosing (pc' := 139) (L' := [some (.ref 36)]) (st' := [.ref 36]) 1 rfl ?_
            refine l1_getR hQ mt_X5_isClosing rfl (o := 36) (ci := 4) (k := 0) (a := 1) (b := 2) rfl rfl rfl rfl rfl (q := 3) rfl ?_
            refine l1_many mt_X5_isClosing (pc' := 143) (L' := [some (.ref 36)]) (st' := [.ref 36, .ref 3]) 1 rfl ?_
            refine l1_getI hQ mt_X5_isClosing rfl (o := 36) (ci := 4) (k := 6) (a := 0) (b := 0) rfl rfl rfl rfl rfl ?_
            refine l1_many mt_X5_isClosing (pc' := 150) (L' := [some (.ref 36)]) (st' := [.int 2, .int ((c13.1 36 6) + 10), .ref 3]) 3 rfl ?_
            refine l1_callV hQ mt_X5_isClosing mt_X2_little rfl rfl (o := 3) (ci := 1) (As := [.int ((c13.1 36 6) + 10), .int 2]) (rest := []) rfl rfl rfl rfl rfl rfl (st1 := fun x14 => [.long x14]) (fun _ => rfl) (ok_X2_little hQ N c13 3 ((c13.1 36 6) + 10) 2 rfl) (fun x14 c15 => ?_)
            refine l1_many mt_X5_isClosing (pc' := bif am_cc .le (j_cmp x14 16) 0 then 177 else 160) (L' := [some (.ref 36)]) (st' := []) 3 rfl ?_
            refine l1_bif rfl ?_ ?_
            · refine l1_many mt_X5_isClosing (pc' := 178) (L' := [some (.ref 36)]) (st' := [.ref 36]) 1 rfl ?_
              refine l1_getR hQ mt_X5_isClosing rfl (o := 36) (ci := 4) (k := 0) (a := 1) (b := 2) rfl rfl rfl rfl rfl (q := 3) rfl ?_
              refine l1_many mt_X5_isClosing (pc' := 182) (L' := [some (.ref 36)]) (st' := [.ref 36, .ref 3]) 1 rfl ?_
              refine l1_getI hQ mt_X5_isClosing rfl (o := 36) (ci := 4) (k := 6) (a := 0) (b := 0) rfl rfl rfl rfl rfl ?_
              refine l1_many mt_X5_isClosing (pc' := 189) (L' := [some (.ref 36)]) (st' := [.int 4, .int ((c15.1 36 6) + 16), .ref 3]) 3 rfl ?_
              refine l1_callV hQ mt_X5_isClosing mt_X2_little rfl rfl (o := 3) (ci := 1) (As := [.int ((c15.1 36 6) + 16), .int 4]) (rest := []) rfl rfl rfl rfl rfl rfl (st1 := fun x16 => [.long x16]) (fun _ => rfl) (ok_X2_little hQ N c15 3 ((c15.1 36 6) + 16) 4 rfl) (fun x16 c17 => ?_)
              refine l1_many mt_X5_isClosing (pc' := 194) (L' := [some (.ref 36), some (.long x16)]) (st' := [.ref 36]) 2 rfl ?_
              refine l1_getR hQ mt_X5_isClosing rfl (o := 36) (ci := 4) (k := 0) (a := 1) (b := 2) rfl rfl rfl rfl rfl (q := 3) rfl ?_
              refine l1_many mt_X5_isClosing (pc' := 198) (L' := [some (.ref 36), some (.long x16)]) (st' := [.ref 36, .ref 3]) 1 rfl ?_
              refine l1_getI hQ mt_X5_isClosing rfl (o := 36) (ci := 4) (k := 6) (a := 0) (b := 0) rfl rfl rfl rfl rfl ?_
              refine l1_many mt_X5_isClosing (pc' := 205) (L' := [some (.ref 36), some (.long x16)]) (st' := [.int 4, .int ((c17.1 36 6) + 12), .ref 3]) 3 rfl ?_
              refine l1_callV hQ mt_X5_isClosing mt_X2_little rfl rfl (o := 3) (ci := 1) (As := [.int ((c17.1 36 6) + 12), .int 4]) (rest := []) rfl rfl rfl rfl rfl rfl (st1 := fun x18 => [.long x18]) (fun _ => rfl) (ok_X2_little hQ N c17 3 ((c17.1 36 6) + 12) 4 rfl) (fun x18 c19 => ?_)
              refine l1_many mt_X5_isClosing (pc' := 211) (L' := [some (.ref 36), some (.long x16)]) (st' := [.ref 36, .long (x18 + x16)]) 3 rfl ?_
              refine l1_getI hQ mt_X5_isClosing rfl (o := 36) (ci := 4) (k := 6) (a := 0) (b := 0) rfl rfl rfl rfl rfl ?_
              refine l1_many mt_X5_isClosing (pc' := bif am_cc .eq (j_cmp (x18 + x16) ((c19.1 36 6).toInt64)) 0 then 236 else 219) (L' := [some (.ref 36), some (.long x16)]) (st' := []) 3 rfl ?_
              refine l1_bif rfl ?_ ?_
              · refine l1_many mt_X5_isClosing (pc' := 239) (L' := [some (.ref 36), some (.long x16)]) (st' := [.int x16.toInt32, .ref 36]) 3 rfl ?_
                refine l1_putI hQ mt_X5_isClosing rfl (o := 36) (ci := 4) (k := 7) (a := 0) rfl rfl rfl rfl rfl rfl (fun c20 => ?_)
                refine l1_many mt_X5_isClosing (pc' := 244) (L' := [some (.ref 36), some (.long x16)]) (st' := [.ref 36, .ref 36]) 2 rfl ?_
                refine l1_getI hQ mt_X5_isClosing rfl (o := 36) (ci := 4) (k := 6) (a := 0) (b := 0) rfl rfl rfl rfl rfl ?_
                refine l1_many mt_X5_isClosing (pc' := 253) (L' := [some (.ref 36), some (.long x16)]) (st' := [.int 6, .int 2, .int ((c20.1 36 6) + 20), .ref 36]) 4 rfl ?_
                refine l1_callV hQ mt_X5_isClosing mt_X5_isZero rfl rfl (o := 36) (ci := 4) (As := [.int ((c20.1 36 6) + 20), .int 2, .int 6]) (rest := []) rfl rfl rfl rfl rfl rfl (st1 := fun x21 => [.int x21]) (fun _ => rfl) (ok_X5_isZero hQ N c20 ((c20.1 36 6) + 20) 2 6) (fun x21 c22 => ?_)
                refine l1_ck (fun hz => ?_)
                exact l1_retZ mt_X5_isClosing rfl rfl rfl hz
              · refine l1_many mt_X5_isClosing (pc' := 220) (L' := [some (.ref 36), some (.long x16)]) (st' := [.ref 36]) 1 rfl ?_
                refine l1_getR hQ mt_X5_isClosing rfl (o := 36) (ci := 4) (k := 2) (a := 1) (b := 2) rfl rfl rfl rfl rfl (q := 9) rfl ?_
                refine l1_many mt_X5_isClosing (pc' := 226) (L' := [some (.ref 36), some (.long x16)]) (st' := [.ref 36, .int 12, .ref 9]) 2 rfl ?_
                refine l1_getI hQ mt_X5_isClosing rfl (o := 36) (ci := 4) (k := 6) (a := 0) (b := 0) rfl rfl rfl rfl rfl ?_
                refine l1_many mt_X5_isClosing (pc' := 232) (L' := [some (.ref 36), some (.long x16)]) (st' := [.int ((c19.1 36 6) + 12), .int 12, .ref 9]) 2 rfl ?_
                refine l1_callV hQ mt_X5_isClosing mt_X6_tell rfl rfl (o := 9) (ci := 5) (As := [.int 12, .int ((c19.1 36 6) + 12)]) (rest := []) rfl rfl rfl rfl rfl rfl (st1 := fun x23 => [.int x23]) (fun _ => rfl) (ok_X6_tell hQ c19 12 ((c19.1 36 6) + 12)) (fun x23 c24 => ?_)
                refine l1_ck (fun hz => ?_)
                exact l1_retZ mt_X5_isClosing rfl rfl rfl hz
            · refine l1_many mt_X5_isClosing (pc' := 161) (L' := [some (.ref 36)]) (st' := [.ref 36]) 1 rfl ?_
              refine l1_getR hQ mt_X5_isClosing rfl (o := 36) (ci := 4) (k := 2) (a := 1) (b := 2) rfl rfl rfl rfl rfl (q := 9) rfl ?_
              refine l1_many mt_X5_isClosing (pc' := 167) (L' := [some (.ref 36)]) (st' := [.ref 36, .int 11, .ref 9]) 2 rfl ?_
              refine l1_getI hQ mt_X5_isClosing rfl (o := 36) (ci := 4) (k := 6) (a := 0) (b := 0) rfl rfl rfl rfl rfl ?_
              refine l1_many mt_X5_isClosing (pc' := 173) (L' := [some (.ref 36)]) (st' := [.int ((c15.1 36 6) + 10), .int 11, .ref 9]) 2 rfl ?_
              refine l1_callV hQ mt_X5_isClosing mt_X6_tell rfl rfl (o := 9) (ci := 5) (As := [.int 11, .int ((c15.1 36 6) + 10)]) (rest := []) rfl rfl rfl rfl rfl rfl (st1 := fun x25 => [.int x25]) (fun _ => rfl) (ok_X6_tell hQ c15 11 ((c15.1 36 6) + 10)) (fun x25 c26 => ?_)
              refine l1_ck (fun hz => ?_)
              exact l1_retZ mt_X5_isClosing rfl rfl rfl hz
          · refine l1_many mt_X5_isClosing (pc' := 122) (L' := [some (.ref 36)]) (st' := [.ref 36]) 1 rfl ?_
            refine l1_getR hQ mt_X5_isClosing rfl (o := 36) (ci := 4) (k := 2) (a := 1) (b := 2) rfl rfl rfl rfl rfl (q := 9) rfl ?_
            refine l1_many mt_X5_isClosing (pc' := 128) (L' := [some (.ref 36)]) (st' := [.ref 36, .int 6, .ref 9]) 2 rfl ?_
            refine l1_getI hQ mt_X5_isClosing rfl (o := 36) (ci := 4) (k := 6) (a := 0) (b := 0) rfl rfl rfl rfl rfl ?_
            refine l1_many mt_X5_isClosing (pc' := 134) (L' := [some (.ref 36)]) (st' := [.int ((c13.1 36 6) + 8), .int 6, .ref 9]) 2 rfl ?_
            refine l1_callV hQ mt_X5_isClosing mt_X6_tell rfl rfl (o := 9) (ci := 5) (As := [.int 6, .int ((c13.1 36 6) + 8)]) (rest := []) rfl rfl rfl rfl rfl rfl (st1 := fun x27 => [.int x27]) (fun _ => rfl) (ok_X6_tell hQ c13 6 ((c13.1 36 6) + 8)) (fun x27 c28 => ?_)
            refine l1_ck (fun hz => ?_)
            exact l1_retZ mt_X5_isClosing rfl rfl rfl hz
  · refine l1_many mt_X5_isClosing (pc' := 22) (L' := [some (.ref 36)]) (st' := [.ref 36]) 1 rfl ?_
    refine l1_getR hQ mt_X5_isClosing rfl (o := 36) (ci := 4) (k := 2) (a := 1) (b := 2) rfl rfl rfl rfl rfl (q := 9) rfl ?_
    refine l1_many mt_X5_isClosing (pc' := 27) (L' := [some (.ref 36)]) (st' := [.ref 36, .int 1, .ref 9]) 2 rfl ?_
    refine l1_getR hQ mt_X5_isClosing rfl (o := 36) (ci := 4) (k := 0) (a := 1) (b := 2) rfl rfl rfl rfl rfl (q := 3) rfl ?_
    refine l1_callV hQ mt_X5_isClosing mt_X2_size rfl rfl (o := 3) (ci := 1) (As := []) (rest := [.int 1, .ref 9]) rfl rfl rfl rfl rfl rfl (st1 := fun x29 => [.int x29, .int 1, .ref 9]) (fun _ => rfl) (ok_X2_size hQ c3 3 rfl) (fun x29 c30 => ?_)
    refine l1_callV hQ mt_X5_isClosing mt_X6_tell rfl rfl (o := 9) (ci := 5) (As := [.int 1, .int x29]) (rest := []) rfl rfl rfl rfl rfl rfl (st1 := fun x31 => [.int x31]) (fun _ => rfl) (ok_X6_tell hQ c30 1 x29) (fun x31 c32 => ?_)
    refine l1_ck (fun hz => ?_)
    exact l1_retZ mt_X5_isClosing rfl rfl rfl hz
theorem ok_X5_isClosing {Q : hS → am_H → Prop} (hQ : l1_em kc Q) (N : Nat) (c : hS) : l1_T wI Q am_i_X5_isClosing [.ref 36] c (f_X5_isClosing N c) := l1_of (en_X5_isClosing hQ N c) ⟨rfl, trivial⟩
end
section
/-! THAT THE MACHINE FOLLOWS THEM, printed by gen_l1.py -/
set_option maxRecDepth 100000 in
theorem ok_X5_isEntry_132 {Q : hS → am_H → Prop} (hQ : l1_em kc Q) (N : Nat) (p1 : Int32) : ∀ (c : hS), l1_G (wN wI) Q am_i_X5_isEntry 132 [some (.ref 36), some (.int p1)] [] c (f_X5_isEntry_132 N p1 c) := by
  intro c
  rw [f_X5_isEntry_132]
  refine l1_many mt_X5_isEntry (pc' := 140) (L' := [some (.ref 36), some (.int p1)]) (st' := [.int 6, .int 2, .int (p1 + 34), .ref 36]) 6 rfl ?_
  refine l1_callV hQ mt_X5_isEntry mt_X5_isZero rfl rfl (o := 36) (ci := 4) (As := [.int (p1 + 34), .int 2, .int 6]) (rest := []) rfl rfl rfl rfl rfl rfl (st1 := fun x1 => [.int x1]) (fun _ => rfl) (ok_X5_isZero hQ N c (p1 + 34) 2 6) (fun x1 c2 => ?_)
  refine l1_many mt_X5_isEntry (pc' := bif am_cc .ne x1 0 then 148 else 146) (L' := [some (.ref 36), some (.int p1)]) (st' := []) 1 rfl ?_
  refine l1_bin rfl ?_ ?_
  · refine l1_many mt_X5_isEntry (pc' := 147) (L' := [some (.ref 36), some (.int p1)]) (st' := [.int 0]) 1 rfl ?_
    exact l1_ret mt_X5_isEntry rfl rfl rfl
  · refine l1_many mt_X5_isEntry (pc' := 150) (L' := [some (.ref 36), some (.int p1)]) (st' := [.ref 36, .ref 36]) 2 rfl ?_
    refine l1_getR hQ mt_X5_isEntry rfl (o := 36) (ci := 4) (k := 0) (a := 1) (b := 2) rfl rfl rfl rfl rfl (q := 3) rfl ?_
    refine l1_many mt_X5_isEntry (pc' := 158) (L' := [some (.ref 36), some (.int p1)]) (st' := [.int 2, .int (p1 + 28), .ref 3, .ref 36]) 4 rfl ?_
    refine l1_callV hQ mt_X5_isEntry mt_X2_little rfl rfl (o := 3) (ci := 1) (As := [.int (p1 + 28), .int 2]) (rest := [.ref 36]) rfl rfl rfl rfl rfl rfl (st1 := fun x3 => [.long x3, .ref 36]) (fun _ => rfl) (ok_X2_little hQ N c2 3 (p1 + 28) 2 rfl) (fun x3 c4 => ?_)
    refine l1_many mt_X5_isEntry (pc' := 162) (L' := [some (.ref 36), some (.int p1)]) (st' := [.int x3.toInt32, .ref 36]) 1 rfl ?_
    refine l1_putI hQ mt_X5_isEntry rfl (o := 36) (ci := 4) (k := 9) (a := 0) rfl rfl rfl rfl rfl rfl (fun c5 => ?_)
    refine l1_many mt_X5_isEntry (pc' := 171) (L' := [some (.ref 36), some (.int p1)]) (st' := [.ref 36, .int (p1 + 46), .ref 36]) 5 rfl ?_
    refine l1_getI hQ mt_X5_isEntry rfl (o := 36) (ci := 4) (k := 9) (a := 0) (b := 0) rfl rfl rfl rfl rfl ?_
    refine l1_many mt_X5_isEntry (pc' := 176) (L' := [some (.ref 36), some (.int p1)]) (st' := [.ref 36, .int ((p1 + 46) + (c5.1 36 9)), .ref 36]) 2 rfl ?_
    refine l1_getR hQ mt_X5_isEntry rfl (o := 36) (ci := 4) (k := 0) (a := 1) (b := 2) rfl rfl rfl rfl rfl (q := 3) rfl ?_
    refine l1_many mt_X5_isEntry (pc' := 184) (L' := [some (.ref 36), some (.int p1)]) (st' := [.int 2, .int (p1 + 30), .ref 3, .int ((p1 + 46) + (c5.1 36 9)), .ref 36]) 4 rfl ?_
    refine l1_callV hQ mt_X5_isEntry mt_X2_little rfl rfl (o := 3) (ci := 1) (As := [.int (p1 + 30), .int 2]) (rest := [.int ((p1 + 46) + (c5.1 36 9)), .ref 36]) rfl rfl rfl rfl rfl rfl (st1 := fun x6 => [.long x6, .int ((p1 + 46) + (c5.1 36 9)), .ref 36]) (fun _ => rfl) (ok_X2_little hQ N c5 3 (p1 + 30) 2 rfl) (fun x6 c7 => ?_)
    refine l1_many mt_X5_isEntry (pc' := 190) (L' := [some (.ref 36), some (.int p1)]) (st' := [.ref 36, .int (((p1 + 46) + (c5.1 36 9)) + x6.toInt32), .ref 36]) 3 rfl ?_
    refine l1_getR hQ mt_X5_isEntry rfl (o := 36) (ci := 4) (k := 0) (a := 1) (b := 2) rfl rfl rfl rfl rfl (q := 3) rfl ?_
    refine l1_many mt_X5_isEntry (pc' := 198) (L' := [some (.ref 36), some (.int p1)]) (st' := [.int 2, .int (p1 + 32), .ref 3, .int (((p1 + 46) + (c5.1 36 9)) + x6.toInt32), .ref 36]) 4 rfl ?_
    refine l1_callV hQ mt_X5_isEntry mt_X2_little rfl rfl (o := 3) (ci := 1) (As := [.int (p1 + 32), .int 2]) (rest := [.int (((p1 + 46) + (c5.1 36 9)) + x6.toInt32), .ref 36]) rfl rfl rfl rfl rfl rfl (st1 := fun x8 => [.long x8, .int (((p1 + 46) + (c5.1 36 9)) + x6.toInt32), .ref 36]) (fun _ => rfl) (ok_X2_little hQ N c7 3 (p1 + 32) 2 rfl) (fun x8 c9 => ?_)
    refine l1_many mt_X5_isEntry (pc' := 203) (L' := [some (.ref 36), some (.int p1)]) (st' := [.int ((((p1 + 46) + (c5.1 36 9)) + x6.toInt32) + x8.toInt32), .ref 36]) 2 rfl ?_
    refine l1_putI hQ mt_X5_isEntry rfl (o := 36) (ci := 4) (k := 10) (a := 0) rfl rfl rfl rfl rfl rfl (fun c10 => ?_)
    refine l1_many mt_X5_isEntry (pc' := 207) (L' := [some (.ref 36), some (.int p1)]) (st' := [.ref 36]) 1 rfl ?_
    refine l1_getI hQ mt_X5_isEntry rfl (o := 36) (ci := 4) (k := 10) (a := 0) (b := 0) rfl rfl rfl rfl rfl ?_
    refine l1_many mt_X5_isEntry (pc' := 211) (L' := [some (.ref 36), some (.int p1)]) (st' := [.ref 36, .int (c10.1 36 10)]) 1 rfl ?_
    refine l1_getI hQ mt_X5_isEntry rfl (o := 36) (ci := 4) (k := 6) (a := 0) (b := 0) rfl rfl rfl rfl rfl ?_
    refine l1_many mt_X5_isEntry (pc' := bif am_cc .le (c10.1 36 10) (c10.1 36 6) then 230 else 217) (L' := [some (.ref 36), some (.int p1)]) (st' := []) 1 rfl ?_
    refine l1_bif rfl ?_ ?_
    · refine l1_many mt_X5_isEntry (pc' := 235) (L' := [some (.ref 36), some (.int p1)]) (st' := [.int 1]) 2 rfl ?_
      exact l1_ret mt_X5_isEntry rfl rfl rfl
    · refine l1_many mt_X5_isEntry (pc' := 218) (L' := [some (.ref 36), some (.int p1)]) (st' := [.ref 36]) 1 rfl ?_
      refine l1_getR hQ mt_X5_isEntry rfl (o := 36) (ci := 4) (k := 2) (a := 1) (b := 2) rfl rfl rfl rfl rfl (q := 9) rfl ?_
      refine l1_many mt_X5_isEntry (pc' := 224) (L' := [some (.ref 36), some (.int p1)]) (st' := [.int p1, .int 12, .ref 9]) 2 rfl ?_
      refine l1_callV hQ mt_X5_isEntry mt_X6_tell rfl rfl (o := 9) (ci := 5) (As := [.int 12, .int p1]) (rest := []) rfl rfl rfl rfl rfl rfl (st1 := fun x11 => [.int x11]) (fun _ => rfl) (ok_X6_tell hQ c10 12 p1) (fun x11 c12 => ?_)
      refine l1_many mt_X5_isEntry (pc' := bif am_cc .eq x11 0 then 234 else 230) (L' := [some (.ref 36), some (.int p1)]) (st' := []) 1 rfl ?_
      refine l1_bif rfl ?_ ?_
      · refine l1_many mt_X5_isEntry (pc' := 235) (L' := [some (.ref 36), some (.int p1)]) (st' := [.int 0]) 1 rfl ?_
        exact l1_ret mt_X5_isEntry rfl rfl rfl
      · refine l1_many mt_X5_isEntry (pc' := 235) (L' := [some (.ref 36), some (.int p1)]) (st' := [.int 1]) 2 rfl ?_
        exact l1_ret mt_X5_isEntry rfl rfl rfl
set_option maxRecDepth 100000 in
theorem en_X5_isEntry {Q : hS → am_H → Prop} (hQ : l1_em kc Q) (N : Nat) (c : hS) (p1 : Int32) : l1_G (wN wI) Q am_i_X5_isEntry 0 [some (.ref 36), some (.int p1)] [] c (f_X5_isEntry N c p1) := by
  rw [f_X5_isEntry]
  refine l1_many mt_X5_isEntry (pc' := 5) (L' := [some (.ref 36), some (.int p1)]) (st' := [.ref 36, .int (p1 + 46)]) 4 rfl ?_
  refine l1_getI hQ mt_X5_isEntry rfl (o := 36) (ci := 4) (k := 6) (a := 0) (b := 0) rfl rfl rfl rfl rfl ?_
  refine l1_many mt_X5_isEntry (pc' := bif am_cc .le (p1 + 46) (c.1 36 6) then 22 else 11) (L' := [some (.ref 36), some (.int p1)]) (st' := []) 1 rfl ?_
  refine l1_bif rfl ?_ ?_
  · refine l1_many mt_X5_isEntry (pc' := 28) (L' := [some (.ref 36), some (.int p1)]) (st' := [.int 3, .ref 1000000004, .int p1, .ref 36]) 4 rfl ?_
    refine l1_callV hQ mt_X5_isEntry mt_X0_isMarked rfl rfl (o := 36) (ci := 4) (As := [.int p1, .ref 1000000004, .int 3]) (rest := []) rfl rfl rfl rfl rfl rfl (st1 := fun x1 => [.int x1]) (fun _ => rfl) (ok_X0_isMarked_36 hQ N c p1 sa4 3 oa4) (fun x1 c2 => ?_)
    refine l1_many mt_X5_isEntry (pc' := bif am_cc .ne x1 0 then 36 else 34) (L' := [some (.ref 36), some (.int p1)]) (st' := []) 1 rfl ?_
    refine l1_bin rfl ?_ ?_
    · refine l1_many mt_X5_isEntry (pc' := 35) (L' := [some (.ref 36), some (.int p1)]) (st' := [.int 0]) 1 rfl ?_
      exact l1_ret mt_X5_isEntry rfl rfl rfl
    · refine l1_many mt_X5_isEntry (pc' := 37) (L' := [some (.ref 36), some (.int p1)]) (st' := [.ref 36]) 1 rfl ?_
      refine l1_getR hQ mt_X5_isEntry rfl (o := 36) (ci := 4) (k := 0) (a := 1) (b := 2) rfl rfl rfl rfl rfl (q := 3) rfl ?_
      refine l1_many mt_X5_isEntry (pc' := 45) (L' := [some (.ref 36), some (.int p1)]) (st' := [.int 2, .int (p1 + 6), .ref 3]) 4 rfl ?_
      refine l1_callV hQ mt_X5_isEntry mt_X2_little rfl rfl (o := 3) (ci := 1) (As := [.int (p1 + 6), .int 2]) (rest := []) rfl rfl rfl rfl rfl rfl (st1 := fun x3 => [.long x3]) (fun _ => rfl) (ok_X2_little hQ N c2 3 (p1 + 6) 2 rfl) (fun x3 c4 => ?_)
      refine l1_many mt_X5_isEntry (pc' := bif am_cc .le (j_cmp x3 20) 0 then 69 else 55) (L' := [some (.ref 36), some (.int p1)]) (st' := []) 3 rfl ?_
      refine l1_bif rfl ?_ ?_
      · refine l1_many mt_X5_isEntry (pc' := 77) (L' := [some (.ref 36), some (.int p1)]) (st' := [.int 6, .int 2, .int (p1 + 8), .ref 36]) 6 rfl ?_
        refine l1_callV hQ mt_X5_isEntry mt_X5_isZero rfl rfl (o := 36) (ci := 4) (As := [.int (p1 + 8), .int 2, .int 6]) (rest := []) rfl rfl rfl rfl rfl rfl (st1 := fun x5 => [.int x5]) (fun _ => rfl) (ok_X5_isZero hQ N c4 (p1 + 8) 2 6) (fun x5 c6 => ?_)
        refine l1_many mt_X5_isEntry (pc' := bif am_cc .ne x5 0 then 85 else 83) (L' := [some (.ref 36), some (.int p1)]) (st' := []) 1 rfl ?_
        refine l1_bin rfl ?_ ?_
        · refine l1_many mt_X5_isEntry (pc' := 84) (L' := [some (.ref 36), some (.int p1)]) (st' := [.int 0]) 1 rfl ?_
          exact l1_ret mt_X5_isEntry rfl rfl rfl
        · refine l1_many mt_X5_isEntry (pc' := 87) (L' := [some (.ref 36), some (.int p1)]) (st' := [.ref 36, .ref 36]) 2 rfl ?_
          refine l1_getR hQ mt_X5_isEntry rfl (o := 36) (ci := 4) (k := 0) (a := 1) (b := 2) rfl rfl rfl rfl rfl (q := 3) rfl ?_
          refine l1_many mt_X5_isEntry (pc' := 95) (L' := [some (.ref 36), some (.int p1)]) (st' := [.int 2, .int (p1 + 10), .ref 3, .ref 36]) 4 rfl ?_
          refine l1_callV hQ mt_X5_isEntry mt_X2_little rfl rfl (o := 3) (ci := 1) (As := [.int (p1 + 10), .int 2]) (rest := [.ref 36]) rfl rfl rfl rfl rfl rfl (st1 := fun x7 => [.long x7, .ref 36]) (fun _ => rfl) (ok_X2_little hQ N c6 3 (p1 + 10) 2 rfl) (fun x7 c8 => ?_)
          refine l1_many mt_X5_isEntry (pc' := 99) (L' := [some (.ref 36), some (.int p1)]) (st' := [.int x7.toInt32, .ref 36]) 1 rfl ?_
          refine l1_putI hQ mt_X5_isEntry rfl (o := 36) (ci := 4) (k := 8) (a := 0) rfl rfl rfl rfl rfl rfl (fun c9 => ?_)
          refine l1_many mt_X5_isEntry (pc' := 103) (L' := [some (.ref 36), some (.int p1)]) (st' := [.ref 36]) 1 rfl ?_
          refine l1_getI hQ mt_X5_isEntry rfl (o := 36) (ci := 4) (k := 8) (a := 0) (b := 0) rfl rfl rfl rfl rfl ?_
          refine l1_many mt_X5_isEntry (pc' := bif am_cc .eq (c9.1 36 8) 0 then 132 else 109) (L' := [some (.ref 36), some (.int p1)]) (st' := []) 1 rfl ?_
          refine l1_bif rfl ?_ ?_
          · exact ok_X5_isEntry_132 hQ N p1 c9
          · refine l1_many mt_X5_isEntry (pc' := 110) (L' := [some (.ref 36), some (.int p1)]) (st' := [.ref 36]) 1 rfl ?_
            refine l1_getI hQ mt_X5_isEntry rfl (o := 36) (ci := 4) (k := 8) (a := 0) (b := 0) rfl rfl rfl rfl rfl ?_
            refine l1_many mt_X5_isEntry (pc' := bif am_cc .eq (c9.1 36 8) 8 then 132 else 118) (L' := [some (.ref 36), some (.int p1)]) (st' := []) 2 rfl ?_
            refine l1_bif rfl ?_ ?_
            · exact ok_X5_isEntry_132 hQ N p1 c9
            · refine l1_many mt_X5_isEntry (pc' := 119) (L' := [some (.ref 36), some (.int p1)]) (st' := [.ref 36]) 1 rfl ?_
              refine l1_getR hQ mt_X5_isEntry rfl (o := 36) (ci := 4) (k := 2) (a := 1) (b := 2) rfl rfl rfl rfl rfl (q := 9) rfl ?_
              refine l1_many mt_X5_isEntry (pc' := 128) (L' := [some (.ref 36), some (.int p1)]) (st' := [.int (p1 + 10), .int 8, .ref 9]) 4 rfl ?_
              refine l1_callV hQ mt_X5_isEntry mt_X6_tell rfl rfl (o := 9) (ci := 5) (As := [.int 8, .int (p1 + 10)]) (rest := []) rfl rfl rfl rfl rfl rfl (st1 := fun x10 => [.int x10]) (fun _ => rfl) (ok_X6_tell hQ c9 8 (p1 + 10)) (fun x10 c11 => ?_)
              refine l1_ck (fun hz => ?_)
              exact l1_retZ mt_X5_isEntry rfl rfl rfl hz
      · refine l1_many mt_X5_isEntry (pc' := 56) (L' := [some (.ref 36), some (.int p1)]) (st' := [.ref 36]) 1 rfl ?_
        refine l1_getR hQ mt_X5_isEntry rfl (o := 36) (ci := 4) (k := 2) (a := 1) (b := 2) rfl rfl rfl rfl rfl (q := 9) rfl ?_
        refine l1_many mt_X5_isEntry (pc' := 65) (L' := [some (.ref 36), some (.int p1)]) (st' := [.int (p1 + 6), .int 6, .ref 9]) 4 rfl ?_
        refine l1_callV hQ mt_X5_isEntry mt_X6_tell rfl rfl (o := 9) (ci := 5) (As := [.int 6, .int (p1 + 6)]) (rest := []) rfl rfl rfl rfl rfl rfl (st1 := fun x12 => [.int x12]) (fun _ => rfl) (ok_X6_tell hQ c4 6 (p1 + 6)) (fun x12 c13 => ?_)
        refine l1_ck (fun hz => ?_)
        exact l1_retZ mt_X5_isEntry rfl rfl rfl hz
  · refine l1_many mt_X5_isEntry (pc' := 12) (L' := [some (.ref 36), some (.int p1)]) (st' := [.ref 36]) 1 rfl ?_
    refine l1_getR hQ mt_X5_isEntry rfl (o := 36) (ci := 4) (k := 2) (a := 1) (b := 2) rfl rfl rfl rfl rfl (q := 9) rfl ?_
    refine l1_many mt_X5_isEntry (pc' := 18) (L' := [some (.ref 36), some (.int p1)]) (st' := [.int p1, .int 12, .ref 9]) 2 rfl ?_
    refine l1_callV hQ mt_X5_isEntry mt_X6_tell rfl rfl (o := 9) (ci := 5) (As := [.int 12, .int p1]) (rest := []) rfl rfl rfl rfl rfl rfl (st1 := fun x14 => [.int x14]) (fun _ => rfl) (ok_X6_tell hQ c 12 p1) (fun x14 c15 => ?_)
    refine l1_ck (fun hz => ?_)
    exact l1_retZ mt_X5_isEntry rfl rfl rfl hz
theorem ok_X5_isEntry {Q : hS → am_H → Prop} (hQ : l1_em kc Q) (N : Nat) (c : hS) (p1 : Int32) : l1_T wI Q am_i_X5_isEntry [.ref 36, .int p1] c (f_X5_isEntry N c p1) := l1_of (en_X5_isEntry hQ N c p1) ⟨rfl, rfl, trivial⟩
set_option maxRecDepth 100000 in
theorem ok_X5_isSame_88 {Q : hS → am_H → Prop} (hQ : l1_em kc Q) (N : Nat) (p1 : Int32) : ∀ n : Nat, ∀ (c : hS) (v2 : Int32), l1_G (wN wI) Q am_i_X5_isSame 88 [some (.ref 36), some (.int p1), some (.int v2)] [] c (f_X5_isSame_88 N p1 n c v2) := by
  intro n
  induction n with
  | zero => intro c v2; exact l1_none
  | succ n ih =>
    intro c v2
    rw [f_X5_isSame_88]
    refine l1_many mt_X5_isSame (pc' := 90) (L' := [some (.ref 36), some (.int p1), some (.int v2)]) (st' := [.ref 36, .int v2]) 2 rfl ?_
    refine l1_getI hQ mt_X5_isSame rfl (o := 36) (ci := 4) (k := 9) (a := 0) (b := 0) rfl rfl rfl rfl rfl ?_
    refine l1_many mt_X5_isSame (pc' := bif am_cc .ge v2 (c.1 36 9) then 153 else 96) (L' := [some (.ref 36), some (.int p1), some (.int v2)]) (st' := []) 1 rfl ?_
    refine l1_bif rfl ?_ ?_
    · refine l1_many mt_X5_isSame (pc' := 154) (L' := [some (.ref 36), some (.int p1), some (.int v2)]) (st' := [.int 1]) 1 rfl ?_
      exact l1_ret mt_X5_isSame rfl rfl rfl
    · refine l1_many mt_X5_isSame (pc' := 97) (L' := [some (.ref 36), some (.int p1), some (.int v2)]) (st' := [.ref 36]) 1 rfl ?_
      refine l1_getR hQ mt_X5_isSame rfl (o := 36) (ci := 4) (k := 0) (a := 1) (b := 2) rfl rfl rfl rfl rfl (q := 3) rfl ?_
      refine l1_many mt_X5_isSame (pc' := 101) (L' := [some (.ref 36), some (.int p1), some (.int v2)]) (st' := [.ref 36, .ref 3]) 1 rfl ?_
      refine l1_getI hQ mt_X5_isSame rfl (o := 36) (ci := 4) (k := 13) (a := 0) (b := 0) rfl rfl rfl rfl rfl ?_
      refine l1_many mt_X5_isSame (pc' := 109) (L' := [some (.ref 36), some (.int p1), some (.int v2)]) (st' := [.int (((c.1 36 13) + 30) + v2), .ref 3]) 4 rfl ?_
      refine l1_callV hQ mt_X5_isSame mt_X2_get rfl rfl (o := 3) (ci := 1) (As := [.int (((c.1 36 13) + 30) + v2)]) (rest := []) rfl rfl rfl rfl rfl rfl (st1 := fun x1 => [.int x1]) (fun _ => rfl) (ok_X2_get hQ c 3 (((c.1 36 13) + 30) + v2) rfl) (fun x1 c2 => ?_)
      refine l1_many mt_X5_isSame (pc' := 113) (L' := [some (.ref 36), some (.int p1), some (.int v2)]) (st' := [.ref 36, .int x1]) 1 rfl ?_
      refine l1_getR hQ mt_X5_isSame rfl (o := 36) (ci := 4) (k := 0) (a := 1) (b := 2) rfl rfl rfl rfl rfl (q := 3) rfl ?_
      refine l1_many mt_X5_isSame (pc' := 122) (L' := [some (.ref 36), some (.int p1), some (.int v2)]) (st' := [.int ((p1 + 46) + v2), .ref 3, .int x1]) 5 rfl ?_
      refine l1_callV hQ mt_X5_isSame mt_X2_get rfl rfl (o := 3) (ci := 1) (As := [.int ((p1 + 46) + v2)]) (rest := [.int x1]) rfl rfl rfl rfl rfl rfl (st1 := fun x3 => [.int x3, .int x1]) (fun _ => rfl) (ok_X2_get hQ c2 3 ((p1 + 46) + v2) rfl) (fun x3 c4 => ?_)
      refine l1_many mt_X5_isSame (pc' := bif am_cc .eq x1 x3 then 147 else 128) (L' := [some (.ref 36), some (.int p1), some (.int v2)]) (st' := []) 1 rfl ?_
      refine l1_bif rfl ?_ ?_
      · refine l1_many mt_X5_isSame (pc' := 88) (L' := [some (.ref 36), some (.int p1), some (.int (v2 + 1))]) (st' := []) 2 rfl ?_
        exact ih c4 (v2 + 1)
      · refine l1_many mt_X5_isSame (pc' := 129) (L' := [some (.ref 36), some (.int p1), some (.int v2)]) (st' := [.ref 36]) 1 rfl ?_
        refine l1_getR hQ mt_X5_isSame rfl (o := 36) (ci := 4) (k := 2) (a := 1) (b := 2) rfl rfl rfl rfl rfl (q := 9) rfl ?_
        refine l1_many mt_X5_isSame (pc' := 135) (L' := [some (.ref 36), some (.int p1), some (.int v2)]) (st' := [.ref 36, .int 13, .ref 9]) 2 rfl ?_
        refine l1_getI hQ mt_X5_isSame rfl (o := 36) (ci := 4) (k := 13) (a := 0) (b := 0) rfl rfl rfl rfl rfl ?_
        refine l1_many mt_X5_isSame (pc' := 143) (L' := [some (.ref 36), some (.int p1), some (.int v2)]) (st' := [.int (((c4.1 36 13) + 30) + v2), .int 13, .ref 9]) 4 rfl ?_
        refine l1_callV hQ mt_X5_isSame mt_X6_tell rfl rfl (o := 9) (ci := 5) (As := [.int 13, .int (((c4.1 36 13) + 30) + v2)]) (rest := []) rfl rfl rfl rfl rfl rfl (st1 := fun x5 => [.int x5]) (fun _ => rfl) (ok_X6_tell hQ c4 13 (((c4.1 36 13) + 30) + v2)) (fun x5 c6 => ?_)
        refine l1_ck (fun hz => ?_)
        exact l1_retZ mt_X5_isSame rfl rfl rfl hz
set_option maxRecDepth 100000 in
theorem ok_X5_isSame_2 {Q : hS → am_H → Prop} (hQ : l1_em kc Q) (N : Nat) (p1 : Int32) : ∀ n : Nat, ∀ (c : hS) (v2 : Int32), l1_G (wN wI) Q am_i_X5_isSame 2 [some (.ref 36), some (.int p1), some (.int v2)] [] c (f_X5_isSame_2 N p1 n c v2) := by
  intro n
  induction n with
  | zero => intro c v2; exact l1_none
  | succ n ih =>
    intro c v2
    rw [f_X5_isSame_2]
    refine l1_many mt_X5_isSame (pc' := 6) (L' := [some (.ref 36), some (.int p1), some (.int v2)]) (st' := [.ref 1000000006, .int v2]) 2 rfl ?_
    refine l1_slen hQ mt_X5_isSame rfl oa6 ?_
    refine l1_many mt_X5_isSame (pc' := bif am_cc .ge v2 (Int32.ofNat sa6.length) then 86 else 10) (L' := [some (.ref 36), some (.int p1), some (.int v2)]) (st' := []) 1 rfl ?_
    refine l1_bif rfl ?_ ?_
    · refine l1_many mt_X5_isSame (pc' := 88) (L' := [some (.ref 36), some (.int p1), some (.int 0)]) (st' := []) 2 rfl ?_
      exact ok_X5_isSame_88 hQ N p1 N c 0
    · refine l1_many mt_X5_isSame (pc' := 14) (L' := [some (.ref 36), some (.int p1), some (.int v2)]) (st' := [.ref 1000000007, .int v2]) 2 rfl ?_
      refine l1_slen hQ mt_X5_isSame rfl oa7 ?_
      refine l1_many mt_X5_isSame (pc' := bif am_cc .ge v2 (Int32.ofNat sa7.length) then 86 else 18) (L' := [some (.ref 36), some (.int p1), some (.int v2)]) (st' := []) 1 rfl ?_
      refine l1_bif rfl ?_ ?_
      · refine l1_many mt_X5_isSame (pc' := 88) (L' := [some (.ref 36), some (.int p1), some (.int 0)]) (st' := []) 2 rfl ?_
        exact ok_X5_isSame_88 hQ N p1 N c 0
      · refine l1_many mt_X5_isSame (pc' := 22) (L' := [some (.ref 36), some (.int p1), some (.int v2)]) (st' := [.int v2, .ref 1000000006]) 2 rfl ?_
        refine l1_ck (fun hx => ?_)
        refine l1_sald hQ mt_X5_isSame rfl oa6 hx ?_
        refine l1_many mt_X5_isSame (pc' := 28) (L' := [some (.ref 36), some (.int p1), some (.int v2), some (.int (sa6.getD v2.toNatClampNeg 0))]) (st' := [.int v2, .ref 1000000007]) 3 rfl ?_
        refine l1_ck (fun hx => ?_)
        refine l1_sald hQ mt_X5_isSame rfl oa7 hx ?_
        refine l1_many mt_X5_isSame (pc' := 32) (L' := [some (.ref 36), some (.int p1), some (.int v2), some (.int (sa6.getD v2.toNatClampNeg 0)), some (.int (sa7.getD v2.toNatClampNeg 0))]) (st' := [.ref 36]) 2 rfl ?_
        refine l1_getR hQ mt_X5_isSame rfl (o := 36) (ci := 4) (k := 0) (a := 1) (b := 2) rfl rfl rfl rfl rfl (q := 3) rfl ?_
        refine l1_many mt_X5_isSame (pc' := 36) (L' := [some (.ref 36), some (.int p1), some (.int v2), some (.int (sa6.getD v2.toNatClampNeg 0)), some (.int (sa7.getD v2.toNatClampNeg 0))]) (st' := [.ref 36, .ref 3]) 1 rfl ?_
        refine l1_getI hQ mt_X5_isSame rfl (o := 36) (ci := 4) (k := 13) (a := 0) (b := 0) rfl rfl rfl rfl rfl ?_
        refine l1_many mt_X5_isSame (pc' := 43) (L' := [some (.ref 36), some (.int p1), some (.int v2), some (.int (sa6.getD v2.toNatClampNeg 0)), some (.int (sa7.getD v2.toNatClampNeg 0))]) (st' := [.int (sa7.getD v2.toNatClampNeg 0), .int ((c.1 36 13) + (sa6.getD v2.toNatClampNeg 0)), .ref 3]) 3 rfl ?_
        refine l1_callV hQ mt_X5_isSame mt_X2_little rfl rfl (o := 3) (ci := 1) (As := [.int ((c.1 36 13) + (sa6.getD v2.toNatClampNeg 0)), .int (sa7.getD v2.toNatClampNeg 0)]) (rest := []) rfl rfl rfl rfl rfl rfl (st1 := fun x1 => [.long x1]) (fun _ => rfl) (ok_X2_little hQ N c 3 ((c.1 36 13) + (sa6.getD v2.toNatClampNeg 0)) (sa7.getD v2.toNatClampNeg 0) rfl) (fun x1 c2 => ?_)
        refine l1_many mt_X5_isSame (pc' := 47) (L' := [some (.ref 36), some (.int p1), some (.int v2), some (.int (sa6.getD v2.toNatClampNeg 0)), some (.int (sa7.getD v2.toNatClampNeg 0))]) (st' := [.ref 36, .long x1]) 1 rfl ?_
        refine l1_getR hQ mt_X5_isSame rfl (o := 36) (ci := 4) (k := 0) (a := 1) (b := 2) rfl rfl rfl rfl rfl (q := 3) rfl ?_
        refine l1_many mt_X5_isSame (pc' := 57) (L' := [some (.ref 36), some (.int p1), some (.int v2), some (.int (sa6.getD v2.toNatClampNeg 0)), some (.int (sa7.getD v2.toNatClampNeg 0))]) (st' := [.int (sa7.getD v2.toNatClampNeg 0), .int ((p1 + (sa6.getD v2.toNatClampNeg 0)) + 2), .ref 3, .long x1]) 6 rfl ?_
        refine l1_callV hQ mt_X5_isSame mt_X2_little rfl rfl (o := 3) (ci := 1) (As := [.int ((p1 + (sa6.getD v2.toNatClampNeg 0)) + 2), .int (sa7.getD v2.toNatClampNeg 0)]) (rest := [.long x1]) rfl rfl rfl rfl rfl rfl (st1 := fun x3 => [.long x3, .long x1]) (fun _ => rfl) (ok_X2_little hQ N c2 3 ((p1 + (sa6.getD v2.toNatClampNeg 0)) + 2) (sa7.getD v2.toNatClampNeg 0) rfl) (fun x3 c4 => ?_)
        refine l1_many mt_X5_isSame (pc' := bif am_cc .eq (j_cmp x1 x3) 0 then 80 else 64) (L' := [some (.ref 36), some (.int p1), some (.int v2), some (.int (sa6.getD v2.toNatClampNeg 0)), some (.int (sa7.getD v2.toNatClampNeg 0))]) (st' := []) 2 rfl ?_
        refine l1_bif rfl ?_ ?_
        · refine l1_many mt_X5_isSame (pc' := 2) (L' := [some (.ref 36), some (.int p1), some (.int (v2 + 1)), some (.int (sa6.getD v2.toNatClampNeg 0)), some (.int (sa7.getD v2.toNatClampNeg 0))]) (st' := []) 2 rfl ?_
          refine l1_weak (m := [true, true, true, false, false]) (L' := [some (.ref 36), some (.int p1), some (.int (v2 + 1))]) rfl ?_
          exact ih c4 (v2 + 1)
        · refine l1_many mt_X5_isSame (pc' := 65) (L' := [some (.ref 36), some (.int p1), some (.int v2), some (.int (sa6.getD v2.toNatClampNeg 0)), some (.int (sa7.getD v2.toNatClampNeg 0))]) (st' := [.ref 36]) 1 rfl ?_
          refine l1_getR hQ mt_X5_isSame rfl (o := 36) (ci := 4) (k := 2) (a := 1) (b := 2) rfl rfl rfl rfl rfl (q := 9) rfl ?_
          refine l1_many mt_X5_isSame (pc' := 71) (L' := [some (.ref 36), some (.int p1), some (.int v2), some (.int (sa6.getD v2.toNatClampNeg 0)), some (.int (sa7.getD v2.toNatClampNeg 0))]) (st' := [.ref 36, .int 13, .ref 9]) 2 rfl ?_
          refine l1_getI hQ mt_X5_isSame rfl (o := 36) (ci := 4) (k := 13) (a := 0) (b := 0) rfl rfl rfl rfl rfl ?_
          refine l1_many mt_X5_isSame (pc' := 76) (L' := [some (.ref 36), some (.int p1), some (.int v2), some (.int (sa6.getD v2.toNatClampNeg 0)), some (.int (sa7.getD v2.toNatClampNeg 0))]) (st' := [.int ((c4.1 36 13) + (sa6.getD v2.toNatClampNeg 0)), .int 13, .ref 9]) 2 rfl ?_
          refine l1_callV hQ mt_X5_isSame mt_X6_tell rfl rfl (o := 9) (ci := 5) (As := [.int 13, .int ((c4.1 36 13) + (sa6.getD v2.toNatClampNeg 0))]) (rest := []) rfl rfl rfl rfl rfl rfl (st1 := fun x5 => [.int x5]) (fun _ => rfl) (ok_X6_tell hQ c4 13 ((c4.1 36 13) + (sa6.getD v2.toNatClampNeg 0))) (fun x5 c6 => ?_)
          refine l1_ck (fun hz => ?_)
          exact l1_retZ mt_X5_isSame rfl rfl rfl hz
set_option maxRecDepth 100000 in
theorem en_X5_isSame {Q : hS → am_H → Prop} (hQ : l1_em kc Q) (N : Nat) (c : hS) (p1 : Int32) : l1_G (wN wI) Q am_i_X5_isSame 0 [some (.ref 36), some (.int p1)] [] c (f_X5_isSame N c p1) := by
  rw [f_X5_isSame]
  refine l1_many mt_X5_isSame (pc' := 2) (L' := [some (.ref 36), some (.int p1), some (.int 0)]) (st' := []) 2 rfl ?_
  exact ok_X5_isSame_2 hQ N p1 N c 0
theorem ok_X5_isSame {Q : hS → am_H → Prop} (hQ : l1_em kc Q) (N : Nat) (c : hS) (p1 : Int32) : l1_T wI Q am_i_X5_isSame [.ref 36, .int p1] c (f_X5_isSame N c p1) := l1_of (en_X5_isSame hQ N c p1) ⟨rfl, rfl, trivial⟩
set_option maxRecDepth 100000 in
theorem en_X5_isLocal {Q : hS → am_H → Prop} (hQ : l1_em kc Q) (N : Nat) (c : hS) (p1 : Int32) : l1_G (wN wI) Q am_i_X5_isLocal 0 [some (.ref 36), some (.int p1)] [] c (f_X5_isLocal N c p1) := by
  rw [f_X5_isLocal]
  refine l1_many mt_X5_isLocal (pc' := 1) (L' := [some (.ref 36), some (.int p1)]) (st' := [.ref 36]) 1 rfl ?_
  refine l1_getR hQ mt_X5_isLocal rfl (o := 36) (ci := 4) (k := 0) (a := 1) (b := 2) rfl rfl rfl rfl rfl (q := 3) rfl ?_
  refine l1_many mt_X5_isLocal (pc' := 9) (L' := [some (.ref 36), some (.int p1)]) (st' := [.int 4, .int (p1 + 42), .ref 3]) 4 rfl ?_
  refine l1_callV hQ mt_X5_isLocal mt_X2_little rfl rfl (o := 3) (ci := 1) (As := [.int (p1 + 42), .int 4]) (rest := []) rfl rfl rfl rfl rfl rfl (st1 := fun x1 => [.long x1]) (fun _ => rfl) (ok_X2_little hQ N c 3 (p1 + 42) 4 rfl) (fun x1 c2 => ?_)
  refine l1_many mt_X5_isLocal (pc' := 19) (L' := [some (.ref 36), some (.int p1), some (.long x1)]) (st' := [.ref 36, .long (x1 + 30)]) 5 rfl ?_
  refine l1_getI hQ mt_X5_isLocal rfl (o := 36) (ci := 4) (k := 7) (a := 0) (b := 0) rfl rfl rfl rfl rfl ?_
  refine l1_many mt_X5_isLocal (pc' := bif am_cc .le (j_cmp (x1 + 30) ((c2.1 36 7).toInt64)) 0 then 41 else 27) (L' := [some (.ref 36), some (.int p1), some (.long x1)]) (st' := []) 3 rfl ?_
  refine l1_bif rfl ?_ ?_
  · refine l1_many mt_X5_isLocal (pc' := 44) (L' := [some (.ref 36), some (.int p1), some (.long x1)]) (st' := [.int x1.toInt32, .ref 36]) 3 rfl ?_
    refine l1_putI hQ mt_X5_isLocal rfl (o := 36) (ci := 4) (k := 13) (a := 0) rfl rfl rfl rfl rfl rfl (fun c3 => ?_)
    refine l1_many mt_X5_isLocal (pc' := 49) (L' := [some (.ref 36), some (.int p1), some (.long x1)]) (st' := [.ref 36, .ref 36]) 2 rfl ?_
    refine l1_getI hQ mt_X5_isLocal rfl (o := 36) (ci := 4) (k := 13) (a := 0) (b := 0) rfl rfl rfl rfl rfl ?_
    refine l1_many mt_X5_isLocal (pc' := 56) (L' := [some (.ref 36), some (.int p1), some (.long x1)]) (st' := [.int 3, .ref 1000000003, .int (c3.1 36 13), .ref 36]) 2 rfl ?_
    refine l1_callV hQ mt_X5_isLocal mt_X0_isMarked rfl rfl (o := 36) (ci := 4) (As := [.int (c3.1 36 13), .ref 1000000003, .int 3]) (rest := []) rfl rfl rfl rfl rfl rfl (st1 := fun x4 => [.int x4]) (fun _ => rfl) (ok_X0_isMarked_36 hQ N c3 (c3.1 36 13) sa3 3 oa3) (fun x4 c5 => ?_)
    refine l1_many mt_X5_isLocal (pc' := bif am_cc .eq x4 0 then 70 else 62) (L' := [some (.ref 36), some (.int p1), some (.long x1)]) (st' := []) 1 rfl ?_
    refine l1_bif rfl ?_ ?_
    · refine l1_many mt_X5_isLocal (pc' := 71) (L' := [some (.ref 36), some (.int p1), some (.long x1)]) (st' := [.int 0]) 1 rfl ?_
      exact l1_ret mt_X5_isLocal rfl rfl rfl
    · refine l1_many mt_X5_isLocal (pc' := 64) (L' := [some (.ref 36), some (.int p1), some (.long x1)]) (st' := [.int p1, .ref 36]) 2 rfl ?_
      refine l1_callV hQ mt_X5_isLocal mt_X5_isSame rfl rfl (o := 36) (ci := 4) (As := [.int p1]) (rest := []) rfl rfl rfl rfl rfl rfl (st1 := fun x6 => [.int x6]) (fun _ => rfl) (ok_X5_isSame hQ N c5 p1) (fun x6 c7 => ?_)
      refine l1_many mt_X5_isLocal (pc' := bif am_cc .ne x6 0 then 72 else 70) (L' := [some (.ref 36), some (.int p1), some (.long x1)]) (st' := []) 1 rfl ?_
      refine l1_bin rfl ?_ ?_
      · refine l1_many mt_X5_isLocal (pc' := 71) (L' := [some (.ref 36), some (.int p1), some (.long x1)]) (st' := [.int 0]) 1 rfl ?_
        exact l1_ret mt_X5_isLocal rfl rfl rfl
      · refine l1_many mt_X5_isLocal (pc' := 74) (L' := [some (.ref 36), some (.int p1), some (.long x1)]) (st' := [.ref 36, .ref 36]) 2 rfl ?_
        refine l1_getI hQ mt_X5_isLocal rfl (o := 36) (ci := 4) (k := 13) (a := 0) (b := 0) rfl rfl rfl rfl rfl ?_
        refine l1_many mt_X5_isLocal (pc' := 81) (L' := [some (.ref 36), some (.int p1), some (.long x1)]) (st' := [.ref 36, .int ((c7.1 36 13) + 30), .ref 36]) 3 rfl ?_
        refine l1_getI hQ mt_X5_isLocal rfl (o := 36) (ci := 4) (k := 9) (a := 0) (b := 0) rfl rfl rfl rfl rfl ?_
        refine l1_many mt_X5_isLocal (pc' := 86) (L' := [some (.ref 36), some (.int p1), some (.long x1)]) (st' := [.ref 36, .int (((c7.1 36 13) + 30) + (c7.1 36 9)), .ref 36]) 2 rfl ?_
        refine l1_getR hQ mt_X5_isLocal rfl (o := 36) (ci := 4) (k := 0) (a := 1) (b := 2) rfl rfl rfl rfl rfl (q := 3) rfl ?_
        refine l1_many mt_X5_isLocal (pc' := 90) (L' := [some (.ref 36), some (.int p1), some (.long x1)]) (st' := [.ref 36, .ref 3, .int (((c7.1 36 13) + 30) + (c7.1 36 9)), .ref 36]) 1 rfl ?_
        refine l1_getI hQ mt_X5_isLocal rfl (o := 36) (ci := 4) (k := 13) (a := 0) (b := 0) rfl rfl rfl rfl rfl ?_
        refine l1_many mt_X5_isLocal (pc' := 97) (L' := [some (.ref 36), some (.int p1), some (.long x1)]) (st' := [.int 2, .int ((c7.1 36 13) + 28), .ref 3, .int (((c7.1 36 13) + 30) + (c7.1 36 9)), .ref 36]) 3 rfl ?_
        refine l1_callV hQ mt_X5_isLocal mt_X2_little rfl rfl (o := 3) (ci := 1) (As := [.int ((c7.1 36 13) + 28), .int 2]) (rest := [.int (((c7.1 36 13) + 30) + (c7.1 36 9)), .ref 36]) rfl rfl rfl rfl rfl rfl (st1 := fun x8 => [.long x8, .int (((c7.1 36 13) + 30) + (c7.1 36 9)), .ref 36]) (fun _ => rfl) (ok_X2_little hQ N c7 3 ((c7.1 36 13) + 28) 2 rfl) (fun x8 c9 => ?_)
        refine l1_many mt_X5_isLocal (pc' := 102) (L' := [some (.ref 36), some (.int p1), some (.long x1)]) (st' := [.int ((((c7.1 36 13) + 30) + (c7.1 36 9)) + x8.toInt32), .ref 36]) 2 rfl ?_
        refine l1_putI hQ mt_X5_isLocal rfl (o := 36) (ci := 4) (k := 14) (a := 0) rfl rfl rfl rfl rfl rfl (fun c10 => ?_)
        refine l1_many mt_X5_isLocal (pc' := 106) (L' := [some (.ref 36), some (.int p1), some (.long x1)]) (st' := [.ref 36]) 1 rfl ?_
        refine l1_getI hQ mt_X5_isLocal rfl (o := 36) (ci := 4) (k := 14) (a := 0) (b := 0) rfl rfl rfl rfl rfl ?_
        refine l1_many mt_X5_isLocal (pc' := 111) (L' := [some (.ref 36), some (.int p1), some (.long x1)]) (st' := [.ref 36, .long ((c10.1 36 14).toInt64)]) 2 rfl ?_
        refine l1_getR hQ mt_X5_isLocal rfl (o := 36) (ci := 4) (k := 0) (a := 1) (b := 2) rfl rfl rfl rfl rfl (q := 3) rfl ?_
        refine l1_many mt_X5_isLocal (pc' := 119) (L' := [some (.ref 36), some (.int p1), some (.long x1)]) (st' := [.int 4, .int (p1 + 20), .ref 3, .long ((c10.1 36 14).toInt64)]) 4 rfl ?_
        refine l1_callV hQ mt_X5_isLocal mt_X2_little rfl rfl (o := 3) (ci := 1) (As := [.int (p1 + 20), .int 4]) (rest := [.long ((c10.1 36 14).toInt64)]) rfl rfl rfl rfl rfl rfl (st1 := fun x11 => [.long x11, .long ((c10.1 36 14).toInt64)]) (fun _ => rfl) (ok_X2_little hQ N c10 3 (p1 + 20) 4 rfl) (fun x11 c12 => ?_)
        refine l1_many mt_X5_isLocal (pc' := 128) (L' := [some (.ref 36), some (.int p1), some (.long x1), none, some (.long (((c10.1 36 14).toInt64) + x11))]) (st' := [.ref 36, .long (((c10.1 36 14).toInt64) + x11)]) 4 rfl ?_
        refine l1_getI hQ mt_X5_isLocal rfl (o := 36) (ci := 4) (k := 7) (a := 0) (b := 0) rfl rfl rfl rfl rfl ?_
        refine l1_many mt_X5_isLocal (pc' := bif am_cc .le (j_cmp (((c10.1 36 14).toInt64) + x11) ((c12.1 36 7).toInt64)) 0 then 150 else 136) (L' := [some (.ref 36), some (.int p1), some (.long x1), none, some (.long (((c10.1 36 14).toInt64) + x11))]) (st' := []) 3 rfl ?_
        refine l1_bif rfl ?_ ?_
        · refine l1_many mt_X5_isLocal (pc' := 154) (L' := [some (.ref 36), some (.int p1), some (.long x1), none, some (.long (((c10.1 36 14).toInt64) + x11))]) (st' := [.int ((((c10.1 36 14).toInt64) + x11).toInt32), .ref 36]) 3 rfl ?_
          refine l1_putI hQ mt_X5_isLocal rfl (o := 36) (ci := 4) (k := 15) (a := 0) rfl rfl rfl rfl rfl rfl (fun c13 => ?_)
          refine l1_many mt_X5_isLocal (pc' := 158) (L' := [some (.ref 36), some (.int p1), some (.long x1), none, some (.long (((c10.1 36 14).toInt64) + x11))]) (st' := [.int 1]) 1 rfl ?_
          exact l1_ret mt_X5_isLocal rfl rfl rfl
        · refine l1_many mt_X5_isLocal (pc' := 137) (L' := [some (.ref 36), some (.int p1), some (.long x1), none, some (.long (((c10.1 36 14).toInt64) + x11))]) (st' := [.ref 36]) 1 rfl ?_
          refine l1_getR hQ mt_X5_isLocal rfl (o := 36) (ci := 4) (k := 2) (a := 1) (b := 2) rfl rfl rfl rfl rfl (q := 9) rfl ?_
          refine l1_many mt_X5_isLocal (pc' := 146) (L' := [some (.ref 36), some (.int p1), some (.long x1), none, some (.long (((c10.1 36 14).toInt64) + x11))]) (st' := [.int (p1 + 42), .int 12, .ref 9]) 4 rfl ?_
          refine l1_callV hQ mt_X5_isLocal mt_X6_tell rfl rfl (o := 9) (ci := 5) (As := [.int 12, .int (p1 + 42)]) (rest := []) rfl rfl rfl rfl rfl rfl (st1 := fun x14 => [.int x14]) (fun _ => rfl) (ok_X6_tell hQ c12 12 (p1 + 42)) (fun x14 c15 => ?_)
          refine l1_ck (fun hz => ?_)
          exact l1_retZ mt_X5_isLocal rfl rfl rfl hz
  · refine l1_many mt_X5_isLocal (pc' := 28) (L' := [some (.ref 36), some (.int p1), some (.long x1)]) (st' := [.ref 36]) 1 rfl ?_
    refine l1_getR hQ mt_X5_isLocal rfl (o := 36) (ci := 4) (k := 2) (a := 1) (b := 2) rfl rfl rfl rfl rfl (q := 9) rfl ?_
    refine l1_many mt_X5_isLocal (pc' := 37) (L' := [some (.ref 36), some (.int p1), some (.long x1)]) (st' := [.int (p1 + 42), .int 12, .ref 9]) 4 rfl ?_
    refine l1_callV hQ mt_X5_isLocal mt_X6_tell rfl rfl (o := 9) (ci := 5) (As := [.int 12, .int (p1 + 42)]) (rest := []) rfl rfl rfl rfl rfl rfl (st1 := fun x16 => [.int x16]) (fun _ => rfl) (ok_X6_tell hQ c2 12 (p1 + 42)) (fun x16 c17 => ?_)
    refine l1_ck (fun hz => ?_)
    exact l1_retZ mt_X5_isLocal rfl rfl rfl hz
theorem ok_X5_isLocal {Q : hS → am_H → Prop} (hQ : l1_em kc Q) (N : Nat) (c : hS) (p1 : Int32) : l1_T wI Q am_i_X5_isLocal [.ref 36, .int p1] c (f_X5_isLocal N c p1) := l1_of (en_X5_isLocal hQ N c p1) ⟨rfl, rfl, trivial⟩
set_option maxRecDepth 100000 in
theorem ok_X5_isMember_143 {Q : hS → am_H → Prop} (hQ : l1_em kc Q) (N : Nat) (p1 : Int32) : ∀ (c : hS), l1_G (wN wI) Q am_i_X5_isMember 143 [some (.ref 36), some (.int p1)] [] c (f_X5_isMember_143 N p1 c) := by
  intro c
  rw [f_X5_isMember_143]
  refine l1_many mt_X5_isMember (pc' := 144) (L' := [some (.ref 36), some (.int p1)]) (st' := [.ref 36]) 1 rfl ?_
  refine l1_getR hQ mt_X5_isMember rfl (o := 36) (ci := 4) (k := 0) (a := 1) (b := 2) rfl rfl rfl rfl rfl (q := 3) rfl ?_
  refine l1_many mt_X5_isMember (pc' := 152) (L' := [some (.ref 36), some (.int p1)]) (st' := [.int 4, .int (p1 + 24), .ref 3]) 4 rfl ?_
  refine l1_callV hQ mt_X5_isMember mt_X2_little rfl rfl (o := 3) (ci := 1) (As := [.int (p1 + 24), .int 4]) (rest := []) rfl rfl rfl rfl rfl rfl (st1 := fun x1 => [.long x1]) (fun _ => rfl) (ok_X2_little hQ N c 3 (p1 + 24) 4 rfl) (fun x1 c2 => ?_)
  refine l1_many mt_X5_isMember (pc' := bif am_cc .le (j_cmp x1 400) 0 then 178 else 164) (L' := [some (.ref 36), some (.int p1), none, some (.long x1)]) (st' := []) 5 rfl ?_
  refine l1_bif rfl ?_ ?_
  · refine l1_many mt_X5_isMember (pc' := 181) (L' := [some (.ref 36), some (.int p1), none, some (.long x1)]) (st' := [.int x1.toInt32, .ref 36]) 3 rfl ?_
    refine l1_putI hQ mt_X5_isMember rfl (o := 36) (ci := 4) (k := 12) (a := 0) rfl rfl rfl rfl rfl rfl (fun c3 => ?_)
    refine l1_many mt_X5_isMember (pc' := 185) (L' := [some (.ref 36), some (.int p1), none, some (.long x1)]) (st' := [.ref 36]) 1 rfl ?_
    refine l1_getI hQ mt_X5_isMember rfl (o := 36) (ci := 4) (k := 8) (a := 0) (b := 0) rfl rfl rfl rfl rfl ?_
    refine l1_many mt_X5_isMember (pc' := bif am_cc .ne (c3.1 36 8) 0 then 224 else 191) (L' := [some (.ref 36), some (.int p1), none, some (.long x1)]) (st' := []) 1 rfl ?_
    refine l1_bin rfl ?_ ?_
    · refine l1_many mt_X5_isMember (pc' := 192) (L' := [some (.ref 36), some (.int p1), none, some (.long x1)]) (st' := [.ref 36]) 1 rfl ?_
      refine l1_getR hQ mt_X5_isMember rfl (o := 36) (ci := 4) (k := 0) (a := 1) (b := 2) rfl rfl rfl rfl rfl (q := 3) rfl ?_
      refine l1_many mt_X5_isMember (pc' := 200) (L' := [some (.ref 36), some (.int p1), none, some (.long x1)]) (st' := [.int 4, .int (p1 + 20), .ref 3]) 4 rfl ?_
      refine l1_callV hQ mt_X5_isMember mt_X2_little rfl rfl (o := 3) (ci := 1) (As := [.int (p1 + 20), .int 4]) (rest := []) rfl rfl rfl rfl rfl rfl (st1 := fun x4 => [.long x4]) (fun _ => rfl) (ok_X2_little hQ N c3 3 (p1 + 20) 4 rfl) (fun x4 c5 => ?_)
      refine l1_many mt_X5_isMember (pc' := bif am_cc .eq (j_cmp x4 x1) 0 then 224 else 208) (L' := [some (.ref 36), some (.int p1), none, some (.long x1)]) (st' := []) 3 rfl ?_
      refine l1_bif rfl ?_ ?_
      · refine l1_many mt_X5_isMember (pc' := 229) (L' := [some (.ref 36), some (.int p1), none, some (.long x1)]) (st' := [.int 1]) 2 rfl ?_
        exact l1_ret mt_X5_isMember rfl rfl rfl
      · refine l1_many mt_X5_isMember (pc' := 209) (L' := [some (.ref 36), some (.int p1), none, some (.long x1)]) (st' := [.ref 36]) 1 rfl ?_
        refine l1_getR hQ mt_X5_isMember rfl (o := 36) (ci := 4) (k := 2) (a := 1) (b := 2) rfl rfl rfl rfl rfl (q := 9) rfl ?_
        refine l1_many mt_X5_isMember (pc' := 218) (L' := [some (.ref 36), some (.int p1), none, some (.long x1)]) (st' := [.int (p1 + 20), .int 7, .ref 9]) 4 rfl ?_
        refine l1_callV hQ mt_X5_isMember mt_X6_tell rfl rfl (o := 9) (ci := 5) (As := [.int 7, .int (p1 + 20)]) (rest := []) rfl rfl rfl rfl rfl rfl (st1 := fun x6 => [.int x6]) (fun _ => rfl) (ok_X6_tell hQ c5 7 (p1 + 20)) (fun x6 c7 => ?_)
        refine l1_many mt_X5_isMember (pc' := bif am_cc .eq x6 0 then 228 else 224) (L' := [some (.ref 36), some (.int p1), none, some (.long x1)]) (st' := []) 1 rfl ?_
        refine l1_bif rfl ?_ ?_
        · refine l1_many mt_X5_isMember (pc' := 229) (L' := [some (.ref 36), some (.int p1), none, some (.long x1)]) (st' := [.int 0]) 1 rfl ?_
          exact l1_ret mt_X5_isMember rfl rfl rfl
        · refine l1_many mt_X5_isMember (pc' := 229) (L' := [some (.ref 36), some (.int p1), none, some (.long x1)]) (st' := [.int 1]) 2 rfl ?_
          exact l1_ret mt_X5_isMember rfl rfl rfl
    · refine l1_many mt_X5_isMember (pc' := 229) (L' := [some (.ref 36), some (.int p1), none, some (.long x1)]) (st' := [.int 1]) 2 rfl ?_
      exact l1_ret mt_X5_isMember rfl rfl rfl
  · refine l1_many mt_X5_isMember (pc' := 165) (L' := [some (.ref 36), some (.int p1), none, some (.long x1)]) (st' := [.ref 36]) 1 rfl ?_
    refine l1_getR hQ mt_X5_isMember rfl (o := 36) (ci := 4) (k := 2) (a := 1) (b := 2) rfl rfl rfl rfl rfl (q := 9) rfl ?_
    refine l1_many mt_X5_isMember (pc' := 174) (L' := [some (.ref 36), some (.int p1), none, some (.long x1)]) (st' := [.int (p1 + 24), .int 7, .ref 9]) 4 rfl ?_
    refine l1_callV hQ mt_X5_isMember mt_X6_tell rfl rfl (o := 9) (ci := 5) (As := [.int 7, .int (p1 + 24)]) (rest := []) rfl rfl rfl rfl rfl rfl (st1 := fun x8 => [.int x8]) (fun _ => rfl) (ok_X6_tell hQ c2 7 (p1 + 24)) (fun x8 c9 => ?_)
    refine l1_ck (fun hz => ?_)
    exact l1_retZ mt_X5_isMember rfl rfl rfl hz
set_option maxRecDepth 100000 in
theorem ok_X5_isMember_75 {Q : hS → am_H → Prop} (hQ : l1_em kc Q) (N : Nat) (p1 : Int32) : ∀ (c : hS) (w0 : Int32) (w1 : Int32), l1_G (wN wI) Q am_i_X5_isMember 75 [some (.ref 36), some (.int p1)] [.int w0, .int w1, .ref 3, .ref 5] c (f_X5_isMember_75 N p1 c w0 w1) := by
  intro c w0 w1
  rw [f_X5_isMember_75]
  refine l1_callV hQ mt_X5_isMember mt_X2_addRow rfl rfl (o := 5) (ci := 1) (As := [.ref 3, .int w1, .int w0]) (rest := []) rfl rfl rfl rfl rfl rfl (st1 := fun _ => []) (fun _ => rfl) (ok_X2_addRow hQ N c 5 3 w1 w0 rfl rfl) (fun _ c1 => ?_)
  refine l1_many mt_X5_isMember (pc' := 79) (L' := [some (.ref 36), some (.int p1)]) (st' := [.ref 36]) 1 rfl ?_
  refine l1_getI hQ mt_X5_isMember rfl (o := 36) (ci := 4) (k := 11) (a := 0) (b := 0) rfl rfl rfl rfl rfl ?_
  refine l1_many mt_X5_isMember (pc' := bif am_cc .eq (c1.1 36 11) 0 then 143 else 85) (L' := [some (.ref 36), some (.int p1)]) (st' := []) 1 rfl ?_
  refine l1_bif rfl ?_ ?_
  · exact ok_X5_isMember_143 hQ N p1 c1
  · refine l1_many mt_X5_isMember (pc' := 93) (L' := [some (.ref 36), some (.int p1)]) (st' := [.int 7, .int 2, .int (p1 + 10), .ref 36]) 6 rfl ?_
    refine l1_callV hQ mt_X5_isMember mt_X5_isZero rfl rfl (o := 36) (ci := 4) (As := [.int (p1 + 10), .int 2, .int 7]) (rest := []) rfl rfl rfl rfl rfl rfl (st1 := fun x2 => [.int x2]) (fun _ => rfl) (ok_X5_isZero hQ N c1 (p1 + 10) 2 7) (fun x2 c3 => ?_)
    refine l1_many mt_X5_isMember (pc' := bif am_cc .eq x2 0 then 141 else 99) (L' := [some (.ref 36), some (.int p1)]) (st' := []) 1 rfl ?_
    refine l1_bif rfl ?_ ?_
    · refine l1_many mt_X5_isMember (pc' := 142) (L' := [some (.ref 36), some (.int p1)]) (st' := [.int 0]) 1 rfl ?_
      exact l1_ret mt_X5_isMember rfl rfl rfl
    · refine l1_many mt_X5_isMember (pc' := 107) (L' := [some (.ref 36), some (.int p1)]) (st' := [.int 7, .int 4, .int (p1 + 16), .ref 36]) 6 rfl ?_
      refine l1_callV hQ mt_X5_isMember mt_X5_isZero rfl rfl (o := 36) (ci := 4) (As := [.int (p1 + 16), .int 4, .int 7]) (rest := []) rfl rfl rfl rfl rfl rfl (st1 := fun x4 => [.int x4]) (fun _ => rfl) (ok_X5_isZero hQ N c3 (p1 + 16) 4 7) (fun x4 c5 => ?_)
      refine l1_many mt_X5_isMember (pc' := bif am_cc .eq x4 0 then 141 else 113) (L' := [some (.ref 36), some (.int p1)]) (st' := []) 1 rfl ?_
      refine l1_bif rfl ?_ ?_
      · refine l1_many mt_X5_isMember (pc' := 142) (L' := [some (.ref 36), some (.int p1)]) (st' := [.int 0]) 1 rfl ?_
        exact l1_ret mt_X5_isMember rfl rfl rfl
      · refine l1_many mt_X5_isMember (pc' := 121) (L' := [some (.ref 36), some (.int p1)]) (st' := [.int 7, .int 4, .int (p1 + 20), .ref 36]) 6 rfl ?_
        refine l1_callV hQ mt_X5_isMember mt_X5_isZero rfl rfl (o := 36) (ci := 4) (As := [.int (p1 + 20), .int 4, .int 7]) (rest := []) rfl rfl rfl rfl rfl rfl (st1 := fun x6 => [.int x6]) (fun _ => rfl) (ok_X5_isZero hQ N c5 (p1 + 20) 4 7) (fun x6 c7 => ?_)
        refine l1_many mt_X5_isMember (pc' := bif am_cc .eq x6 0 then 141 else 127) (L' := [some (.ref 36), some (.int p1)]) (st' := []) 1 rfl ?_
        refine l1_bif rfl ?_ ?_
        · refine l1_many mt_X5_isMember (pc' := 142) (L' := [some (.ref 36), some (.int p1)]) (st' := [.int 0]) 1 rfl ?_
          exact l1_ret mt_X5_isMember rfl rfl rfl
        · refine l1_many mt_X5_isMember (pc' := 135) (L' := [some (.ref 36), some (.int p1)]) (st' := [.int 7, .int 4, .int (p1 + 24), .ref 36]) 6 rfl ?_
          refine l1_callV hQ mt_X5_isMember mt_X5_isZero rfl rfl (o := 36) (ci := 4) (As := [.int (p1 + 24), .int 4, .int 7]) (rest := []) rfl rfl rfl rfl rfl rfl (st1 := fun x8 => [.int x8]) (fun _ => rfl) (ok_X5_isZero hQ N c7 (p1 + 24) 4 7) (fun x8 c9 => ?_)
          refine l1_many mt_X5_isMember (pc' := bif am_cc .ne x8 0 then 143 else 141) (L' := [some (.ref 36), some (.int p1)]) (st' := []) 1 rfl ?_
          refine l1_bin rfl ?_ ?_
          · refine l1_many mt_X5_isMember (pc' := 142) (L' := [some (.ref 36), some (.int p1)]) (st' := [.int 0]) 1 rfl ?_
            exact l1_ret mt_X5_isMember rfl rfl rfl
          · exact ok_X5_isMember_143 hQ N p1 c9
set_option maxRecDepth 100000 in
theorem ok_X5_isMember_38 {Q : hS → am_H → Prop} (hQ : l1_em kc Q) (N : Nat) (p1 : Int32) : ∀ (c : hS) (v2 : Int32) (w0 : Int32), l1_G (wN wI) Q am_i_X5_isMember 38 [some (.ref 36), some (.int p1), some (.int v2)] [.int w0, .ref 36] c (f_X5_isMember_38 N p1 c v2 w0) := by
  intro c v2 w0
  rw [f_X5_isMember_38]
  refine l1_ck (fun hz => ?_)
  refine l1_putI hQ mt_X5_isMember rfl (o := 36) (ci := 4) (k := 11) (a := 0) rfl rfl rfl rfl rfl (l1_fz (ci := 4) (j := 11) rfl hz) (fun c1 => ?_)
  refine l1_many mt_X5_isMember (pc' := 42) (L' := [some (.ref 36), some (.int p1), some (.int v2)]) (st' := [.ref 36]) 1 rfl ?_
  refine l1_getR hQ mt_X5_isMember rfl (o := 36) (ci := 4) (k := 1) (a := 1) (b := 2) rfl rfl rfl rfl rfl (q := 5) rfl ?_
  refine l1_many mt_X5_isMember (pc' := 46) (L' := [some (.ref 36), some (.int p1), some (.int v2)]) (st' := [.int 0, .ref 5]) 1 rfl ?_
  refine l1_callV hQ mt_X5_isMember mt_X2_cutTo rfl rfl (o := 5) (ci := 1) (As := [.int 0]) (rest := []) rfl rfl rfl rfl rfl rfl (st1 := fun _ => []) (fun _ => rfl) (ok_X2_cutTo hQ c1 5 0 rfl) (fun _ c2 => ?_)
  refine l1_many mt_X5_isMember (pc' := 50) (L' := [some (.ref 36), some (.int p1), some (.int v2)]) (st' := [.ref 36]) 1 rfl ?_
  refine l1_getR hQ mt_X5_isMember rfl (o := 36) (ci := 4) (k := 1) (a := 1) (b := 2) rfl rfl rfl rfl rfl (q := 5) rfl ?_
  refine l1_many mt_X5_isMember (pc' := 54) (L' := [some (.ref 36), some (.int p1), some (.int v2)]) (st' := [.ref 36, .ref 5]) 1 rfl ?_
  refine l1_getR hQ mt_X5_isMember rfl (o := 36) (ci := 4) (k := 0) (a := 1) (b := 2) rfl rfl rfl rfl rfl (q := 3) rfl ?_
  refine l1_many mt_X5_isMember (pc' := 62) (L' := [some (.ref 36), some (.int p1), some (.int v2)]) (st' := [.ref 36, .int (p1 + 46), .ref 3, .ref 5]) 4 rfl ?_
  refine l1_getI hQ mt_X5_isMember rfl (o := 36) (ci := 4) (k := 11) (a := 0) (b := 0) rfl rfl rfl rfl rfl ?_
  refine l1_many mt_X5_isMember (pc' := bif am_cc .eq (c2.1 36 11) 0 then 72 else 68) (L' := [some (.ref 36), some (.int p1), some (.int v2)]) (st' := [.int (p1 + 46), .ref 3, .ref 5]) 1 rfl ?_
  refine l1_bif rfl ?_ ?_
  · refine l1_many mt_X5_isMember (pc' := 75) (L' := [some (.ref 36), some (.int p1), some (.int v2)]) (st' := [.int (v2 + 1), .int (p1 + 46), .ref 3, .ref 5]) 3 rfl ?_
    refine l1_weak (m := [true, true, false, false, false]) (L' := [some (.ref 36), some (.int p1)]) rfl ?_
    exact ok_X5_isMember_75 hQ N p1 c2 (v2 + 1) (p1 + 46)
  · refine l1_many mt_X5_isMember (pc' := 75) (L' := [some (.ref 36), some (.int p1), some (.int v2)]) (st' := [.int v2, .int (p1 + 46), .ref 3, .ref 5]) 2 rfl ?_
    refine l1_weak (m := [true, true, false, false, false]) (L' := [some (.ref 36), some (.int p1)]) rfl ?_
    exact ok_X5_isMember_75 hQ N p1 c2 v2 (p1 + 46)
set_option maxRecDepth 100000 in
theorem ok_X5_isMember_37 {Q : hS → am_H → Prop} (hQ : l1_em kc Q) (N : Nat) (p1 : Int32) : ∀ (c : hS) (v2 : Int32), l1_G (wN wI) Q am_i_X5_isMember 37 [some (.ref 36), some (.int p1), some (.int v2)] [.ref 36] c (f_X5_isMember_37 N p1 c v2) := by
  intro c v2
  rw [f_X5_isMember_37]
  refine l1_many mt_X5_isMember (pc' := 38) (L' := [some (.ref 36), some (.int p1), some (.int v2)]) (st' := [.int 0, .ref 36]) 1 rfl ?_
  exact ok_X5_isMember_38 hQ N p1 c v2 0
set_option maxRecDepth 100000 in
theorem en_X5_isMember {Q : hS → am_H → Prop} (hQ : l1_em kc Q) (N : Nat) (c : hS) (p1 : Int32) : l1_G (wN wI) Q am_i_X5_isMember 0 [some (.ref 36), some (.int p1)] [] c (f_X5_isMember N c p1) := by
  rw [f_X5_isMember]
  refine l1_many mt_X5_isMember (pc' := 5) (L' := [some (.ref 36), some (.int p1)]) (st' := [.ref 36, .int (p1 + 46)]) 4 rfl ?_
  refine l1_getI hQ mt_X5_isMember rfl (o := 36) (ci := 4) (k := 9) (a := 0) (b := 0) rfl rfl rfl rfl rfl ?_
  refine l1_many mt_X5_isMember (pc' := 14) (L' := [some (.ref 36), some (.int p1), some (.int (((p1 + 46) + (c.1 36 9)) - 1))]) (st' := [.ref 36, .ref 36]) 6 rfl ?_
  refine l1_getI hQ mt_X5_isMember rfl (o := 36) (ci := 4) (k := 9) (a := 0) (b := 0) rfl rfl rfl rfl rfl ?_
  refine l1_many mt_X5_isMember (pc' := bif am_cc .le (c.1 36 9) 0 then 37 else 20) (L' := [some (.ref 36), some (.int p1), some (.int (((p1 + 46) + (c.1 36 9)) - 1))]) (st' := [.ref 36]) 1 rfl ?_
  refine l1_bif rfl ?_ ?_
  · exact ok_X5_isMember_37 hQ N p1 c (((p1 + 46) + (c.1 36 9)) - 1)
  · refine l1_many mt_X5_isMember (pc' := 21) (L' := [some (.ref 36), some (.int p1), some (.int (((p1 + 46) + (c.1 36 9)) - 1))]) (st' := [.ref 36, .ref 36]) 1 rfl ?_
    refine l1_getR hQ mt_X5_isMember rfl (o := 36) (ci := 4) (k := 0) (a := 1) (b := 2) rfl rfl rfl rfl rfl (q := 3) rfl ?_
    refine l1_many mt_X5_isMember (pc' := 25) (L' := [some (.ref 36), some (.int p1), some (.int (((p1 + 46) + (c.1 36 9)) - 1))]) (st' := [.int (((p1 + 46) + (c.1 36 9)) - 1), .ref 3, .ref 36]) 1 rfl ?_
    refine l1_callV hQ mt_X5_isMember mt_X2_get rfl rfl (o := 3) (ci := 1) (As := [.int (((p1 + 46) + (c.1 36 9)) - 1)]) (rest := [.ref 36]) rfl rfl rfl rfl rfl rfl (st1 := fun x1 => [.int x1, .ref 36]) (fun _ => rfl) (ok_X2_get hQ c 3 (((p1 + 46) + (c.1 36 9)) - 1) rfl) (fun x1 c2 => ?_)
    refine l1_many mt_X5_isMember (pc' := bif am_cc .ne x1 47 then 37 else 33) (L' := [some (.ref 36), some (.int p1), some (.int (((p1 + 46) + (c.1 36 9)) - 1))]) (st' := [.ref 36]) 2 rfl ?_
    refine l1_bin rfl ?_ ?_
    · refine l1_many mt_X5_isMember (pc' := 38) (L' := [some (.ref 36), some (.int p1), some (.int (((p1 + 46) + (c.1 36 9)) - 1))]) (st' := [.int 1, .ref 36]) 2 rfl ?_
      exact ok_X5_isMember_38 hQ N p1 c2 (((p1 + 46) + (c.1 36 9)) - 1) 1
    · exact ok_X5_isMember_37 hQ N p1 c2 (((p1 + 46) + (c.1 36 9)) - 1)
theorem ok_X5_isMember {Q : hS → am_H → Prop} (hQ : l1_em kc Q) (N : Nat) (c : hS) (p1 : Int32) : l1_T wI Q am_i_X5_isMember [.ref 36, .int p1] c (f_X5_isMember N c p1) := l1_of (en_X5_isMember hQ N c p1) ⟨rfl, rfl, trivial⟩
set_option maxRecDepth 100000 in
theorem ok_X5_takeIn_138 {Q : hS → am_H → Prop} (hQ : l1_em kc Q) (N : Nat) (p1 : Nat) (hp1 : kc p1 = 8) {k34 : hS → Int32 → Int32 → Int32 → Option (Int32 × hS)} (hk34 : ∀ c v2 v3 v4, l1_G (wN wI) Q am_i_X5_takeIn 34 [some (.ref 36), some (.ref p1), some (.int v2), some (.int v3), some (.int v4)] [] c (k34 c v2 v3 v4)) : ∀ (c : hS) (v2 : Int32) (v3 : Int32) (v4 : Int32), l1_G (wN wI) Q am_i_X5_takeIn 138 [some (.ref 36), some (.ref p1), some (.int v2), some (.int v3), some (.int v4)] [] c (f_X5_takeIn_138 N p1 k34 c v2 v3 v4) := by
  intro c v2 v3 v4
  rw [f_X5_takeIn_138]
  refine l1_many mt_X5_takeIn (pc' := 140) (L' := [some (.ref 36), some (.ref p1), some (.int v2), some (.int v3), some (.int v4)]) (st' := [.int v3, .ref 36]) 2 rfl ?_
  refine l1_callV hQ mt_X5_takeIn mt_X5_isBody rfl rfl (o := 36) (ci := 4) (As := [.int v3]) (rest := []) rfl rfl rfl rfl rfl rfl (st1 := fun x1 => [.int x1]) (fun _ => rfl) (ok_X5_isBody hQ N c v3) (fun x1 c2 => ?_)
  refine l1_many mt_X5_takeIn (pc' := bif am_cc .eq x1 0 then 171 else 146) (L' := [some (.ref 36), some (.ref p1), some (.int v2), some (.int v3), some (.int v4)]) (st' := []) 1 rfl ?_
  refine l1_bif rfl ?_ ?_
  · refine l1_many mt_X5_takeIn (pc' := 172) (L' := [some (.ref 36), some (.ref p1), some (.int v2), some (.int v3), some (.int v4)]) (st' := [.int 0]) 1 rfl ?_
    exact l1_ret mt_X5_takeIn rfl rfl rfl
  · refine l1_many mt_X5_takeIn (pc' := 149) (L' := [some (.ref 36), some (.ref p1), some (.int v2), some (.int v3), some (.int v4)]) (st' := [.ref 36, .ref p1, .ref 36]) 3 rfl ?_
    refine l1_getI hQ mt_X5_takeIn rfl (o := 36) (ci := 4) (k := 11) (a := 0) (b := 0) rfl rfl rfl rfl rfl ?_
    refine l1_many mt_X5_takeIn (pc' := 153) (L' := [some (.ref 36), some (.ref p1), some (.int v2), some (.int v3), some (.int v4)]) (st' := [.ref 36, .int (c2.1 36 11), .ref p1, .ref 36]) 1 rfl ?_
    refine l1_getR hQ mt_X5_takeIn rfl (o := 36) (ci := 4) (k := 5) (a := 0) (b := 1) rfl rfl rfl rfl rfl (q := 7) rfl ?_
    refine l1_many mt_X5_takeIn (pc' := 158) (L' := [some (.ref 36), some (.ref p1), some (.int v2), some (.int v3), some (.int v4)]) (st' := [.ref 36, .int 0, .ref 7, .int (c2.1 36 11), .ref p1, .ref 36]) 2 rfl ?_
    refine l1_getR hQ mt_X5_takeIn rfl (o := 36) (ci := 4) (k := 5) (a := 0) (b := 1) rfl rfl rfl rfl rfl (q := 7) rfl ?_
    refine l1_callV hQ mt_X5_takeIn mt_X2_size rfl rfl (o := 7) (ci := 1) (As := []) (rest := [.int 0, .ref 7, .int (c2.1 36 11), .ref p1, .ref 36]) rfl rfl rfl rfl rfl rfl (st1 := fun x3 => [.int x3, .int 0, .ref 7, .int (c2.1 36 11), .ref p1, .ref 36]) (fun _ => rfl) (ok_X2_size hQ c2 7 rfl) (fun x3 c4 => ?_)
    refine l1_many mt_X5_takeIn (pc' := 165) (L' := [some (.ref 36), some (.ref p1), some (.int v2), some (.int v3), some (.int v4)]) (st' := [.int v3, .int x3, .int 0, .ref 7, .int (c2.1 36 11), .ref p1, .ref 36]) 1 rfl ?_
    refine l1_callV hQ mt_X5_takeIn mt_X0_arrives rfl rfl (o := 36) (ci := 4) (As := [.ref p1, .int (c2.1 36 11), .ref 7, .int 0, .int x3, .int v3]) (rest := []) rfl rfl rfl rfl rfl rfl (st1 := fun x5 => [.int x5]) (fun _ => rfl) (ok_X0_arrives_36 hQ N c4 p1 (c2.1 36 11) 7 0 x3 v3 hp1 rfl) (fun x5 c6 => ?_)
    refine l1_many mt_X5_takeIn (pc' := bif am_cc .ne x5 0 then 173 else 171) (L' := [some (.ref 36), some (.ref p1), some (.int v2), some (.int v3), some (.int v4)]) (st' := []) 1 rfl ?_
    refine l1_bin rfl ?_ ?_
    · refine l1_many mt_X5_takeIn (pc' := 172) (L' := [some (.ref 36), some (.ref p1), some (.int v2), some (.int v3), some (.int v4)]) (st' := [.int 0]) 1 rfl ?_
      exact l1_ret mt_X5_takeIn rfl rfl rfl
    · refine l1_many mt_X5_takeIn (pc' := 174) (L' := [some (.ref 36), some (.ref p1), some (.int v2), some (.int v3), some (.int v4)]) (st' := [.ref 36]) 1 rfl ?_
      refine l1_getI hQ mt_X5_takeIn rfl (o := 36) (ci := 4) (k := 10) (a := 0) (b := 0) rfl rfl rfl rfl rfl ?_
      refine l1_many mt_X5_takeIn (pc' := 34) (L' := [some (.ref 36), some (.ref p1), some (.int v2), some (.int (c6.1 36 10)), some (.int (v4 + 1))]) (st' := []) 3 rfl ?_
      exact hk34 c6 v2 (c6.1 36 10) (v4 + 1)
set_option maxRecDepth 100000 in
theorem ok_X5_takeIn_34 {Q : hS → am_H → Prop} (hQ : l1_em kc Q) (N : Nat) (p1 : Nat) (hp1 : kc p1 = 8) : ∀ n : Nat, ∀ (c : hS) (v2 : Int32) (v3 : Int32) (v4 : Int32), l1_G (wN wI) Q am_i_X5_takeIn 34 [some (.ref 36), some (.ref p1), some (.int v2), some (.int v3), some (.int v4)] [] c (f_X5_takeIn_34 N p1 n c v2 v3 v4) := by
  intro n
  induction n with
  | zero => intro c v2 v3 v4; exact l1_none
  | succ n ih =>
    intro c v2 v3 v4
    rw [f_X5_takeIn_34]
    refine l1_many mt_X5_takeIn (pc' := bif am_cc .ge v4 v2 then 184 else 40) (L' := [some (.ref 36), some (.ref p1), some (.int v2), some (.int v3), some (.int v4)]) (st' := []) 3 rfl ?_
    refine l1_bif rfl ?_ ?_
    · refine l1_many mt_X5_takeIn (pc' := 186) (L' := [some (.ref 36), some (.ref p1), some (.int v2), some (.int v3), some (.int v4)]) (st' := [.ref 36, .int v3]) 2 rfl ?_
      refine l1_getI hQ mt_X5_takeIn rfl (o := 36) (ci := 4) (k := 6) (a := 0) (b := 0) rfl rfl rfl rfl rfl ?_
      refine l1_many mt_X5_takeIn (pc' := bif am_cc .eq v3 (c.1 36 6) then 205 else 192) (L' := [some (.ref 36), some (.ref p1), some (.int v2), some (.int v3), some (.int v4)]) (st' := []) 1 rfl ?_
      refine l1_bif rfl ?_ ?_
      · refine l1_many mt_X5_takeIn (pc' := 210) (L' := [some (.ref 36), some (.ref p1), some (.int v2), some (.int v3), some (.int v4)]) (st' := [.int 1]) 2 rfl ?_
        exact l1_ret mt_X5_takeIn rfl rfl rfl
      · refine l1_many mt_X5_takeIn (pc' := 193) (L' := [some (.ref 36), some (.ref p1), some (.int v2), some (.int v3), some (.int v4)]) (st' := [.ref 36]) 1 rfl ?_
        refine l1_getR hQ mt_X5_takeIn rfl (o := 36) (ci := 4) (k := 2) (a := 1) (b := 2) rfl rfl rfl rfl rfl (q := 9) rfl ?_
        refine l1_many mt_X5_takeIn (pc' := 199) (L' := [some (.ref 36), some (.ref p1), some (.int v2), some (.int v3), some (.int v4)]) (st' := [.int v3, .int 12, .ref 9]) 2 rfl ?_
        refine l1_callV hQ mt_X5_takeIn mt_X6_tell rfl rfl (o := 9) (ci := 5) (As := [.int 12, .int v3]) (rest := []) rfl rfl rfl rfl rfl rfl (st1 := fun x1 => [.int x1]) (fun _ => rfl) (ok_X6_tell hQ c 12 v3) (fun x1 c2 => ?_)
        refine l1_many mt_X5_takeIn (pc' := bif am_cc .eq x1 0 then 209 else 205) (L' := [some (.ref 36), some (.ref p1), some (.int v2), some (.int v3), some (.int v4)]) (st' := []) 1 rfl ?_
        refine l1_bif rfl ?_ ?_
        · refine l1_many mt_X5_takeIn (pc' := 210) (L' := [some (.ref 36), some (.ref p1), some (.int v2), some (.int v3), some (.int v4)]) (st' := [.int 0]) 1 rfl ?_
          exact l1_ret mt_X5_takeIn rfl rfl rfl
        · refine l1_many mt_X5_takeIn (pc' := 210) (L' := [some (.ref 36), some (.ref p1), some (.int v2), some (.int v3), some (.int v4)]) (st' := [.int 1]) 2 rfl ?_
          exact l1_ret mt_X5_takeIn rfl rfl rfl
    · refine l1_many mt_X5_takeIn (pc' := 42) (L' := [some (.ref 36), some (.ref p1), some (.int v2), some (.int v3), some (.int v4)]) (st' := [.int v3, .ref 36]) 2 rfl ?_
      refine l1_callV hQ mt_X5_takeIn mt_X5_isEntry rfl rfl (o := 36) (ci := 4) (As := [.int v3]) (rest := []) rfl rfl rfl rfl rfl rfl (st1 := fun x3 => [.int x3]) (fun _ => rfl) (ok_X5_isEntry hQ N c v3) (fun x3 c4 => ?_)
      refine l1_many mt_X5_takeIn (pc' := bif am_cc .eq x3 0 then 75 else 48) (L' := [some (.ref 36), some (.ref p1), some (.int v2), some (.int v3), some (.int v4)]) (st' := []) 1 rfl ?_
      refine l1_bif rfl ?_ ?_
      · refine l1_many mt_X5_takeIn (pc' := 76) (L' := [some (.ref 36), some (.ref p1), some (.int v2), some (.int v3), some (.int v4)]) (st' := [.int 0]) 1 rfl ?_
        exact l1_ret mt_X5_takeIn rfl rfl rfl
      · refine l1_many mt_X5_takeIn (pc' := 50) (L' := [some (.ref 36), some (.ref p1), some (.int v2), some (.int v3), some (.int v4)]) (st' := [.int v3, .ref 36]) 2 rfl ?_
        refine l1_callV hQ mt_X5_takeIn mt_X5_isMember rfl rfl (o := 36) (ci := 4) (As := [.int v3]) (rest := []) rfl rfl rfl rfl rfl rfl (st1 := fun x5 => [.int x5]) (fun _ => rfl) (ok_X5_isMember hQ N c4 v3) (fun x5 c6 => ?_)
        refine l1_many mt_X5_takeIn (pc' := bif am_cc .eq x5 0 then 75 else 56) (L' := [some (.ref 36), some (.ref p1), some (.int v2), some (.int v3), some (.int v4)]) (st' := []) 1 rfl ?_
        refine l1_bif rfl ?_ ?_
        · refine l1_many mt_X5_takeIn (pc' := 76) (L' := [some (.ref 36), some (.ref p1), some (.int v2), some (.int v3), some (.int v4)]) (st' := [.int 0]) 1 rfl ?_
          exact l1_ret mt_X5_takeIn rfl rfl rfl
        · refine l1_many mt_X5_takeIn (pc' := 61) (L' := [some (.ref 36), some (.ref p1), some (.int v2), some (.int v3), some (.int v4)]) (st' := [.int (v3 + 46), .ref 36]) 4 rfl ?_
          refine l1_callV hQ mt_X5_takeIn mt_X0_isNamed rfl rfl (o := 36) (ci := 4) (As := [.int (v3 + 46)]) (rest := []) rfl rfl rfl rfl rfl rfl (st1 := fun x7 => [.int x7]) (fun _ => rfl) (ok_X0_isNamed_36 hQ N c6 (v3 + 46)) (fun x7 c8 => ?_)
          refine l1_many mt_X5_takeIn (pc' := bif am_cc .eq x7 0 then 75 else 67) (L' := [some (.ref 36), some (.ref p1), some (.int v2), some (.int v3), some (.int v4)]) (st' := []) 1 rfl ?_
          refine l1_bif rfl ?_ ?_
          · refine l1_many mt_X5_takeIn (pc' := 76) (L' := [some (.ref 36), some (.ref p1), some (.int v2), some (.int v3), some (.int v4)]) (st' := [.int 0]) 1 rfl ?_
            exact l1_ret mt_X5_takeIn rfl rfl rfl
          · refine l1_many mt_X5_takeIn (pc' := 69) (L' := [some (.ref 36), some (.ref p1), some (.int v2), some (.int v3), some (.int v4)]) (st' := [.int v3, .ref 36]) 2 rfl ?_
            refine l1_callV hQ mt_X5_takeIn mt_X5_isLocal rfl rfl (o := 36) (ci := 4) (As := [.int v3]) (rest := []) rfl rfl rfl rfl rfl rfl (st1 := fun x9 => [.int x9]) (fun _ => rfl) (ok_X5_isLocal hQ N c8 v3) (fun x9 c10 => ?_)
            refine l1_many mt_X5_takeIn (pc' := bif am_cc .ne x9 0 then 77 else 75) (L' := [some (.ref 36), some (.ref p1), some (.int v2), some (.int v3), some (.int v4)]) (st' := []) 1 rfl ?_
            refine l1_bin rfl ?_ ?_
            · refine l1_many mt_X5_takeIn (pc' := 76) (L' := [some (.ref 36), some (.ref p1), some (.int v2), some (.int v3), some (.int v4)]) (st' := [.int 0]) 1 rfl ?_
              exact l1_ret mt_X5_takeIn rfl rfl rfl
            · refine l1_many mt_X5_takeIn (pc' := 78) (L' := [some (.ref 36), some (.ref p1), some (.int v2), some (.int v3), some (.int v4)]) (st' := [.ref 36]) 1 rfl ?_
              refine l1_getI hQ mt_X5_takeIn rfl (o := 36) (ci := 4) (k := 8) (a := 0) (b := 0) rfl rfl rfl rfl rfl ?_
              refine l1_many mt_X5_takeIn (pc' := bif am_cc .ne (c10.1 36 8) 0 then 114 else 84) (L' := [some (.ref 36), some (.ref p1), some (.int v2), some (.int v3), some (.int v4)]) (st' := []) 1 rfl ?_
              refine l1_bin rfl ?_ ?_
              · refine l1_many mt_X5_takeIn (pc' := 85) (L' := [some (.ref 36), some (.ref p1), some (.int v2), some (.int v3), some (.int v4)]) (st' := [.ref 36]) 1 rfl ?_
                refine l1_getR hQ mt_X5_takeIn rfl (o := 36) (ci := 4) (k := 5) (a := 0) (b := 1) rfl rfl rfl rfl rfl (q := 7) rfl ?_
                refine l1_many mt_X5_takeIn (pc' := 89) (L' := [some (.ref 36), some (.ref p1), some (.int v2), some (.int v3), some (.int v4)]) (st' := [.int 0, .ref 7]) 1 rfl ?_
                refine l1_callV hQ mt_X5_takeIn mt_X2_cutTo rfl rfl (o := 7) (ci := 1) (As := [.int 0]) (rest := []) rfl rfl rfl rfl rfl rfl (st1 := fun _ => []) (fun _ => rfl) (ok_X2_cutTo hQ c10 7 0 rfl) (fun _ c13 => ?_)
                refine l1_many mt_X5_takeIn (pc' := 93) (L' := [some (.ref 36), some (.ref p1), some (.int v2), some (.int v3), some (.int v4)]) (st' := [.ref 36]) 1 rfl ?_
                refine l1_getR hQ mt_X5_takeIn rfl (o := 36) (ci := 4) (k := 5) (a := 0) (b := 1) rfl rfl rfl rfl rfl (q := 7) rfl ?_
                refine l1_many mt_X5_takeIn (pc' := 97) (L' := [some (.ref 36), some (.ref p1), some (.int v2), some (.int v3), some (.int v4)]) (st' := [.ref 36, .ref 7]) 1 rfl ?_
                refine l1_getR hQ mt_X5_takeIn rfl (o := 36) (ci := 4) (k := 0) (a := 1) (b := 2) rfl rfl rfl rfl rfl (q := 3) rfl ?_
                refine l1_many mt_X5_takeIn (pc' := 101) (L' := [some (.ref 36), some (.ref p1), some (.int v2), some (.int v3), some (.int v4)]) (st' := [.ref 36, .ref 3, .ref 7]) 1 rfl ?_
                refine l1_getI hQ mt_X5_takeIn rfl (o := 36) (ci := 4) (k := 14) (a := 0) (b := 0) rfl rfl rfl rfl rfl ?_
                refine l1_many mt_X5_takeIn (pc' := 105) (L' := [some (.ref 36), some (.ref p1), some (.int v2), some (.int v3), some (.int v4)]) (st' := [.ref 36, .int (c13.1 36 14), .ref 3, .ref 7]) 1 rfl ?_
                refine l1_getI hQ mt_X5_takeIn rfl (o := 36) (ci := 4) (k := 15) (a := 0) (b := 0) rfl rfl rfl rfl rfl ?_
                refine l1_callV hQ mt_X5_takeIn mt_X2_addRow rfl rfl (o := 7) (ci := 1) (As := [.ref 3, .int (c13.1 36 14), .int (c13.1 36 15)]) (rest := []) rfl rfl rfl rfl rfl rfl (st1 := fun _ => []) (fun _ => rfl) (ok_X2_addRow hQ N c13 7 3 (c13.1 36 14) (c13.1 36 15) rfl rfl) (fun _ c14 => ?_)
                refine l1_many mt_X5_takeIn (pc' := 138) (L' := [some (.ref 36), some (.ref p1), some (.int v2), some (.int v3), some (.int v4)]) (st' := []) 1 rfl ?_
                exact ok_X5_takeIn_138 hQ N p1 hp1 ih c14 v2 v3 v4
              · refine l1_many mt_X5_takeIn (pc' := 115) (L' := [some (.ref 36), some (.ref p1), some (.int v2), some (.int v3), some (.int v4)]) (st' := [.ref 36]) 1 rfl ?_
                refine l1_getR hQ mt_X5_takeIn rfl (o := 36) (ci := 4) (k := 4) (a := 0) (b := 1) rfl rfl rfl rfl rfl (q := 11) rfl ?_
                refine l1_many mt_X5_takeIn (pc' := 119) (L' := [some (.ref 36), some (.ref p1), some (.int v2), some (.int v3), some (.int v4)]) (st' := [.ref 36, .ref 11]) 1 rfl ?_
                refine l1_getI hQ mt_X5_takeIn rfl (o := 36) (ci := 4) (k := 14) (a := 0) (b := 0) rfl rfl rfl rfl rfl ?_
                refine l1_many mt_X5_takeIn (pc' := 123) (L' := [some (.ref 36), some (.ref p1), some (.int v2), some (.int v3), some (.int v4)]) (st' := [.ref 36, .int (c10.1 36 14), .ref 11]) 1 rfl ?_
                refine l1_getI hQ mt_X5_takeIn rfl (o := 36) (ci := 4) (k := 15) (a := 0) (b := 0) rfl rfl rfl rfl rfl ?_
                refine l1_many mt_X5_takeIn (pc' := 127) (L' := [some (.ref 36), some (.ref p1), some (.int v2), some (.int v3), some (.int v4)]) (st' := [.ref 36, .int (c10.1 36 15), .int (c10.1 36 14), .ref 11]) 1 rfl ?_
                refine l1_getI hQ mt_X5_takeIn rfl (o := 36) (ci := 4) (k := 12) (a := 0) (b := 0) rfl rfl rfl rfl rfl ?_
                refine l1_callV hQ mt_X5_takeIn mt_X10_open rfl rfl (o := 11) (ci := 9) (As := [.int (c10.1 36 14), .int (c10.1 36 15), .int (c10.1 36 12)]) (rest := []) rfl rfl rfl rfl rfl rfl (st1 := fun x11 => [.int x11]) (fun _ => rfl) (ok_X10_open hQ N c10 (c10.1 36 14) (c10.1 36 15) (c10.1 36 12)) (fun x11 c12 => ?_)
                refine l1_many mt_X5_takeIn (pc' := bif am_cc .ne x11 0 then 138 else 136) (L' := [some (.ref 36), some (.ref p1), some (.int v2), some (.int v3), some (.int v4)]) (st' := []) 1 rfl ?_
                refine l1_bin rfl ?_ ?_
                · refine l1_many mt_X5_takeIn (pc' := 137) (L' := [some (.ref 36), some (.ref p1), some (.int v2), some (.int v3), some (.int v4)]) (st' := [.int 0]) 1 rfl ?_
                  exact l1_ret mt_X5_takeIn rfl rfl rfl
                · exact ok_X5_takeIn_138 hQ N p1 hp1 ih c12 v2 v3 v4
set_option maxRecDepth 100000 in
theorem en_X5_takeIn {Q : hS → am_H → Prop} (hQ : l1_em kc Q) (N : Nat) (c : hS) (p1 : Nat) (hp1 : kc p1 = 8) : l1_G (wN wI) Q am_i_X5_takeIn 0 [some (.ref 36), some (.ref p1)] [] c (f_X5_takeIn N c p1) := by
  rw [f_X5_takeIn]
  refine l1_many mt_X5_takeIn (pc' := 1) (L' := [some (.ref 36), some (.ref p1)]) (st' := [.ref 36]) 1 rfl ?_
  refine l1_callV hQ mt_X5_takeIn mt_X5_isClosing rfl rfl (o := 36) (ci := 4) (As := []) (rest := []) rfl rfl rfl rfl rfl rfl (st1 := fun x1 => [.int x1]) (fun _ => rfl) (ok_X5_isClosing hQ N c) (fun x1 c2 => ?_)
  refine l1_many mt_X5_takeIn (pc' := bif am_cc .ne x1 0 then 9 else 7) (L' := [some (.ref 36), some (.ref p1)]) (st' := []) 1 rfl ?_
  refine l1_bin rfl ?_ ?_
  · refine l1_many mt_X5_takeIn (pc' := 8) (L' := [some (.ref 36), some (.ref p1)]) (st' := [.int 0]) 1 rfl ?_
    exact l1_ret mt_X5_takeIn rfl rfl rfl
  · refine l1_many mt_X5_takeIn (pc' := 10) (L' := [some (.ref 36), some (.ref p1)]) (st' := [.ref 36]) 1 rfl ?_
    refine l1_getR hQ mt_X5_takeIn rfl (o := 36) (ci := 4) (k := 0) (a := 1) (b := 2) rfl rfl rfl rfl rfl (q := 3) rfl ?_
    refine l1_many mt_X5_takeIn (pc' := 14) (L' := [some (.ref 36), some (.ref p1)]) (st' := [.ref 36, .ref 3]) 1 rfl ?_
    refine l1_getI hQ mt_X5_takeIn rfl (o := 36) (ci := 4) (k := 6) (a := 0) (b := 0) rfl rfl rfl rfl rfl ?_
    refine l1_many mt_X5_takeIn (pc' := 21) (L' := [some (.ref 36), some (.ref p1)]) (st' := [.int 2, .int ((c2.1 36 6) + 10), .ref 3]) 3 rfl ?_
    refine l1_callV hQ mt_X5_takeIn mt_X2_little rfl rfl (o := 3) (ci := 1) (As := [.int ((c2.1 36 6) + 10), .int 2]) (rest := []) rfl rfl rfl rfl rfl rfl (st1 := fun x3 => [.long x3]) (fun _ => rfl) (ok_X2_little hQ N c2 3 ((c2.1 36 6) + 10) 2 rfl) (fun x3 c4 => ?_)
    refine l1_many mt_X5_takeIn (pc' := 27) (L' := [some (.ref 36), some (.ref p1), some (.int x3.toInt32)]) (st' := [.ref 36]) 3 rfl ?_
    refine l1_getI hQ mt_X5_takeIn rfl (o := 36) (ci := 4) (k := 7) (a := 0) (b := 0) rfl rfl rfl rfl rfl ?_
    refine l1_many mt_X5_takeIn (pc' := 34) (L' := [some (.ref 36), some (.ref p1), some (.int x3.toInt32), some (.int (c4.1 36 7)), some (.int 0)]) (st' := []) 3 rfl ?_
    exact ok_X5_takeIn_34 hQ N p1 hp1 N c4 x3.toInt32 (c4.1 36 7) 0
theorem ok_X5_takeIn {Q : hS → am_H → Prop} (hQ : l1_em kc Q) (N : Nat) (c : hS) (p1 : Nat) (hp1 : kc p1 = 8) : l1_T wI Q am_i_X5_takeIn [.ref 36, .ref p1] c (f_X5_takeIn N c p1) := l1_of (en_X5_takeIn hQ N c p1 hp1) ⟨rfl, rfl, trivial⟩
set_option maxRecDepth 100000 in
theorem en_X5_titleBytes {Q : hS → am_H → Prop} (hQ : l1_em kc Q) (c : hS) (p0 : Nat) (hp0 : kc p0 = 6) : l1_G (wN wI) Q am_i_X5_titleBytes 0 [some (.ref p0)] [] c (f_X5_titleBytes c p0) := by
  rw [f_X5_titleBytes]
  refine l1_many mt_X5_titleBytes (pc' := 1) (L' := [some (.ref p0)]) (st' := [.ref p0]) 1 rfl ?_
  refine l1_getR hQ mt_X5_titleBytes rfl (o := p0) (ci := 6) (k := 0) (a := 2) (b := 2) hp0 rfl rfl rfl rfl (q := (p0 + 1)) rfl ?_
  refine l1_callV hQ mt_X5_titleBytes mt_X2_size rfl rfl (o := (p0 + 1)) (ci := 1) (As := []) (rest := []) rfl rfl (kc6_0 hp0) rfl rfl rfl (st1 := fun x1 => [.int x1]) (fun _ => rfl) (ok_X2_size hQ c (p0 + 1) (kc6_0 hp0)) (fun x1 c2 => ?_)
  refine l1_many mt_X5_titleBytes (pc' := 8) (L' := [some (.ref p0)]) (st' := [.ref p0, .int x1]) 1 rfl ?_
  refine l1_getI hQ mt_X5_titleBytes rfl (o := p0) (ci := 6) (k := 2) (a := 2) (b := 0) hp0 rfl rfl rfl rfl ?_
  refine l1_many mt_X5_titleBytes (pc' := bif am_cc .eq (c2.1 p0 2) 0 then 18 else 14) (L' := [some (.ref p0)]) (st' := [.int x1]) 1 rfl ?_
  refine l1_bif rfl ?_ ?_
  · refine l1_many mt_X5_titleBytes (pc' := 20) (L' := [some (.ref p0)]) (st' := [.int (x1 + 0)]) 2 rfl ?_
    exact l1_ret mt_X5_titleBytes rfl rfl rfl
  · refine l1_many mt_X5_titleBytes (pc' := 20) (L' := [some (.ref p0)]) (st' := [.int (x1 + 1)]) 3 rfl ?_
    exact l1_ret mt_X5_titleBytes rfl rfl rfl
theorem ok_X5_titleBytes {Q : hS → am_H → Prop} (hQ : l1_em kc Q) (c : hS) (p0 : Nat) (hp0 : kc p0 = 6) : l1_T wI Q am_i_X5_titleBytes [.ref p0] c (f_X5_titleBytes c p0) := l1_of (en_X5_titleBytes hQ c p0 hp0) ⟨rfl, trivial⟩
set_option maxRecDepth 100000 in
theorem ok_X5_addEntries_13 {Q : hS → am_H → Prop} (hQ : l1_em kc Q) (N : Nat) (p1 : Nat) (hp1 : kc p1 = 8) : ∀ n : Nat, ∀ (c : hS) (v2 : Int32) (v3 : Int32) (v4 : Int32), l1_G (wN wV) Q am_i_X5_addEntries 13 [some (.ref 36), some (.ref p1), some (.int v2), some (.int v3), some (.int v4)] [] c (f_X5_addEntries_13 N p1 n c v2 v3 v4) := by
  intro n
  induction n with
  | zero => intro c v2 v3 v4; exact l1_none
  | succ n ih =>
    intro c v2 v3 v4
    rw [f_X5_addEntries_13]
    refine l1_many mt_X5_addEntries (pc' := 16) (L' := [some (.ref 36), some (.ref p1), some (.int v2), some (.int v3), some (.int v4)]) (st' := [.ref p1, .int v4]) 2 rfl ?_
    refine l1_callV hQ mt_X5_addEntries mt_X9_size rfl rfl (o := p1) (ci := 8) (As := []) (rest := [.int v4]) rfl rfl hp1 rfl rfl rfl (st1 := fun x1 => [.int x1, .int v4]) (fun _ => rfl) (ok_X9_size hQ c p1 hp1) (fun x1 c2 => ?_)
    refine l1_many mt_X5_addEntries (pc' := bif am_cc .ge v4 x1 then 131 else 22) (L' := [some (.ref 36), some (.ref p1), some (.int v2), some (.int v3), some (.int v4)]) (st' := []) 1 rfl ?_
    refine l1_bif rfl ?_ ?_
    · refine l1_many mt_X5_addEntries (pc' := 132) (L' := [some (.ref 36), some (.ref p1), some (.int v2), some (.int v3), some (.int v4)]) (st' := [.ref 36]) 1 rfl ?_
      refine l1_getR hQ mt_X5_addEntries rfl (o := 36) (ci := 4) (k := 0) (a := 1) (b := 2) rfl rfl rfl rfl rfl (q := 3) rfl ?_
      refine l1_callV hQ mt_X5_addEntries mt_X2_size rfl rfl (o := 3) (ci := 1) (As := []) (rest := []) rfl rfl rfl rfl rfl rfl (st1 := fun x3 => [.int x3]) (fun _ => rfl) (ok_X2_size hQ c2 3 rfl) (fun x3 c4 => ?_)
      refine l1_many mt_X5_addEntries (pc' := 141) (L' := [some (.ref 36), some (.ref p1), some (.int v2), some (.int v3), some (.int x3)]) (st' := [.ref 36]) 2 rfl ?_
      refine l1_getR hQ mt_X5_addEntries rfl (o := 36) (ci := 4) (k := 0) (a := 1) (b := 2) rfl rfl rfl rfl rfl (q := 3) rfl ?_
      refine l1_many mt_X5_addEntries (pc' := 147) (L' := [some (.ref 36), some (.ref p1), some (.int v2), some (.int v3), some (.int x3)]) (st' := [.ref 1000000005, .ref 3]) 1 rfl ?_
      refine l1_callV hQ mt_X5_addEntries mt_X2_addMark rfl rfl (o := 3) (ci := 1) (As := [.ref 1000000005]) (rest := []) rfl rfl rfl rfl rfl rfl (st1 := fun _ => []) (fun _ => rfl) (ok_X2_addMark hQ N c4 3 sa5 rfl oa5) (fun _ c5 => ?_)
      refine l1_many mt_X5_addEntries (pc' := 151) (L' := [some (.ref 36), some (.ref p1), some (.int v2), some (.int v3), some (.int x3)]) (st' := [.ref 36]) 1 rfl ?_
      refine l1_getR hQ mt_X5_addEntries rfl (o := 36) (ci := 4) (k := 0) (a := 1) (b := 2) rfl rfl rfl rfl rfl (q := 3) rfl ?_
      refine l1_many mt_X5_addEntries (pc' := 155) (L' := [some (.ref 36), some (.ref p1), some (.int v2), some (.int v3), some (.int x3)]) (st' := [.int 4, .ref 3]) 1 rfl ?_
      refine l1_callV hQ mt_X5_addEntries mt_X2_addZeros rfl rfl (o := 3) (ci := 1) (As := [.int 4]) (rest := []) rfl rfl rfl rfl rfl rfl (st1 := fun _ => []) (fun _ => rfl) (ok_X2_addZeros hQ N c5 3 4 rfl) (fun _ c6 => ?_)
      refine l1_many mt_X5_addEntries (pc' := 159) (L' := [some (.ref 36), some (.ref p1), some (.int v2), some (.int v3), some (.int x3)]) (st' := [.ref 36]) 1 rfl ?_
      refine l1_getR hQ mt_X5_addEntries rfl (o := 36) (ci := 4) (k := 0) (a := 1) (b := 2) rfl rfl rfl rfl rfl (q := 3) rfl ?_
      refine l1_many mt_X5_addEntries (pc' := 163) (L' := [some (.ref 36), some (.ref p1), some (.int v2), some (.int v3), some (.int x3)]) (st' := [.ref p1, .ref 3]) 1 rfl ?_
      refine l1_callV hQ mt_X5_addEntries mt_X9_size rfl rfl (o := p1) (ci := 8) (As := []) (rest := [.ref 3]) rfl rfl hp1 rfl rfl rfl (st1 := fun x7 => [.int x7, .ref 3]) (fun _ => rfl) (ok_X9_size hQ c6 p1 hp1) (fun x7 c8 => ?_)
      refine l1_many mt_X5_addEntries (pc' := 168) (L' := [some (.ref 36), some (.ref p1), some (.int v2), some (.int v3), some (.int x3)]) (st' := [.int 2, .long x7.toInt64, .ref 3]) 2 rfl ?_
      refine l1_callV hQ mt_X5_addEntries mt_X2_addLittle rfl rfl (o := 3) (ci := 1) (As := [.long x7.toInt64, .int 2]) (rest := []) rfl rfl rfl rfl rfl rfl (st1 := fun _ => []) (fun _ => rfl) (ok_X2_addLittle hQ N c8 3 x7.toInt64 2 rfl) (fun _ c9 => ?_)
      refine l1_many mt_X5_addEntries (pc' := 172) (L' := [some (.ref 36), some (.ref p1), some (.int v2), some (.int v3), some (.int x3)]) (st' := [.ref 36]) 1 rfl ?_
      refine l1_getR hQ mt_X5_addEntries rfl (o := 36) (ci := 4) (k := 0) (a := 1) (b := 2) rfl rfl rfl rfl rfl (q := 3) rfl ?_
      refine l1_many mt_X5_addEntries (pc' := 176) (L' := [some (.ref 36), some (.ref p1), some (.int v2), some (.int v3), some (.int x3)]) (st' := [.ref p1, .ref 3]) 1 rfl ?_
      refine l1_callV hQ mt_X5_addEntries mt_X9_size rfl rfl (o := p1) (ci := 8) (As := []) (rest := [.ref 3]) rfl rfl hp1 rfl rfl rfl (st1 := fun x10 => [.int x10, .ref 3]) (fun _ => rfl) (ok_X9_size hQ c9 p1 hp1) (fun x10 c11 => ?_)
      refine l1_many mt_X5_addEntries (pc' := 181) (L' := [some (.ref 36), some (.ref p1), some (.int v2), some (.int v3), some (.int x3)]) (st' := [.int 2, .long x10.toInt64, .ref 3]) 2 rfl ?_
      refine l1_callV hQ mt_X5_addEntries mt_X2_addLittle rfl rfl (o := 3) (ci := 1) (As := [.long x10.toInt64, .int 2]) (rest := []) rfl rfl rfl rfl rfl rfl (st1 := fun _ => []) (fun _ => rfl) (ok_X2_addLittle hQ N c11 3 x10.toInt64 2 rfl) (fun _ c12 => ?_)
      refine l1_many mt_X5_addEntries (pc' := 185) (L' := [some (.ref 36), some (.ref p1), some (.int v2), some (.int v3), some (.int x3)]) (st' := [.ref 36]) 1 rfl ?_
      refine l1_getR hQ mt_X5_addEntries rfl (o := 36) (ci := 4) (k := 0) (a := 1) (b := 2) rfl rfl rfl rfl rfl (q := 3) rfl ?_
      refine l1_many mt_X5_addEntries (pc' := 194) (L' := [some (.ref 36), some (.ref p1), some (.int v2), some (.int v3), some (.int x3)]) (st' := [.int 4, .long ((x3 - v2).toInt64), .ref 3]) 5 rfl ?_
      refine l1_callV hQ mt_X5_addEntries mt_X2_addLittle rfl rfl (o := 3) (ci := 1) (As := [.long ((x3 - v2).toInt64), .int 4]) (rest := []) rfl rfl rfl rfl rfl rfl (st1 := fun _ => []) (fun _ => rfl) (ok_X2_addLittle hQ N c12 3 ((x3 - v2).toInt64) 4 rfl) (fun _ c13 => ?_)
      refine l1_many mt_X5_addEntries (pc' := 198) (L' := [some (.ref 36), some (.ref p1), some (.int v2), some (.int v3), some (.int x3)]) (st' := [.ref 36]) 1 rfl ?_
      refine l1_getR hQ mt_X5_addEntries rfl (o := 36) (ci := 4) (k := 0) (a := 1) (b := 2) rfl rfl rfl rfl rfl (q := 3) rfl ?_
      refine l1_many mt_X5_addEntries (pc' := 204) (L' := [some (.ref 36), some (.ref p1), some (.int v2), some (.int v3), some (.int x3)]) (st' := [.int 4, .long v2.toInt64, .ref 3]) 3 rfl ?_
      refine l1_callV hQ mt_X5_addEntries mt_X2_addLittle rfl rfl (o := 3) (ci := 1) (As := [.long v2.toInt64, .int 4]) (rest := []) rfl rfl rfl rfl rfl rfl (st1 := fun _ => []) (fun _ => rfl) (ok_X2_addLittle hQ N c13 3 v2.toInt64 4 rfl) (fun _ c14 => ?_)
      refine l1_many mt_X5_addEntries (pc' := 208) (L' := [some (.ref 36), some (.ref p1), some (.int v2), some (.int v3), some (.int x3)]) (st' := [.ref 36]) 1 rfl ?_
      refine l1_getR hQ mt_X5_addEntries rfl (o := 36) (ci := 4) (k := 0) (a := 1) (b := 2) rfl rfl rfl rfl rfl (q := 3) rfl ?_
      refine l1_many mt_X5_addEntries (pc' := 212) (L' := [some (.ref 36), some (.ref p1), some (.int v2), some (.int v3), some (.int x3)]) (st' := [.int 2, .ref 3]) 1 rfl ?_
      refine l1_callV hQ mt_X5_addEntries mt_X2_addZeros rfl rfl (o := 3) (ci := 1) (As := [.int 2]) (rest := []) rfl rfl rfl rfl rfl rfl (st1 := fun _ => []) (fun _ => rfl) (ok_X2_addZeros hQ N c14 3 2 rfl) (fun _ c15 => ?_)
      exact l1_ret mt_X5_addEntries rfl rfl rfl
    · refine l1_many mt_X5_addEntries (pc' := 25) (L' := [some (.ref 36), some (.ref p1), some (.int v2), some (.int v3), some (.int v4)]) (st' := [.int v4, .ref p1]) 2 rfl ?_
      refine l1_callV hQ mt_X5_addEntries mt_X9_member rfl rfl (o := p1) (ci := 8) (As := [.int v4]) (rest := []) rfl rfl hp1 rfl rfl rfl (st1 := fun x16 => l1_mv x16 :: []) (fun _ => rfl) (ok_X9_member hQ c2 p1 v4 hp1) (fun x16 c17 => ?_)
      refine l1_opt (x := x16) ?_ (fun y18 => ?_)
      · refine l1_many mt_X5_addEntries (pc' := 13) (L' := [some (.ref 36), some (.ref p1), some (.int v2), some (.int v3), some (.int (v4 + 1)), some (.null)]) (st' := []) 5 rfl ?_
        refine l1_weak (m := [true, true, true, true, true, false]) (L' := [some (.ref 36), some (.ref p1), some (.int v2), some (.int v3), some (.int (v4 + 1))]) rfl ?_
        exact ih c17 v2 v3 (v4 + 1)
      · refine l1_ck (fun hy => ?_)
        have hy18 : kc y18 = 6 := Nat.eq_of_beq_eq_true hy
        refine l1_many mt_X5_addEntries (pc' := 36) (L' := [some (.ref 36), some (.ref p1), some (.int v2), some (.int v3), some (.int v4), some (.ref y18)]) (st' := [.ref 36]) 4 rfl ?_
        refine l1_getR hQ mt_X5_addEntries rfl (o := 36) (ci := 4) (k := 0) (a := 1) (b := 2) rfl rfl rfl rfl rfl (q := 3) rfl ?_
        refine l1_many mt_X5_addEntries (pc' := 42) (L' := [some (.ref 36), some (.ref p1), some (.int v2), some (.int v3), some (.int v4), some (.ref y18)]) (st' := [.ref 1000000004, .ref 3]) 1 rfl ?_
        refine l1_callV hQ mt_X5_addEntries mt_X2_addMark rfl rfl (o := 3) (ci := 1) (As := [.ref 1000000004]) (rest := []) rfl rfl rfl rfl rfl rfl (st1 := fun _ => []) (fun _ => rfl) (ok_X2_addMark hQ N c17 3 sa4 rfl oa4) (fun _ c19 => ?_)
        refine l1_many mt_X5_addEntries (pc' := 46) (L' := [some (.ref 36), some (.ref p1), some (.int v2), some (.int v3), some (.int v4), some (.ref y18)]) (st' := [.ref 36]) 1 rfl ?_
        refine l1_getR hQ mt_X5_addEntries rfl (o := 36) (ci := 4) (k := 0) (a := 1) (b := 2) rfl rfl rfl rfl rfl (q := 3) rfl ?_
        refine l1_many mt_X5_addEntries (pc' := 53) (L' := [some (.ref 36), some (.ref p1), some (.int v2), some (.int v3), some (.int v4), some (.ref y18)]) (st' := [.int 2, .long 20, .ref 3]) 2 rfl ?_
        refine l1_callV hQ mt_X5_addEntries mt_X2_addLittle rfl rfl (o := 3) (ci := 1) (As := [.long 20, .int 2]) (rest := []) rfl rfl rfl rfl rfl rfl (st1 := fun _ => []) (fun _ => rfl) (ok_X2_addLittle hQ N c19 3 20 2 rfl) (fun _ c20 => ?_)
        refine l1_many mt_X5_addEntries (pc' := 57) (L' := [some (.ref 36), some (.ref p1), some (.int v2), some (.int v3), some (.int v4), some (.ref y18)]) (st' := [.ref 36]) 1 rfl ?_
        refine l1_getR hQ mt_X5_addEntries rfl (o := 36) (ci := 4) (k := 0) (a := 1) (b := 2) rfl rfl rfl rfl rfl (q := 3) rfl ?_
        refine l1_many mt_X5_addEntries (pc' := 61) (L' := [some (.ref 36), some (.ref p1), some (.int v2), some (.int v3), some (.int v4), some (.ref y18)]) (st' := [.ref 36, .ref 3]) 1 rfl ?_
        refine l1_getR hQ mt_X5_addEntries rfl (o := 36) (ci := 4) (k := 0) (a := 1) (b := 2) rfl rfl rfl rfl rfl (q := 3) rfl ?_
        refine l1_many mt_X5_addEntries (pc' := 71) (L' := [some (.ref 36), some (.ref p1), some (.int v2), some (.int v3), some (.int v4), some (.ref y18)]) (st' := [.int (v3 + 28), .int (v3 + 4), .ref 3, .ref 3]) 6 rfl ?_
        refine l1_callV hQ mt_X5_addEntries mt_X2_addRow rfl rfl (o := 3) (ci := 1) (As := [.ref 3, .int (v3 + 4), .int (v3 + 28)]) (rest := []) rfl rfl rfl rfl rfl rfl (st1 := fun _ => []) (fun _ => rfl) (ok_X2_addRow hQ N c20 3 3 (v3 + 4) (v3 + 28) rfl rfl) (fun _ c21 => ?_)
        refine l1_many mt_X5_addEntries (pc' := 75) (L' := [some (.ref 36), some (.ref p1), some (.int v2), some (.int v3), some (.int v4), some (.ref y18)]) (st' := [.ref 36]) 1 rfl ?_
        refine l1_getR hQ mt_X5_addEntries rfl (o := 36) (ci := 4) (k := 0) (a := 1) (b := 2) rfl rfl rfl rfl rfl (q := 3) rfl ?_
        refine l1_many mt_X5_addEntries (pc' := 80) (L' := [some (.ref 36), some (.ref p1), some (.int v2), some (.int v3), some (.int v4), some (.ref y18)]) (st' := [.int 12, .ref 3]) 1 rfl ?_
        refine l1_callV hQ mt_X5_addEntries mt_X2_addZeros rfl rfl (o := 3) (ci := 1) (As := [.int 12]) (rest := []) rfl rfl rfl rfl rfl rfl (st1 := fun _ => []) (fun _ => rfl) (ok_X2_addZeros hQ N c21 3 12 rfl) (fun _ c22 => ?_)
        refine l1_many mt_X5_addEntries (pc' := 84) (L' := [some (.ref 36), some (.ref p1), some (.int v2), some (.int v3), some (.int v4), some (.ref y18)]) (st' := [.ref 36]) 1 rfl ?_
        refine l1_getR hQ mt_X5_addEntries rfl (o := 36) (ci := 4) (k := 0) (a := 1) (b := 2) rfl rfl rfl rfl rfl (q := 3) rfl ?_
        refine l1_many mt_X5_addEntries (pc' := 90) (L' := [some (.ref 36), some (.ref p1), some (.int v2), some (.int v3), some (.int v4), some (.ref y18)]) (st' := [.int 4, .long v3.toInt64, .ref 3]) 3 rfl ?_
        refine l1_callV hQ mt_X5_addEntries mt_X2_addLittle rfl rfl (o := 3) (ci := 1) (As := [.long v3.toInt64, .int 4]) (rest := []) rfl rfl rfl rfl rfl rfl (st1 := fun _ => []) (fun _ => rfl) (ok_X2_addLittle hQ N c22 3 v3.toInt64 4 rfl) (fun _ c23 => ?_)
        refine l1_many mt_X5_addEntries (pc' := 97) (L' := [some (.ref 36), some (.ref p1), some (.int v2), some (.int v3), some (.int v4), some (.ref y18)]) (st' := [.int 1, .ref y18, .ref 36]) 3 rfl ?_
        refine l1_callV hQ mt_X5_addEntries mt_X0_addTitle rfl rfl (o := 36) (ci := 4) (As := [.ref y18, .int 1]) (rest := []) rfl rfl rfl rfl rfl rfl (st1 := fun _ => []) (fun _ => rfl) (ok_X0_addTitle_36 hQ N c23 y18 1 hy18) (fun _ c24 => ?_)
        refine l1_many mt_X5_addEntries (pc' := 105) (L' := [some (.ref 36), some (.ref p1), some (.int v2), some (.int v3), some (.int v4), some (.ref y18)]) (st' := [.ref y18, .int 30, .int v3]) 3 rfl ?_
        refine l1_callS mt_X5_addEntries mt_X5_titleBytes rfl rfl (As := [.ref y18]) (rest := [.int 30, .int v3]) rfl rfl rfl (st1 := fun x25 => [.int x25, .int 30, .int v3]) (fun _ => rfl) (ok_X5_titleBytes hQ c24 y18 hy18) (fun x25 c26 => ?_)
        refine l1_many mt_X5_addEntries (pc' := 110) (L' := [some (.ref 36), some (.ref p1), some (.int v2), some (.int v3), some (.int v4), some (.ref y18)]) (st' := [.ref 36, .int (30 + x25), .int v3]) 2 rfl ?_
        refine l1_getR hQ mt_X5_addEntries rfl (o := 36) (ci := 4) (k := 0) (a := 1) (b := 2) rfl rfl rfl rfl rfl (q := 3) rfl ?_
        refine l1_many mt_X5_addEntries (pc' := 118) (L' := [some (.ref 36), some (.ref p1), some (.int v2), some (.int v3), some (.int v4), some (.ref y18)]) (st' := [.int 4, .int (v3 + 18), .ref 3, .int (30 + x25), .int v3]) 4 rfl ?_
        refine l1_callV hQ mt_X5_addEntries mt_X2_little rfl rfl (o := 3) (ci := 1) (As := [.int (v3 + 18), .int 4]) (rest := [.int (30 + x25), .int v3]) rfl rfl rfl rfl rfl rfl (st1 := fun x27 => [.long x27, .int (30 + x25), .int v3]) (fun _ => rfl) (ok_X2_little hQ N c26 3 (v3 + 18) 4 rfl) (fun x27 c28 => ?_)
        refine l1_many mt_X5_addEntries (pc' := 13) (L' := [some (.ref 36), some (.ref p1), some (.int v2), some (.int (v3 + ((30 + x25) + x27.toInt32))), some (.int (v4 + 1)), some (.ref y18)]) (st' := []) 6 rfl ?_
        refine l1_weak (m := [true, true, true, true, true, false]) (L' := [some (.ref 36), some (.ref p1), some (.int v2), some (.int (v3 + ((30 + x25) + x27.toInt32))), some (.int (v4 + 1))]) rfl ?_
        exact ih c28 v2 (v3 + ((30 + x25) + x27.toInt32)) (v4 + 1)
set_option maxRecDepth 100000 in
theorem en_X5_addEntries {Q : hS → am_H → Prop} (hQ : l1_em kc Q) (N : Nat) (c : hS) (p1 : Nat) (hp1 : kc p1 = 8) : l1_G (wN wV) Q am_i_X5_addEntries 0 [some (.ref 36), some (.ref p1)] [] c (f_X5_addEntries N c p1) := by
  rw [f_X5_addEntries]
  refine l1_many mt_X5_addEntries (pc' := 1) (L' := [some (.ref 36), some (.ref p1)]) (st' := [.ref 36]) 1 rfl ?_
  refine l1_getR hQ mt_X5_addEntries rfl (o := 36) (ci := 4) (k := 0) (a := 1) (b := 2) rfl rfl rfl rfl rfl (q := 3) rfl ?_
  refine l1_callV hQ mt_X5_addEntries mt_X2_size rfl rfl (o := 3) (ci := 1) (As := []) (rest := []) rfl rfl rfl rfl rfl rfl (st1 := fun x1 => [.int x1]) (fun _ => rfl) (ok_X2_size hQ c 3 rfl) (fun x1 c2 => ?_)
  refine l1_many mt_X5_addEntries (pc' := 13) (L' := [some (.ref 36), some (.ref p1), some (.int x1), some (.int 0), some (.int 0)]) (st' := []) 5 rfl ?_
  exact ok_X5_addEntries_13 hQ N p1 hp1 N c2 x1 0 0
theorem ok_X5_addEntries {Q : hS → am_H → Prop} (hQ : l1_em kc Q) (N : Nat) (c : hS) (p1 : Nat) (hp1 : kc p1 = 8) : l1_T wV Q am_i_X5_addEntries [.ref 36, .ref p1] c (f_X5_addEntries N c p1) := l1_of (en_X5_addEntries hQ N c p1 hp1) ⟨rfl, rfl, trivial⟩
end
