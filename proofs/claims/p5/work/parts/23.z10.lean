/-! THAT THE MACHINE FOLLOWS THEM, printed by gen_l1.py -/
set_option maxRecDepth 100000 in
theorem ok_X12_isInTheWay_53 {Q : hS → am_H → Prop} (hQ : l1_em km Q) (N : Nat) (p1 : Int32) (p2 : Int32) {k5 : hS → Int32 → Int32 → Option (Int32 × hS)} (hk5 : ∀ c v3 v4, l1_G (wN wI) Q am_i_X12_isInTheWay 5 [some (.ref 201), some (.int p1), some (.int p2), some (.int v3), some (.int v4)] [] c (k5 c v3 v4)) : ∀ (c : hS) (v3 : Int32) (v4 : Int32) (w0 : Int32), l1_G (wN wI) Q am_i_X12_isInTheWay 53 [some (.ref 201), some (.int p1), some (.int p2), some (.int v3), some (.int v4)] [.int w0] c (f_X12_isInTheWay_53 N p1 p2 k5 c v3 v4 w0) := by
  intro c v3 v4 w0
  rw [f_X12_isInTheWay_53]
  refine l1_many mt_X12_isInTheWay (pc' := bif am_cc .ne v3 0 then 73 else 59) (L' := [some (.ref 201), some (.int p1), some (.int p2), some (.int v3), some (.int v4), some (.int w0)]) (st' := []) 3 rfl ?_
  refine l1_bin rfl ?_ ?_
  · refine l1_many mt_X12_isInTheWay (pc' := 62) (L' := [some (.ref 201), some (.int p1), some (.int p2), some (.int v3), some (.int v4), some (.int w0)]) (st' := [.int v4, .ref 201]) 2 rfl ?_
    refine l1_callV hQ mt_X12_isInTheWay mt_X12_isNamed rfl rfl (o := 201) (ci := 11) (As := [.int v4]) (rest := []) rfl rfl rfl rfl rfl rfl (st1 := fun x1 => [.int x1]) (fun _ => rfl) (ok_X12_isNamed hQ N c v4) (fun x1 c2 => ?_)
    refine l1_many mt_X12_isInTheWay (pc' := bif am_cc .ne x1 0 then 77 else 68) (L' := [some (.ref 201), some (.int p1), some (.int p2), some (.int v3), some (.int v4), some (.int w0)]) (st' := []) 1 rfl ?_
    refine l1_bin rfl ?_ ?_
    · refine l1_many mt_X12_isInTheWay (pc' := bif am_cc .eq w0 0 then 77 else 73) (L' := [some (.ref 201), some (.int p1), some (.int p2), some (.int v3), some (.int v4), some (.int w0)]) (st' := []) 2 rfl ?_
      refine l1_bif rfl ?_ ?_
      · refine l1_many mt_X12_isInTheWay (pc' := 5) (L' := [some (.ref 201), some (.int p1), some (.int p2), some (.int 0), some (.int (v4 + 1)), some (.int w0)]) (st' := []) 4 rfl ?_
        refine l1_weak (m := [true, true, true, true, true, false]) (L' := [some (.ref 201), some (.int p1), some (.int p2), some (.int 0), some (.int (v4 + 1))]) rfl ?_
        exact hk5 c2 0 (v4 + 1)
      · refine l1_many mt_X12_isInTheWay (pc' := 5) (L' := [some (.ref 201), some (.int p1), some (.int p2), some (.int 1), some (.int (v4 + 1)), some (.int w0)]) (st' := []) 5 rfl ?_
        refine l1_weak (m := [true, true, true, true, true, false]) (L' := [some (.ref 201), some (.int p1), some (.int p2), some (.int 1), some (.int (v4 + 1))]) rfl ?_
        exact hk5 c2 1 (v4 + 1)
    · refine l1_many mt_X12_isInTheWay (pc' := 5) (L' := [some (.ref 201), some (.int p1), some (.int p2), some (.int 0), some (.int (v4 + 1)), some (.int w0)]) (st' := []) 4 rfl ?_
      refine l1_weak (m := [true, true, true, true, true, false]) (L' := [some (.ref 201), some (.int p1), some (.int p2), some (.int 0), some (.int (v4 + 1))]) rfl ?_
      exact hk5 c2 0 (v4 + 1)
  · refine l1_many mt_X12_isInTheWay (pc' := 5) (L' := [some (.ref 201), some (.int p1), some (.int p2), some (.int 1), some (.int (v4 + 1)), some (.int w0)]) (st' := []) 5 rfl ?_
    refine l1_weak (m := [true, true, true, true, true, false]) (L' := [some (.ref 201), some (.int p1), some (.int p2), some (.int 1), some (.int (v4 + 1))]) rfl ?_
    exact hk5 c 1 (v4 + 1)
set_option maxRecDepth 100000 in
theorem ok_X12_isInTheWay_48 {Q : hS → am_H → Prop} (hQ : l1_em km Q) (N : Nat) (p1 : Int32) (p2 : Int32) {k5 : hS → Int32 → Int32 → Option (Int32 × hS)} (hk5 : ∀ c v3 v4, l1_G (wN wI) Q am_i_X12_isInTheWay 5 [some (.ref 201), some (.int p1), some (.int p2), some (.int v3), some (.int v4)] [] c (k5 c v3 v4)) : ∀ (c : hS) (v3 : Int32) (v4 : Int32), l1_G (wN wI) Q am_i_X12_isInTheWay 48 [some (.ref 201), some (.int p1), some (.int p2), some (.int v3), some (.int v4)] [] c (f_X12_isInTheWay_48 N p1 p2 k5 c v3 v4) := by
  intro c v3 v4
  rw [f_X12_isInTheWay_48]
  refine l1_many mt_X12_isInTheWay (pc' := 53) (L' := [some (.ref 201), some (.int p1), some (.int p2), some (.int v3), some (.int v4)]) (st' := [.int 1]) 2 rfl ?_
  exact ok_X12_isInTheWay_53 hQ N p1 p2 hk5 c v3 v4 1
set_option maxRecDepth 100000 in
theorem ok_X12_isInTheWay_52 {Q : hS → am_H → Prop} (hQ : l1_em km Q) (N : Nat) (p1 : Int32) (p2 : Int32) {k5 : hS → Int32 → Int32 → Option (Int32 × hS)} (hk5 : ∀ c v3 v4, l1_G (wN wI) Q am_i_X12_isInTheWay 5 [some (.ref 201), some (.int p1), some (.int p2), some (.int v3), some (.int v4)] [] c (k5 c v3 v4)) : ∀ (c : hS) (v3 : Int32) (v4 : Int32), l1_G (wN wI) Q am_i_X12_isInTheWay 52 [some (.ref 201), some (.int p1), some (.int p2), some (.int v3), some (.int v4)] [] c (f_X12_isInTheWay_52 N p1 p2 k5 c v3 v4) := by
  intro c v3 v4
  rw [f_X12_isInTheWay_52]
  refine l1_many mt_X12_isInTheWay (pc' := 53) (L' := [some (.ref 201), some (.int p1), some (.int p2), some (.int v3), some (.int v4)]) (st' := [.int 0]) 1 rfl ?_
  exact ok_X12_isInTheWay_53 hQ N p1 p2 hk5 c v3 v4 0
set_option maxRecDepth 100000 in
theorem ok_X12_isInTheWay_29 {Q : hS → am_H → Prop} (hQ : l1_em km Q) (N : Nat) (p1 : Int32) (p2 : Int32) {k5 : hS → Int32 → Int32 → Option (Int32 × hS)} (hk5 : ∀ c v3 v4, l1_G (wN wI) Q am_i_X12_isInTheWay 5 [some (.ref 201), some (.int p1), some (.int p2), some (.int v3), some (.int v4)] [] c (k5 c v3 v4)) : ∀ (c : hS) (v3 : Int32) (v4 : Int32), l1_G (wN wI) Q am_i_X12_isInTheWay 29 [some (.ref 201), some (.int p1), some (.int p2), some (.int v3), some (.int v4)] [] c (f_X12_isInTheWay_29 N p1 p2 k5 c v3 v4) := by
  intro c v3 v4
  rw [f_X12_isInTheWay_29]
  refine l1_many mt_X12_isInTheWay (pc' := 30) (L' := [some (.ref 201), some (.int p1), some (.int p2), some (.int v3), some (.int v4)]) (st' := [.ref 201]) 1 rfl ?_
  refine l1_getR hQ mt_X12_isInTheWay rfl (o := 201) (ci := 11) (k := 13) (a := 0) (b := 0) rfl rfl rfl rfl rfl (q := 208) rfl ?_
  refine l1_many mt_X12_isInTheWay (pc' := 35) (L' := [some (.ref 201), some (.int p1), some (.int p2), some (.int v3), some (.int v4)]) (st' := [.int v4, .ref 208]) 1 rfl ?_
  refine l1_ck (fun hx => ?_)
  refine l1_bld hQ mt_X12_isInTheWay rfl (o := 208) rfl hx ?_
  refine l1_many mt_X12_isInTheWay (pc' := bif am_cc .ne (c.1 208 v4.toNatClampNeg) 0 then 52 else 39) (L' := [some (.ref 201), some (.int p1), some (.int p2), some (.int v3), some (.int v4)]) (st' := []) 1 rfl ?_
  refine l1_bin rfl ?_ ?_
  · refine l1_many mt_X12_isInTheWay (pc' := 42) (L' := [some (.ref 201), some (.int p1), some (.int p2), some (.int v3), some (.int v4)]) (st' := [.int v4, .ref 201]) 2 rfl ?_
    refine l1_callV hQ mt_X12_isInTheWay mt_X12_isNewUnder rfl rfl (o := 201) (ci := 11) (As := [.int v4]) (rest := []) rfl rfl rfl rfl rfl rfl (st1 := fun x1 => [.int x1]) (fun _ => rfl) (ok_X12_isNewUnder hQ N c v4) (fun x1 c2 => ?_)
    refine l1_many mt_X12_isInTheWay (pc' := bif am_cc .eq x1 0 then 52 else 48) (L' := [some (.ref 201), some (.int p1), some (.int p2), some (.int v3), some (.int v4)]) (st' := []) 1 rfl ?_
    refine l1_bif rfl ?_ ?_
    · exact ok_X12_isInTheWay_52 hQ N p1 p2 hk5 c2 v3 v4
    · exact ok_X12_isInTheWay_48 hQ N p1 p2 hk5 c2 v3 v4
  · exact ok_X12_isInTheWay_52 hQ N p1 p2 hk5 c v3 v4
set_option maxRecDepth 100000 in
theorem ok_X12_isInTheWay_5 {Q : hS → am_H → Prop} (hQ : l1_em km Q) (N : Nat) (p1 : Int32) (p2 : Int32) : ∀ n : Nat, ∀ (c : hS) (v3 : Int32) (v4 : Int32), l1_G (wN wI) Q am_i_X12_isInTheWay 5 [some (.ref 201), some (.int p1), some (.int p2), some (.int v3), some (.int v4)] [] c (f_X12_isInTheWay_5 N p1 p2 n c v3 v4) := by
  intro n
  induction n with
  | zero => intro c v3 v4; exact l1_none
  | succ n ih =>
    intro c v3 v4
    rw [f_X12_isInTheWay_5]
    refine l1_many mt_X12_isInTheWay (pc' := bif am_cc .ge v4 (p1 + p2) then 85 else 13) (L' := [some (.ref 201), some (.int p1), some (.int p2), some (.int v3), some (.int v4)]) (st' := []) 5 rfl ?_
    refine l1_bif rfl ?_ ?_
    · refine l1_many mt_X12_isInTheWay (pc' := 86) (L' := [some (.ref 201), some (.int p1), some (.int p2), some (.int v3), some (.int v4)]) (st' := [.int v3]) 1 rfl ?_
      refine l1_ck (fun hz => ?_)
      exact l1_retZ mt_X12_isInTheWay rfl rfl rfl hz
    · refine l1_many mt_X12_isInTheWay (pc' := 14) (L' := [some (.ref 201), some (.int p1), some (.int p2), some (.int v3), some (.int v4)]) (st' := [.ref 201]) 1 rfl ?_
      refine l1_getI hQ mt_X12_isInTheWay rfl (o := 201) (ci := 11) (k := 18) (a := 0) (b := 0) rfl rfl rfl rfl rfl ?_
      refine l1_many mt_X12_isInTheWay (pc' := bif am_cc .ne (c.1 201 18) 0 then 29 else 20) (L' := [some (.ref 201), some (.int p1), some (.int p2), some (.int v3), some (.int v4)]) (st' := []) 1 rfl ?_
      refine l1_bin rfl ?_ ?_
      · refine l1_many mt_X12_isInTheWay (pc' := 23) (L' := [some (.ref 201), some (.int p1), some (.int p2), some (.int v3), some (.int v4)]) (st' := [.int v4, .ref 201]) 2 rfl ?_
        refine l1_callV hQ mt_X12_isInTheWay mt_X12_isUnderNew rfl rfl (o := 201) (ci := 11) (As := [.int v4]) (rest := []) rfl rfl rfl rfl rfl rfl (st1 := fun x1 => [.int x1]) (fun _ => rfl) (ok_X12_isUnderNew hQ N c v4) (fun x1 c2 => ?_)
        refine l1_many mt_X12_isInTheWay (pc' := bif am_cc .ne x1 0 then 48 else 29) (L' := [some (.ref 201), some (.int p1), some (.int p2), some (.int v3), some (.int v4)]) (st' := []) 1 rfl ?_
        refine l1_bin rfl ?_ ?_
        · exact ok_X12_isInTheWay_29 hQ N p1 p2 ih c2 v3 v4
        · exact ok_X12_isInTheWay_48 hQ N p1 p2 ih c2 v3 v4
      · exact ok_X12_isInTheWay_29 hQ N p1 p2 ih c v3 v4
set_option maxRecDepth 100000 in
theorem en_X12_isInTheWay {Q : hS → am_H → Prop} (hQ : l1_em km Q) (N : Nat) (c : hS) (p1 : Int32) (p2 : Int32) : l1_G (wN wI) Q am_i_X12_isInTheWay 0 [some (.ref 201), some (.int p1), some (.int p2)] [] c (f_X12_isInTheWay N c p1 p2) := by
  rw [f_X12_isInTheWay]
  refine l1_many mt_X12_isInTheWay (pc' := 5) (L' := [some (.ref 201), some (.int p1), some (.int p2), some (.int 0), some (.int p1)]) (st' := []) 4 rfl ?_
  exact ok_X12_isInTheWay_5 hQ N p1 p2 N c 0 p1
theorem ok_X12_isInTheWay {Q : hS → am_H → Prop} (hQ : l1_em km Q) (N : Nat) (c : hS) (p1 : Int32) (p2 : Int32) : l1_T wI Q am_i_X12_isInTheWay [.ref 201, .int p1, .int p2] c (f_X12_isInTheWay N c p1 p2) := l1_of (en_X12_isInTheWay hQ N c p1 p2) ⟨rfl, rfl, rfl, trivial⟩
set_option maxRecDepth 100000 in
theorem ok_X12_move_74 {Q : hS → am_H → Prop} (hQ : l1_em km Q) (N : Nat) (p1 : Int32) (p2 : Int32) : ∀ n : Nat, ∀ (c : hS) (v3 : Int32), l1_G (wN wV) Q am_i_X12_move 74 [some (.ref 201), some (.int p1), some (.int p2), some (.int v3)] [] c (f_X12_move_74 N p1 p2 n c v3) := by
  intro n
  induction n with
  | zero => intro c v3; exact l1_none
  | succ n ih =>
    intro c v3
    rw [f_X12_move_74]
    refine l1_many mt_X12_move (pc' := bif am_cc .ge v3 400 then 111 else 81) (L' := [some (.ref 201), some (.int p1), some (.int p2), some (.int v3)]) (st' := []) 3 rfl ?_
    refine l1_bif rfl ?_ ?_
    · exact l1_ret mt_X12_move rfl rfl rfl
    · refine l1_many mt_X12_move (pc' := 82) (L' := [some (.ref 201), some (.int p1), some (.int p2), some (.int v3)]) (st' := [.ref 201]) 1 rfl ?_
      refine l1_getR hQ mt_X12_move rfl (o := 201) (ci := 11) (k := 12) (a := 0) (b := 0) rfl rfl rfl rfl rfl (q := 207) rfl ?_
      refine l1_many mt_X12_move (pc' := 93) (L' := [some (.ref 201), some (.int p1), some (.int p2), some (.int v3)]) (st' := [.ref 201, .int ((400 * p2) + v3), .ref 207]) 6 rfl ?_
      refine l1_getR hQ mt_X12_move rfl (o := 201) (ci := 11) (k := 12) (a := 0) (b := 0) rfl rfl rfl rfl rfl (q := 207) rfl ?_
      refine l1_many mt_X12_move (pc' := 103) (L' := [some (.ref 201), some (.int p1), some (.int p2), some (.int v3)]) (st' := [.int ((400 * p1) + v3), .ref 207, .int ((400 * p2) + v3), .ref 207]) 5 rfl ?_
      refine l1_ck (fun hx => ?_)
      refine l1_ald hQ mt_X12_move rfl (o := 207) rfl hx ?_
      refine l1_ck (fun hx => ?_)
      refine l1_ast hQ mt_X12_move rfl (o := 207) rfl hx (fun c1 => ?_)
      refine l1_many mt_X12_move (pc' := 74) (L' := [some (.ref 201), some (.int p1), some (.int p2), some (.int (v3 + 1))]) (st' := []) 2 rfl ?_
      exact ih c1 (v3 + 1)
set_option maxRecDepth 100000 in
theorem ok_X12_move_38 {Q : hS → am_H → Prop} (hQ : l1_em km Q) (N : Nat) (p1 : Int32) (p2 : Int32) : ∀ n : Nat, ∀ (c : hS) (v3 : Int32), l1_G (wN wV) Q am_i_X12_move 38 [some (.ref 201), some (.int p1), some (.int p2), some (.int v3)] [] c (f_X12_move_38 N p1 p2 n c v3) := by
  intro n
  induction n with
  | zero => intro c v3; exact l1_none
  | succ n ih =>
    intro c v3
    rw [f_X12_move_38]
    refine l1_many mt_X12_move (pc' := bif am_cc .ge v3 90 then 72 else 44) (L' := [some (.ref 201), some (.int p1), some (.int p2), some (.int v3)]) (st' := []) 3 rfl ?_
    refine l1_bif rfl ?_ ?_
    · refine l1_many mt_X12_move (pc' := 74) (L' := [some (.ref 201), some (.int p1), some (.int p2), some (.int 0)]) (st' := []) 2 rfl ?_
      exact ok_X12_move_74 hQ N p1 p2 N c 0
    · refine l1_many mt_X12_move (pc' := 45) (L' := [some (.ref 201), some (.int p1), some (.int p2), some (.int v3)]) (st' := [.ref 201]) 1 rfl ?_
      refine l1_getR hQ mt_X12_move rfl (o := 201) (ci := 11) (k := 10) (a := 0) (b := 0) rfl rfl rfl rfl rfl (q := 205) rfl ?_
      refine l1_many mt_X12_move (pc' := 55) (L' := [some (.ref 201), some (.int p1), some (.int p2), some (.int v3)]) (st' := [.ref 201, .int ((90 * p2) + v3), .ref 205]) 6 rfl ?_
      refine l1_getR hQ mt_X12_move rfl (o := 201) (ci := 11) (k := 10) (a := 0) (b := 0) rfl rfl rfl rfl rfl (q := 205) rfl ?_
      refine l1_many mt_X12_move (pc' := 64) (L' := [some (.ref 201), some (.int p1), some (.int p2), some (.int v3)]) (st' := [.int ((90 * p1) + v3), .ref 205, .int ((90 * p2) + v3), .ref 205]) 5 rfl ?_
      refine l1_ck (fun hx => ?_)
      refine l1_ald hQ mt_X12_move rfl (o := 205) rfl hx ?_
      refine l1_ck (fun hx => ?_)
      refine l1_ast hQ mt_X12_move rfl (o := 205) rfl hx (fun c1 => ?_)
      refine l1_many mt_X12_move (pc' := 38) (L' := [some (.ref 201), some (.int p1), some (.int p2), some (.int (v3 + 1))]) (st' := []) 2 rfl ?_
      exact ih c1 (v3 + 1)
set_option maxRecDepth 100000 in
theorem en_X12_move {Q : hS → am_H → Prop} (hQ : l1_em km Q) (N : Nat) (c : hS) (p1 : Int32) (p2 : Int32) : l1_G (wN wV) Q am_i_X12_move 0 [some (.ref 201), some (.int p1), some (.int p2)] [] c (f_X12_move N c p1 p2) := by
  rw [f_X12_move]
  refine l1_many mt_X12_move (pc' := 1) (L' := [some (.ref 201), some (.int p1), some (.int p2)]) (st' := [.ref 201]) 1 rfl ?_
  refine l1_getR hQ mt_X12_move rfl (o := 201) (ci := 11) (k := 9) (a := 0) (b := 0) rfl rfl rfl rfl rfl (q := 204) rfl ?_
  refine l1_many mt_X12_move (pc' := 6) (L' := [some (.ref 201), some (.int p1), some (.int p2)]) (st' := [.ref 201, .int p2, .ref 204]) 2 rfl ?_
  refine l1_getR hQ mt_X12_move rfl (o := 201) (ci := 11) (k := 9) (a := 0) (b := 0) rfl rfl rfl rfl rfl (q := 204) rfl ?_
  refine l1_many mt_X12_move (pc' := 10) (L' := [some (.ref 201), some (.int p1), some (.int p2)]) (st' := [.int p1, .ref 204, .int p2, .ref 204]) 1 rfl ?_
  refine l1_ck (fun hx => ?_)
  refine l1_ald hQ mt_X12_move rfl (o := 204) rfl hx ?_
  refine l1_ck (fun hx => ?_)
  refine l1_ast hQ mt_X12_move rfl (o := 204) rfl hx (fun c1 => ?_)
  refine l1_many mt_X12_move (pc' := 13) (L' := [some (.ref 201), some (.int p1), some (.int p2)]) (st' := [.ref 201]) 1 rfl ?_
  refine l1_getR hQ mt_X12_move rfl (o := 201) (ci := 11) (k := 11) (a := 0) (b := 0) rfl rfl rfl rfl rfl (q := 206) rfl ?_
  refine l1_many mt_X12_move (pc' := 18) (L' := [some (.ref 201), some (.int p1), some (.int p2)]) (st' := [.ref 201, .int p2, .ref 206]) 2 rfl ?_
  refine l1_getR hQ mt_X12_move rfl (o := 201) (ci := 11) (k := 11) (a := 0) (b := 0) rfl rfl rfl rfl rfl (q := 206) rfl ?_
  refine l1_many mt_X12_move (pc' := 22) (L' := [some (.ref 201), some (.int p1), some (.int p2)]) (st' := [.int p1, .ref 206, .int p2, .ref 206]) 1 rfl ?_
  refine l1_ck (fun hx => ?_)
  refine l1_ald hQ mt_X12_move rfl (o := 206) rfl hx ?_
  refine l1_ck (fun hx => ?_)
  refine l1_ast hQ mt_X12_move rfl (o := 206) rfl hx (fun c2 => ?_)
  refine l1_many mt_X12_move (pc' := 25) (L' := [some (.ref 201), some (.int p1), some (.int p2)]) (st' := [.ref 201]) 1 rfl ?_
  refine l1_getR hQ mt_X12_move rfl (o := 201) (ci := 11) (k := 13) (a := 0) (b := 0) rfl rfl rfl rfl rfl (q := 208) rfl ?_
  refine l1_many mt_X12_move (pc' := 30) (L' := [some (.ref 201), some (.int p1), some (.int p2)]) (st' := [.ref 201, .int p2, .ref 208]) 2 rfl ?_
  refine l1_getR hQ mt_X12_move rfl (o := 201) (ci := 11) (k := 13) (a := 0) (b := 0) rfl rfl rfl rfl rfl (q := 208) rfl ?_
  refine l1_many mt_X12_move (pc' := 34) (L' := [some (.ref 201), some (.int p1), some (.int p2)]) (st' := [.int p1, .ref 208, .int p2, .ref 208]) 1 rfl ?_
  refine l1_ck (fun hx => ?_)
  refine l1_bld hQ mt_X12_move rfl (o := 208) rfl hx ?_
  refine l1_ck (fun hx => ?_)
  refine l1_bst hQ mt_X12_move rfl (o := 208) rfl hx (fun c3 => ?_)
  refine l1_many mt_X12_move (pc' := 38) (L' := [some (.ref 201), some (.int p1), some (.int p2), some (.int 0)]) (st' := []) 2 rfl ?_
  exact ok_X12_move_38 hQ N p1 p2 N c3 0
theorem ok_X12_move {Q : hS → am_H → Prop} (hQ : l1_em km Q) (N : Nat) (c : hS) (p1 : Int32) (p2 : Int32) : l1_T wV Q am_i_X12_move [.ref 201, .int p1, .int p2] c (f_X12_move N c p1 p2) := l1_of (en_X12_move hQ N c p1 p2) ⟨rfl, rfl, rfl, trivial⟩
set_option maxRecDepth 100000 in
theorem ok_X12_stand_115 {Q : hS → am_H → Prop} (hQ : l1_em km Q) (N : Nat) (p1 : Int32) (p2 : Int32) : ∀ n : Nat, ∀ (c : hS) (v4 : Int32) (v5 : Int32) (v6 : Int32), l1_G (wN wI) Q am_i_X12_stand 115 [some (.ref 201), none, none, none, some (.int v4), some (.int v5), some (.int v6)] [] c (f_X12_stand_115 N p1 p2 n c v4 v5 v6) := by
  intro n
  induction n with
  | zero => intro c v4 v5 v6; exact l1_none
  | succ n ih =>
    intro c v4 v5 v6
    rw [f_X12_stand_115]
    refine l1_many mt_X12_stand (pc' := 118) (L' := [some (.ref 201), none, none, none, some (.int v4), some (.int v5), some (.int v6)]) (st' := [.ref 201, .int v6]) 2 rfl ?_
    refine l1_getI hQ mt_X12_stand rfl (o := 201) (ci := 11) (k := 16) (a := 0) (b := 0) rfl rfl rfl rfl rfl ?_
    refine l1_many mt_X12_stand (pc' := bif am_cc .ge v6 (c.1 201 16) then 151 else 124) (L' := [some (.ref 201), none, none, none, some (.int v4), some (.int v5), some (.int v6)]) (st' := []) 1 rfl ?_
    refine l1_bif rfl ?_ ?_
    · refine l1_many mt_X12_stand (pc' := 152) (L' := [some (.ref 201), none, none, none, some (.int v4), some (.int v5), some (.int v6)]) (st' := [.ref 201]) 1 rfl ?_
      refine l1_getR hQ mt_X12_stand rfl (o := 201) (ci := 11) (k := 13) (a := 0) (b := 0) rfl rfl rfl rfl rfl (q := 208) rfl ?_
      refine l1_many mt_X12_stand (pc' := 158) (L' := [some (.ref 201), none, none, none, some (.int v4), some (.int v5), some (.int v6)]) (st' := [.ref 201, .int v5, .ref 208]) 2 rfl ?_
      refine l1_getI hQ mt_X12_stand rfl (o := 201) (ci := 11) (k := 18) (a := 0) (b := 0) rfl rfl rfl rfl rfl ?_
      refine l1_ck (fun hx => ?_)
      refine l1_bst hQ mt_X12_stand rfl (o := 208) rfl hx (fun c1 => ?_)
      refine l1_many mt_X12_stand (pc' := 166) (L' := [some (.ref 201), none, none, none, some (.int v4), some (.int v5), some (.int v6)]) (st' := [.int (v4 + 1)]) 3 rfl ?_
      exact l1_ret mt_X12_stand rfl rfl rfl
    · refine l1_many mt_X12_stand (pc' := 125) (L' := [some (.ref 201), none, none, none, some (.int v4), some (.int v5), some (.int v6)]) (st' := [.ref 201]) 1 rfl ?_
      refine l1_getR hQ mt_X12_stand rfl (o := 201) (ci := 11) (k := 12) (a := 0) (b := 0) rfl rfl rfl rfl rfl (q := 207) rfl ?_
      refine l1_many mt_X12_stand (pc' := 138) (L' := [some (.ref 201), none, none, none, some (.int v4), some (.int v5), some (.int v6)]) (st' := [.ref 201, .int ((400 * v5) + v6), .ref 207]) 6 rfl ?_
      refine l1_getR hQ mt_X12_stand rfl (o := 201) (ci := 11) (k := 17) (a := 0) (b := 0) rfl rfl rfl rfl rfl (q := 210) rfl ?_
      refine l1_many mt_X12_stand (pc' := 143) (L' := [some (.ref 201), none, none, none, some (.int v4), some (.int v5), some (.int v6)]) (st' := [.int v6, .ref 210, .int ((400 * v5) + v6), .ref 207]) 1 rfl ?_
      refine l1_ck (fun hx => ?_)
      refine l1_ald hQ mt_X12_stand rfl (o := 210) rfl hx ?_
      refine l1_ck (fun hx => ?_)
      refine l1_ast hQ mt_X12_stand rfl (o := 207) rfl hx (fun c2 => ?_)
      refine l1_many mt_X12_stand (pc' := 115) (L' := [some (.ref 201), none, none, none, some (.int v4), some (.int v5), some (.int (v6 + 1))]) (st' := []) 2 rfl ?_
      exact ih c2 v4 v5 (v6 + 1)
set_option maxRecDepth 100000 in
theorem ok_X12_stand_66 {Q : hS → am_H → Prop} (hQ : l1_em km Q) (N : Nat) (p1 : Int32) (p2 : Int32) : ∀ n : Nat, ∀ (c : hS) (v4 : Int32) (v5 : Int32) (v6 : Int32), l1_G (wN wI) Q am_i_X12_stand 66 [some (.ref 201), none, none, none, some (.int v4), some (.int v5), some (.int v6)] [] c (f_X12_stand_66 N p1 p2 n c v4 v5 v6) := by
  intro n
  induction n with
  | zero => intro c v4 v5 v6; exact l1_none
  | succ n ih =>
    intro c v4 v5 v6
    rw [f_X12_stand_66]
    refine l1_many mt_X12_stand (pc' := 69) (L' := [some (.ref 201), none, none, none, some (.int v4), some (.int v5), some (.int v6)]) (st' := [.ref 201, .int v6]) 2 rfl ?_
    refine l1_getI hQ mt_X12_stand rfl (o := 201) (ci := 11) (k := 14) (a := 0) (b := 0) rfl rfl rfl rfl rfl ?_
    refine l1_many mt_X12_stand (pc' := bif am_cc .ge v6 (c.1 201 14) then 101 else 75) (L' := [some (.ref 201), none, none, none, some (.int v4), some (.int v5), some (.int v6)]) (st' := []) 1 rfl ?_
    refine l1_bif rfl ?_ ?_
    · refine l1_many mt_X12_stand (pc' := 102) (L' := [some (.ref 201), none, none, none, some (.int v4), some (.int v5), some (.int v6)]) (st' := [.ref 201]) 1 rfl ?_
      refine l1_getR hQ mt_X12_stand rfl (o := 201) (ci := 11) (k := 11) (a := 0) (b := 0) rfl rfl rfl rfl rfl (q := 206) rfl ?_
      refine l1_many mt_X12_stand (pc' := 108) (L' := [some (.ref 201), none, none, none, some (.int v4), some (.int v5), some (.int v6)]) (st' := [.ref 201, .int v5, .ref 206]) 2 rfl ?_
      refine l1_getI hQ mt_X12_stand rfl (o := 201) (ci := 11) (k := 16) (a := 0) (b := 0) rfl rfl rfl rfl rfl ?_
      refine l1_ck (fun hx => ?_)
      refine l1_ast hQ mt_X12_stand rfl (o := 206) rfl hx (fun c1 => ?_)
      refine l1_many mt_X12_stand (pc' := 115) (L' := [some (.ref 201), none, none, none, some (.int v4), some (.int v5), some (.int 0)]) (st' := []) 2 rfl ?_
      exact ok_X12_stand_115 hQ N p1 p2 N c1 v4 v5 0
    · refine l1_many mt_X12_stand (pc' := 76) (L' := [some (.ref 201), none, none, none, some (.int v4), some (.int v5), some (.int v6)]) (st' := [.ref 201]) 1 rfl ?_
      refine l1_getR hQ mt_X12_stand rfl (o := 201) (ci := 11) (k := 10) (a := 0) (b := 0) rfl rfl rfl rfl rfl (q := 205) rfl ?_
      refine l1_many mt_X12_stand (pc' := 88) (L' := [some (.ref 201), none, none, none, some (.int v4), some (.int v5), some (.int v6)]) (st' := [.ref 201, .int ((90 * v5) + v6), .ref 205]) 6 rfl ?_
      refine l1_getR hQ mt_X12_stand rfl (o := 201) (ci := 11) (k := 15) (a := 0) (b := 0) rfl rfl rfl rfl rfl (q := 209) rfl ?_
      refine l1_many mt_X12_stand (pc' := 93) (L' := [some (.ref 201), none, none, none, some (.int v4), some (.int v5), some (.int v6)]) (st' := [.int v6, .ref 209, .int ((90 * v5) + v6), .ref 205]) 1 rfl ?_
      refine l1_ck (fun hx => ?_)
      refine l1_ald hQ mt_X12_stand rfl (o := 209) rfl hx ?_
      refine l1_ck (fun hx => ?_)
      refine l1_ast hQ mt_X12_stand rfl (o := 205) rfl hx (fun c2 => ?_)
      refine l1_many mt_X12_stand (pc' := 66) (L' := [some (.ref 201), none, none, none, some (.int v4), some (.int v5), some (.int (v6 + 1))]) (st' := []) 2 rfl ?_
      exact ih c2 v4 v5 (v6 + 1)
set_option maxRecDepth 100000 in
theorem ok_X12_stand_46 {Q : hS → am_H → Prop} (hQ : l1_em km Q) (N : Nat) (p1 : Int32) (p2 : Int32) : ∀ (c : hS) (v4 : Int32), l1_G (wN wI) Q am_i_X12_stand 46 [some (.ref 201), some (.int p1), none, none, some (.int v4)] [] c (f_X12_stand_46 N p1 p2 c v4) := by
  intro c v4
  rw [f_X12_stand_46]
  refine l1_many mt_X12_stand (pc' := 53) (L' := [some (.ref 201), some (.int p1), none, none, some (.int v4), some (.int (p1 + v4))]) (st' := [.ref 201]) 5 rfl ?_
  refine l1_getR hQ mt_X12_stand rfl (o := 201) (ci := 11) (k := 9) (a := 0) (b := 0) rfl rfl rfl rfl rfl (q := 204) rfl ?_
  refine l1_many mt_X12_stand (pc' := 59) (L' := [some (.ref 201), some (.int p1), none, none, some (.int v4), some (.int (p1 + v4))]) (st' := [.ref 201, .int (p1 + v4), .ref 204]) 2 rfl ?_
  refine l1_getI hQ mt_X12_stand rfl (o := 201) (ci := 11) (k := 14) (a := 0) (b := 0) rfl rfl rfl rfl rfl ?_
  refine l1_ck (fun hx => ?_)
  refine l1_ast hQ mt_X12_stand rfl (o := 204) rfl hx (fun c1 => ?_)
  refine l1_many mt_X12_stand (pc' := 66) (L' := [some (.ref 201), some (.int p1), none, none, some (.int v4), some (.int (p1 + v4)), some (.int 0)]) (st' := []) 2 rfl ?_
  refine l1_weak (m := [true, false, false, false, true, true, true]) (L' := [some (.ref 201), none, none, none, some (.int v4), some (.int (p1 + v4)), some (.int 0)]) rfl ?_
  exact ok_X12_stand_66 hQ N p1 p2 N c1 v4 (p1 + v4) 0
set_option maxRecDepth 100000 in
theorem ok_X12_stand_17 {Q : hS → am_H → Prop} (hQ : l1_em km Q) (N : Nat) (p1 : Int32) (p2 : Int32) : ∀ n : Nat, ∀ (c : hS) (v4 : Int32) (v5 : Int32), l1_G (wN wI) Q am_i_X12_stand 17 [some (.ref 201), some (.int p1), some (.int p2), none, some (.int v4), some (.int v5)] [] c (f_X12_stand_17 N p1 p2 n c v4 v5) := by
  intro n
  induction n with
  | zero => intro c v4 v5; exact l1_none
  | succ n ih =>
    intro c v4 v5
    rw [f_X12_stand_17]
    refine l1_many mt_X12_stand (pc' := bif am_cc .ge (v5 + 1) (p1 + p2) then 43 else 27) (L' := [some (.ref 201), some (.int p1), some (.int p2), none, some (.int v4), some (.int v5)]) (st' := []) 7 rfl ?_
    refine l1_bif rfl ?_ ?_
    · refine l1_many mt_X12_stand (pc' := 46) (L' := [some (.ref 201), some (.int p1), some (.int p2), none, some (.int (v4 + (-1))), some (.int v5)]) (st' := []) 1 rfl ?_
      refine l1_weak (m := [true, true, false, false, true, false, false]) (L' := [some (.ref 201), some (.int p1), none, none, some (.int (v4 + (-1)))]) rfl ?_
      exact ok_X12_stand_46 hQ N p1 p2 c (v4 + (-1))
    · refine l1_many mt_X12_stand (pc' := 34) (L' := [some (.ref 201), some (.int p1), some (.int p2), none, some (.int v4), some (.int v5)]) (st' := [.int v5, .int (v5 + 1), .ref 201]) 5 rfl ?_
      refine l1_callV hQ mt_X12_stand mt_X12_move rfl rfl (o := 201) (ci := 11) (As := [.int (v5 + 1), .int v5]) (rest := []) rfl rfl rfl rfl rfl rfl (st1 := fun _ => []) (fun _ => rfl) (ok_X12_move hQ N c (v5 + 1) v5) (fun _ c1 => ?_)
      refine l1_many mt_X12_stand (pc' := 17) (L' := [some (.ref 201), some (.int p1), some (.int p2), none, some (.int v4), some (.int (v5 + 1))]) (st' := []) 2 rfl ?_
      exact ih c1 v4 (v5 + 1)
set_option maxRecDepth 100000 in
theorem en_X12_stand {Q : hS → am_H → Prop} (hQ : l1_em km Q) (N : Nat) (c : hS) (p1 : Int32) (p2 : Int32) : l1_G (wN wI) Q am_i_X12_stand 0 [some (.ref 201), some (.int p1), some (.int p2)] [] c (f_X12_stand N c p1 p2) := by
  rw [f_X12_stand]
  refine l1_many mt_X12_stand (pc' := 3) (L' := [some (.ref 201), some (.int p1), some (.int p2)]) (st' := [.int p2, .int p1, .ref 201]) 3 rfl ?_
  refine l1_callV hQ mt_X12_stand mt_X12_seek rfl rfl (o := 201) (ci := 11) (As := [.int p1, .int p2]) (rest := []) rfl rfl rfl rfl rfl rfl (st1 := fun x1 => [.int x1]) (fun _ => rfl) (ok_X12_seek hQ N c p1 p2) (fun x1 c2 => ?_)
  refine l1_many mt_X12_stand (pc' := bif am_cc .lt x1 0 then 46 else 14) (L' := [some (.ref 201), some (.int p1), some (.int p2), some (.int x1), some (.int p2)]) (st' := []) 5 rfl ?_
  refine l1_bif rfl ?_ ?_
  · refine l1_weak (m := [true, true, false, false, true, false, false]) (L' := [some (.ref 201), some (.int p1), none, none, some (.int p2)]) rfl ?_
    exact ok_X12_stand_46 hQ N p1 p2 c2 p2
  · refine l1_many mt_X12_stand (pc' := 17) (L' := [some (.ref 201), some (.int p1), some (.int p2), some (.int x1), some (.int p2), some (.int x1)]) (st' := []) 2 rfl ?_
    refine l1_weak (m := [true, true, true, false, true, true, false]) (L' := [some (.ref 201), some (.int p1), some (.int p2), none, some (.int p2), some (.int x1)]) rfl ?_
    exact ok_X12_stand_17 hQ N p1 p2 N c2 p2 x1
theorem ok_X12_stand {Q : hS → am_H → Prop} (hQ : l1_em km Q) (N : Nat) (c : hS) (p1 : Int32) (p2 : Int32) : l1_T wI Q am_i_X12_stand [.ref 201, .int p1, .int p2] c (f_X12_stand N c p1 p2) := l1_of (en_X12_stand hQ N c p1 p2) ⟨rfl, rfl, rfl, trivial⟩
set_option maxRecDepth 100000 in
theorem ok_X12_come_193 {Q : hS → am_H → Prop} (hQ : l1_em km Q) (N : Nat) (p1 : Int32) (p2 : Int32) : ∀ n : Nat, ∀ (c : hS) (v3 : Int32), l1_G (wN wI) Q am_i_X12_come 193 [some (.ref 201), some (.int p1), none, some (.int v3)] [] c (f_X12_come_193 N p1 p2 n c v3) := by
  intro n
  induction n with
  | zero => intro c v3; exact l1_none
  | succ n ih =>
    intro c v3
    rw [f_X12_come_193]
    refine l1_many mt_X12_come (pc' := 195) (L' := [some (.ref 201), some (.int p1), none, some (.int v3)]) (st' := [.ref 201, .int v3]) 2 rfl ?_
    refine l1_getI hQ mt_X12_come rfl (o := 201) (ci := 11) (k := 16) (a := 0) (b := 0) rfl rfl rfl rfl rfl ?_
    refine l1_many mt_X12_come (pc' := bif am_cc .ge v3 (c.1 201 16) then 221 else 201) (L' := [some (.ref 201), some (.int p1), none, some (.int v3)]) (st' := []) 1 rfl ?_
    refine l1_bif rfl ?_ ?_
    · refine l1_many mt_X12_come (pc' := 225) (L' := [some (.ref 201), some (.int p1), none, some (.int v3)]) (st' := [.ref 201, .int 0, .ref 201, .ref 201]) 4 rfl ?_
      refine l1_getI hQ mt_X12_come rfl (o := 201) (ci := 11) (k := 7) (a := 0) (b := 0) rfl rfl rfl rfl rfl ?_
      refine l1_callV hQ mt_X12_come mt_X12_stand rfl rfl (o := 201) (ci := 11) (As := [.int 0, .int (c.1 201 7)]) (rest := [.ref 201]) rfl rfl rfl rfl rfl rfl (st1 := fun x1 => [.int x1, .ref 201]) (fun _ => rfl) (ok_X12_stand hQ N c 0 (c.1 201 7)) (fun x1 c2 => ?_)
      refine l1_putI hQ mt_X12_come rfl (o := 201) (ci := 11) (k := 7) (a := 0) rfl rfl rfl rfl rfl rfl (fun c3 => ?_)
      refine l1_many mt_X12_come (pc' := 236) (L' := [some (.ref 201), some (.int p1), none, some (.int v3)]) (st' := [.int 0, .ref 201]) 2 rfl ?_
      refine l1_putI hQ mt_X12_come rfl (o := 201) (ci := 11) (k := 2) (a := 0) rfl rfl rfl rfl rfl rfl (fun c4 => ?_)
      refine l1_many mt_X12_come (pc' := 240) (L' := [some (.ref 201), some (.int p1), none, some (.int v3)]) (st' := [.ref 201]) 1 rfl ?_
      refine l1_getI hQ mt_X12_come rfl (o := 201) (ci := 11) (k := 7) (a := 0) (b := 0) rfl rfl rfl rfl rfl ?_
      exact l1_ret mt_X12_come rfl rfl rfl
    · refine l1_many mt_X12_come (pc' := 202) (L' := [some (.ref 201), some (.int p1), none, some (.int v3)]) (st' := [.ref 201]) 1 rfl ?_
      refine l1_getR hQ mt_X12_come rfl (o := 201) (ci := 11) (k := 17) (a := 0) (b := 0) rfl rfl rfl rfl rfl (q := 210) rfl ?_
      refine l1_many mt_X12_come (pc' := 207) (L' := [some (.ref 201), some (.int p1), none, some (.int v3)]) (st' := [.ref 201, .int v3, .ref 210]) 2 rfl ?_
      refine l1_getR hQ mt_X12_come rfl (o := 201) (ci := 11) (k := 1) (a := 0) (b := 0) rfl rfl rfl rfl rfl (q := 202) rfl ?_
      refine l1_many mt_X12_come (pc' := 213) (L' := [some (.ref 201), some (.int p1), none, some (.int v3)]) (st' := [.int (p1 + v3), .ref 202, .int v3, .ref 210]) 3 rfl ?_
      refine l1_ck (fun hx => ?_)
      refine l1_ald hQ mt_X12_come rfl (o := 202) rfl hx ?_
      refine l1_ck (fun hx => ?_)
      refine l1_ast hQ mt_X12_come rfl (o := 210) rfl hx (fun c5 => ?_)
      refine l1_many mt_X12_come (pc' := 193) (L' := [some (.ref 201), some (.int p1), none, some (.int (v3 + 1))]) (st' := []) 2 rfl ?_
      exact ih c5 (v3 + 1)
set_option maxRecDepth 100000 in
theorem ok_X12_come_182 {Q : hS → am_H → Prop} (hQ : l1_em km Q) (N : Nat) (p1 : Int32) (p2 : Int32) : ∀ (c : hS) (w0 : Int32), l1_G (wN wI) Q am_i_X12_come 182 [some (.ref 201), some (.int p1)] [.int w0, .ref 201] c (f_X12_come_182 N p1 p2 c w0) := by
  intro c w0
  rw [f_X12_come_182]
  refine l1_many mt_X12_come (pc' := 183) (L' := [some (.ref 201), some (.int p1)]) (st' := [.int 3, .int w0, .ref 201]) 1 rfl ?_
  refine l1_callV hQ mt_X12_come mt_X12_refuses rfl rfl (o := 201) (ci := 11) (As := [.int w0, .int 3]) (rest := []) rfl rfl rfl rfl rfl rfl (st1 := fun x1 => [.int x1]) (fun _ => rfl) (ok_X12_refuses hQ c w0 3) (fun x1 c2 => ?_)
  refine l1_many mt_X12_come (pc' := bif am_cc .eq x1 0 then 191 else 189) (L' := [some (.ref 201), some (.int p1)]) (st' := []) 1 rfl ?_
  refine l1_bif rfl ?_ ?_
  · refine l1_many mt_X12_come (pc' := 193) (L' := [some (.ref 201), some (.int p1), none, some (.int 0)]) (st' := []) 2 rfl ?_
    exact ok_X12_come_193 hQ N p1 p2 N c2 0
  · refine l1_many mt_X12_come (pc' := 190) (L' := [some (.ref 201), some (.int p1)]) (st' := [.int 0]) 1 rfl ?_
    exact l1_ret mt_X12_come rfl rfl rfl
set_option maxRecDepth 100000 in
theorem ok_X12_come_181 {Q : hS → am_H → Prop} (hQ : l1_em km Q) (N : Nat) (p1 : Int32) (p2 : Int32) : ∀ (c : hS), l1_G (wN wI) Q am_i_X12_come 181 [some (.ref 201), some (.int p1)] [.ref 201] c (f_X12_come_181 N p1 p2 c) := by
  intro c
  rw [f_X12_come_181]
  refine l1_many mt_X12_come (pc' := 182) (L' := [some (.ref 201), some (.int p1)]) (st' := [.int 0, .ref 201]) 1 rfl ?_
  exact ok_X12_come_182 hQ N p1 p2 c 0
set_option maxRecDepth 100000 in
theorem ok_X12_come_129 {Q : hS → am_H → Prop} (hQ : l1_em km Q) (N : Nat) (p1 : Int32) (p2 : Int32) : ∀ (c : hS) (w0 : Int32), l1_G (wN wI) Q am_i_X12_come 129 [some (.ref 201), some (.int p1)] [.int w0, .ref 201] c (f_X12_come_129 N p1 p2 c w0) := by
  intro c w0
  rw [f_X12_come_129]
  refine l1_many mt_X12_come (pc' := 130) (L' := [some (.ref 201), some (.int p1)]) (st' := [.int 1, .int w0, .ref 201]) 1 rfl ?_
  refine l1_callV hQ mt_X12_come mt_X12_refuses rfl rfl (o := 201) (ci := 11) (As := [.int w0, .int 1]) (rest := []) rfl rfl rfl rfl rfl rfl (st1 := fun x1 => [.int x1]) (fun _ => rfl) (ok_X12_refuses hQ c w0 1) (fun x1 c2 => ?_)
  refine l1_many mt_X12_come (pc' := bif am_cc .ne x1 0 then 153 else 136) (L' := [some (.ref 201), some (.int p1)]) (st' := []) 1 rfl ?_
  refine l1_bin rfl ?_ ?_
  · refine l1_many mt_X12_come (pc' := 140) (L' := [some (.ref 201), some (.int p1)]) (st' := [.ref 201, .int 0, .ref 201, .ref 201]) 4 rfl ?_
    refine l1_getI hQ mt_X12_come rfl (o := 201) (ci := 11) (k := 7) (a := 0) (b := 0) rfl rfl rfl rfl rfl ?_
    refine l1_callV hQ mt_X12_come mt_X12_isInTheWay rfl rfl (o := 201) (ci := 11) (As := [.int 0, .int (c2.1 201 7)]) (rest := [.ref 201]) rfl rfl rfl rfl rfl rfl (st1 := fun x3 => [.int x3, .ref 201]) (fun _ => rfl) (ok_X12_isInTheWay hQ N c2 0 (c2.1 201 7)) (fun x3 c4 => ?_)
    refine l1_many mt_X12_come (pc' := 147) (L' := [some (.ref 201), some (.int p1)]) (st' := [.int 2, .int x3, .ref 201]) 1 rfl ?_
    refine l1_callV hQ mt_X12_come mt_X12_refuses rfl rfl (o := 201) (ci := 11) (As := [.int x3, .int 2]) (rest := []) rfl rfl rfl rfl rfl rfl (st1 := fun x5 => [.int x5]) (fun _ => rfl) (ok_X12_refuses hQ c4 x3 2) (fun x5 c6 => ?_)
    refine l1_many mt_X12_come (pc' := bif am_cc .eq x5 0 then 155 else 153) (L' := [some (.ref 201), some (.int p1)]) (st' := []) 1 rfl ?_
    refine l1_bif rfl ?_ ?_
    · refine l1_many mt_X12_come (pc' := 157) (L' := [some (.ref 201), some (.int p1)]) (st' := [.ref 201, .ref 201]) 2 rfl ?_
      refine l1_getI hQ mt_X12_come rfl (o := 201) (ci := 11) (k := 7) (a := 0) (b := 0) rfl rfl rfl rfl rfl ?_
      refine l1_many mt_X12_come (pc' := bif am_cc .ne (c6.1 201 7) 16 then 181 else 165) (L' := [some (.ref 201), some (.int p1)]) (st' := [.ref 201]) 2 rfl ?_
      refine l1_bin rfl ?_ ?_
      · refine l1_many mt_X12_come (pc' := 168) (L' := [some (.ref 201), some (.int p1)]) (st' := [.ref 201, .int 0, .ref 201, .ref 201]) 3 rfl ?_
        refine l1_getI hQ mt_X12_come rfl (o := 201) (ci := 11) (k := 7) (a := 0) (b := 0) rfl rfl rfl rfl rfl ?_
        refine l1_callV hQ mt_X12_come mt_X12_seek rfl rfl (o := 201) (ci := 11) (As := [.int 0, .int (c6.1 201 7)]) (rest := [.ref 201]) rfl rfl rfl rfl rfl rfl (st1 := fun x7 => [.int x7, .ref 201]) (fun _ => rfl) (ok_X12_seek hQ N c6 0 (c6.1 201 7)) (fun x7 c8 => ?_)
        refine l1_many mt_X12_come (pc' := bif am_cc .ge x7 0 then 181 else 177) (L' := [some (.ref 201), some (.int p1)]) (st' := [.ref 201]) 1 rfl ?_
        refine l1_bif rfl ?_ ?_
        · exact ok_X12_come_181 hQ N p1 p2 c8
        · refine l1_many mt_X12_come (pc' := 182) (L' := [some (.ref 201), some (.int p1)]) (st' := [.int 1, .ref 201]) 2 rfl ?_
          exact ok_X12_come_182 hQ N p1 p2 c8 1
      · exact ok_X12_come_181 hQ N p1 p2 c6
    · refine l1_many mt_X12_come (pc' := 154) (L' := [some (.ref 201), some (.int p1)]) (st' := [.int 0]) 1 rfl ?_
      exact l1_ret mt_X12_come rfl rfl rfl
  · refine l1_many mt_X12_come (pc' := 154) (L' := [some (.ref 201), some (.int p1)]) (st' := [.int 0]) 1 rfl ?_
    exact l1_ret mt_X12_come rfl rfl rfl
set_option maxRecDepth 100000 in
theorem ok_X12_come_124 {Q : hS → am_H → Prop} (hQ : l1_em km Q) (N : Nat) (p1 : Int32) (p2 : Int32) : ∀ (c : hS), l1_G (wN wI) Q am_i_X12_come 124 [some (.ref 201), some (.int p1)] [.ref 201] c (f_X12_come_124 N p1 p2 c) := by
  intro c
  rw [f_X12_come_124]
  refine l1_many mt_X12_come (pc' := 129) (L' := [some (.ref 201), some (.int p1)]) (st' := [.int 1, .ref 201]) 2 rfl ?_
  exact ok_X12_come_129 hQ N p1 p2 c 1
set_option maxRecDepth 100000 in
theorem ok_X12_come_114 {Q : hS → am_H → Prop} (hQ : l1_em km Q) (N : Nat) (p1 : Int32) (p2 : Int32) : ∀ (c : hS), l1_G (wN wI) Q am_i_X12_come 114 [some (.ref 201), some (.int p1)] [.ref 201] c (f_X12_come_114 N p1 p2 c) := by
  intro c
  rw [f_X12_come_114]
  refine l1_many mt_X12_come (pc' := 115) (L' := [some (.ref 201), some (.int p1)]) (st' := [.ref 201, .ref 201]) 1 rfl ?_
  refine l1_getI hQ mt_X12_come rfl (o := 201) (ci := 11) (k := 16) (a := 0) (b := 0) rfl rfl rfl rfl rfl ?_
  refine l1_many mt_X12_come (pc' := bif am_cc .le (c.1 201 16) 400 then 128 else 124) (L' := [some (.ref 201), some (.int p1)]) (st' := [.ref 201]) 2 rfl ?_
  refine l1_bif rfl ?_ ?_
  · refine l1_many mt_X12_come (pc' := 129) (L' := [some (.ref 201), some (.int p1)]) (st' := [.int 0, .ref 201]) 1 rfl ?_
    exact ok_X12_come_129 hQ N p1 p2 c 0
  · exact ok_X12_come_124 hQ N p1 p2 c
set_option maxRecDepth 100000 in
theorem ok_X12_come_54 {Q : hS → am_H → Prop} (hQ : l1_em km Q) (N : Nat) (p1 : Int32) (p2 : Int32) : ∀ n : Nat, ∀ (c : hS) (v3 : Int32), l1_G (wN wI) Q am_i_X12_come 54 [some (.ref 201), some (.int p1), some (.int p2), some (.int v3)] [] c (f_X12_come_54 N p1 p2 n c v3) := by
  intro n
  induction n with
  | zero => intro c v3; exact l1_none
  | succ n ih =>
    intro c v3
    rw [f_X12_come_54]
    refine l1_many mt_X12_come (pc' := 56) (L' := [some (.ref 201), some (.int p1), some (.int p2), some (.int v3)]) (st' := [.ref 201, .int v3]) 2 rfl ?_
    refine l1_getI hQ mt_X12_come rfl (o := 201) (ci := 11) (k := 14) (a := 0) (b := 0) rfl rfl rfl rfl rfl ?_
    refine l1_many mt_X12_come (pc' := bif am_cc .ge v3 (c.1 201 14) then 80 else 62) (L' := [some (.ref 201), some (.int p1), some (.int p2), some (.int v3)]) (st' := []) 1 rfl ?_
    refine l1_bif rfl ?_ ?_
    · refine l1_many mt_X12_come (pc' := 82) (L' := [some (.ref 201), some (.int p1), some (.int p2), some (.int v3)]) (st' := [.ref 201, .ref 201]) 2 rfl ?_
      refine l1_getI hQ mt_X12_come rfl (o := 201) (ci := 11) (k := 2) (a := 0) (b := 0) rfl rfl rfl rfl rfl ?_
      refine l1_many mt_X12_come (pc' := 87) (L' := [some (.ref 201), some (.int p1), some (.int p2), some (.int v3)]) (st' := [.int ((c.1 201 2) - p1), .ref 201]) 2 rfl ?_
      refine l1_putI hQ mt_X12_come rfl (o := 201) (ci := 11) (k := 16) (a := 0) rfl rfl rfl rfl rfl rfl (fun c1 => ?_)
      refine l1_many mt_X12_come (pc' := 92) (L' := [some (.ref 201), some (.int p1), some (.int p2), some (.int v3)]) (st' := [.int p2, .ref 201]) 2 rfl ?_
      refine l1_ck (fun hz => ?_)
      refine l1_putI hQ mt_X12_come rfl (o := 201) (ci := 11) (k := 18) (a := 0) rfl rfl rfl rfl rfl (l1_fz (ci := 11) (j := 18) rfl hz) (fun c2 => ?_)
      refine l1_many mt_X12_come (pc' := 97) (L' := [some (.ref 201), some (.int p1), some (.int p2), some (.int v3)]) (st' := [.ref 201, .ref 201]) 2 rfl ?_
      refine l1_callV hQ mt_X12_come mt_X12_isName rfl rfl (o := 201) (ci := 11) (As := []) (rest := [.ref 201]) rfl rfl rfl rfl rfl rfl (st1 := fun x3 => [.int x3, .ref 201]) (fun _ => rfl) (ok_X12_isName hQ N c2) (fun x3 c4 => ?_)
      refine l1_many mt_X12_come (pc' := bif am_cc .eq x3 0 then 124 else 103) (L' := [some (.ref 201), some (.int p1), some (.int p2), some (.int v3)]) (st' := [.ref 201]) 1 rfl ?_
      refine l1_bif rfl ?_ ?_
      · refine l1_weak (m := [true, true, false, false]) (L' := [some (.ref 201), some (.int p1)]) rfl ?_
        exact ok_X12_come_124 hQ N p1 p2 c4
      · refine l1_many mt_X12_come (pc' := bif am_cc .eq p2 0 then 114 else 107) (L' := [some (.ref 201), some (.int p1), some (.int p2), some (.int v3)]) (st' := [.ref 201]) 2 rfl ?_
        refine l1_bif rfl ?_ ?_
        · refine l1_weak (m := [true, true, false, false]) (L' := [some (.ref 201), some (.int p1)]) rfl ?_
          exact ok_X12_come_114 hQ N p1 p2 c4
        · refine l1_many mt_X12_come (pc' := 108) (L' := [some (.ref 201), some (.int p1), some (.int p2), some (.int v3)]) (st' := [.ref 201, .ref 201]) 1 rfl ?_
          refine l1_getI hQ mt_X12_come rfl (o := 201) (ci := 11) (k := 16) (a := 0) (b := 0) rfl rfl rfl rfl rfl ?_
          refine l1_many mt_X12_come (pc' := bif am_cc .gt (c4.1 201 16) 0 then 124 else 114) (L' := [some (.ref 201), some (.int p1), some (.int p2), some (.int v3)]) (st' := [.ref 201]) 1 rfl ?_
          refine l1_bif rfl ?_ ?_
          · refine l1_weak (m := [true, true, false, false]) (L' := [some (.ref 201), some (.int p1)]) rfl ?_
            exact ok_X12_come_124 hQ N p1 p2 c4
          · refine l1_weak (m := [true, true, false, false]) (L' := [some (.ref 201), some (.int p1)]) rfl ?_
            exact ok_X12_come_114 hQ N p1 p2 c4
    · refine l1_many mt_X12_come (pc' := 63) (L' := [some (.ref 201), some (.int p1), some (.int p2), some (.int v3)]) (st' := [.ref 201]) 1 rfl ?_
      refine l1_getR hQ mt_X12_come rfl (o := 201) (ci := 11) (k := 15) (a := 0) (b := 0) rfl rfl rfl rfl rfl (q := 209) rfl ?_
      refine l1_many mt_X12_come (pc' := 68) (L' := [some (.ref 201), some (.int p1), some (.int p2), some (.int v3)]) (st' := [.ref 201, .int v3, .ref 209]) 2 rfl ?_
      refine l1_getR hQ mt_X12_come rfl (o := 201) (ci := 11) (k := 1) (a := 0) (b := 0) rfl rfl rfl rfl rfl (q := 202) rfl ?_
      refine l1_many mt_X12_come (pc' := 72) (L' := [some (.ref 201), some (.int p1), some (.int p2), some (.int v3)]) (st' := [.int v3, .ref 202, .int v3, .ref 209]) 1 rfl ?_
      refine l1_ck (fun hx => ?_)
      refine l1_ald hQ mt_X12_come rfl (o := 202) rfl hx ?_
      refine l1_ck (fun hx => ?_)
      refine l1_ast hQ mt_X12_come rfl (o := 209) rfl hx (fun c5 => ?_)
      refine l1_many mt_X12_come (pc' := 54) (L' := [some (.ref 201), some (.int p1), some (.int p2), some (.int (v3 + 1))]) (st' := []) 2 rfl ?_
      exact ih c5 (v3 + 1)
set_option maxRecDepth 100000 in
theorem ok_X12_come_25 {Q : hS → am_H → Prop} (hQ : l1_em km Q) (N : Nat) (p1 : Int32) (p2 : Int32) : ∀ (c : hS) (w0 : Int32), l1_G (wN wI) Q am_i_X12_come 25 [some (.ref 201), some (.int p1), some (.int p2)] [.int w0, .ref 201] c (f_X12_come_25 N p1 p2 c w0) := by
  intro c w0
  rw [f_X12_come_25]
  refine l1_many mt_X12_come (pc' := 26) (L' := [some (.ref 201), some (.int p1), some (.int p2)]) (st' := [.int 1, .int w0, .ref 201]) 1 rfl ?_
  refine l1_callV hQ mt_X12_come mt_X12_refuses rfl rfl (o := 201) (ci := 11) (As := [.int w0, .int 1]) (rest := []) rfl rfl rfl rfl rfl rfl (st1 := fun x1 => [.int x1]) (fun _ => rfl) (ok_X12_refuses hQ c w0 1) (fun x1 c2 => ?_)
  refine l1_many mt_X12_come (pc' := bif am_cc .eq x1 0 then 34 else 32) (L' := [some (.ref 201), some (.int p1), some (.int p2)]) (st' := []) 1 rfl ?_
  refine l1_bif rfl ?_ ?_
  · refine l1_many mt_X12_come (pc' := bif am_cc .ge p1 300 then 46 else 42) (L' := [some (.ref 201), some (.int p1), some (.int p2)]) (st' := [.ref 201]) 4 rfl ?_
    refine l1_bif rfl ?_ ?_
    · refine l1_many mt_X12_come (pc' := 49) (L' := [some (.ref 201), some (.int p1), some (.int p2)]) (st' := [.int 299, .ref 201]) 1 rfl ?_
      refine l1_putI hQ mt_X12_come rfl (o := 201) (ci := 11) (k := 14) (a := 0) rfl rfl rfl rfl rfl rfl (fun c3 => ?_)
      refine l1_many mt_X12_come (pc' := 54) (L' := [some (.ref 201), some (.int p1), some (.int p2), some (.int 0)]) (st' := []) 2 rfl ?_
      exact ok_X12_come_54 hQ N p1 p2 N c3 0
    · refine l1_many mt_X12_come (pc' := 49) (L' := [some (.ref 201), some (.int p1), some (.int p2)]) (st' := [.int p1, .ref 201]) 2 rfl ?_
      refine l1_putI hQ mt_X12_come rfl (o := 201) (ci := 11) (k := 14) (a := 0) rfl rfl rfl rfl rfl rfl (fun c4 => ?_)
      refine l1_many mt_X12_come (pc' := 54) (L' := [some (.ref 201), some (.int p1), some (.int p2), some (.int 0)]) (st' := []) 2 rfl ?_
      exact ok_X12_come_54 hQ N p1 p2 N c4 0
  · refine l1_many mt_X12_come (pc' := 33) (L' := [some (.ref 201), some (.int p1), some (.int p2)]) (st' := [.int 0]) 1 rfl ?_
    exact l1_ret mt_X12_come rfl rfl rfl
set_option maxRecDepth 100000 in
theorem en_X12_come {Q : hS → am_H → Prop} (hQ : l1_em km Q) (N : Nat) (c : hS) (p1 : Int32) (p2 : Int32) : l1_G (wN wI) Q am_i_X12_come 0 [some (.ref 201), some (.int p1), some (.int p2)] [] c (f_X12_come N c p1 p2) := by
  rw [f_X12_come]
  refine l1_many mt_X12_come (pc' := 2) (L' := [some (.ref 201), some (.int p1), some (.int p2)]) (st' := [.int 0, .ref 201]) 2 rfl ?_
  refine l1_putI hQ mt_X12_come rfl (o := 201) (ci := 11) (k := 0) (a := 0) rfl rfl rfl rfl rfl rfl (fun c1 => ?_)
  refine l1_many mt_X12_come (pc' := 10) (L' := [some (.ref 201), some (.int p1), some (.int p2)]) (st' := [.ref 201, .long 0, .long p1.toInt64, .ref 201]) 5 rfl ?_
  refine l1_getI hQ mt_X12_come rfl (o := 201) (ci := 11) (k := 2) (a := 0) (b := 0) rfl rfl rfl rfl rfl ?_
  refine l1_many mt_X12_come (pc' := 14) (L' := [some (.ref 201), some (.int p1), some (.int p2)]) (st' := [.long ((c1.1 201 2).toInt64), .long 0, .long p1.toInt64, .ref 201]) 1 rfl ?_
  refine l1_callS mt_X12_come mt_X12_in rfl rfl (As := [.long p1.toInt64, .long 0, .long ((c1.1 201 2).toInt64)]) (rest := [.ref 201]) rfl rfl rfl (st1 := fun x2 => [.int x2, .ref 201]) (fun _ => rfl) (ok_X12_in hQ c1 p1.toInt64 0 ((c1.1 201 2).toInt64)) (fun x2 c3 => ?_)
  refine l1_many mt_X12_come (pc' := bif am_cc .ne x2 0 then 24 else 20) (L' := [some (.ref 201), some (.int p1), some (.int p2)]) (st' := [.ref 201]) 1 rfl ?_
  refine l1_bin rfl ?_ ?_
  · refine l1_many mt_X12_come (pc' := 25) (L' := [some (.ref 201), some (.int p1), some (.int p2)]) (st' := [.int 1, .ref 201]) 2 rfl ?_
    exact ok_X12_come_25 hQ N p1 p2 c3 1
  · refine l1_many mt_X12_come (pc' := 25) (L' := [some (.ref 201), some (.int p1), some (.int p2)]) (st' := [.int 0, .ref 201]) 1 rfl ?_
    exact ok_X12_come_25 hQ N p1 p2 c3 0
theorem ok_X12_come {Q : hS → am_H → Prop} (hQ : l1_em km Q) (N : Nat) (c : hS) (p1 : Int32) (p2 : Int32) : l1_T wI Q am_i_X12_come [.ref 201, .int p1, .int p2] c (f_X12_come N c p1 p2) := l1_of (en_X12_come hQ N c p1 p2) ⟨rfl, rfl, rfl, trivial⟩
set_option maxRecDepth 100000 in
theorem ok_X12_go_48 {Q : hS → am_H → Prop} (hQ : l1_em km Q) (N : Nat) (p1 : Int32) : ∀ n : Nat, ∀ (c : hS) (v2 : Int32), l1_G (wN wI) Q am_i_X12_go 48 [some (.ref 201), none, some (.int v2)] [] c (f_X12_go_48 N p1 n c v2) := by
  intro n
  induction n with
  | zero => intro c v2; exact l1_none
  | succ n ih =>
    intro c v2
    rw [f_X12_go_48]
    refine l1_many mt_X12_go (pc' := 50) (L' := [some (.ref 201), none, some (.int v2)]) (st' := [.ref 201, .int v2]) 2 rfl ?_
    refine l1_getI hQ mt_X12_go rfl (o := 201) (ci := 11) (k := 7) (a := 0) (b := 0) rfl rfl rfl rfl rfl ?_
    refine l1_many mt_X12_go (pc' := bif am_cc .ge v2 (c.1 201 7) then 70 else 56) (L' := [some (.ref 201), none, some (.int v2)]) (st' := []) 1 rfl ?_
    refine l1_bif rfl ?_ ?_
    · refine l1_many mt_X12_go (pc' := 71) (L' := [some (.ref 201), none, some (.int v2)]) (st' := [.ref 201]) 1 rfl ?_
      refine l1_getI hQ mt_X12_go rfl (o := 201) (ci := 11) (k := 7) (a := 0) (b := 0) rfl rfl rfl rfl rfl ?_
      exact l1_ret mt_X12_go rfl rfl rfl
    · refine l1_many mt_X12_go (pc' := 61) (L' := [some (.ref 201), none, some (.int v2)]) (st' := [.int v2, .int (v2 + 1), .ref 201]) 5 rfl ?_
      refine l1_callV hQ mt_X12_go mt_X12_move rfl rfl (o := 201) (ci := 11) (As := [.int (v2 + 1), .int v2]) (rest := []) rfl rfl rfl rfl rfl rfl (st1 := fun _ => []) (fun _ => rfl) (ok_X12_move hQ N c (v2 + 1) v2) (fun _ c1 => ?_)
      refine l1_many mt_X12_go (pc' := 48) (L' := [some (.ref 201), none, some (.int (v2 + 1))]) (st' := []) 2 rfl ?_
      exact ih c1 (v2 + 1)
set_option maxRecDepth 100000 in
theorem ok_X12_go_27 {Q : hS → am_H → Prop} (hQ : l1_em km Q) (N : Nat) (p1 : Int32) : ∀ (c : hS) (w0 : Int32), l1_G (wN wI) Q am_i_X12_go 27 [some (.ref 201), some (.int p1)] [.int w0, .ref 201] c (f_X12_go_27 N p1 c w0) := by
  intro c w0
  rw [f_X12_go_27]
  refine l1_many mt_X12_go (pc' := 28) (L' := [some (.ref 201), some (.int p1)]) (st' := [.int 1, .int w0, .ref 201]) 1 rfl ?_
  refine l1_callV hQ mt_X12_go mt_X12_refuses rfl rfl (o := 201) (ci := 11) (As := [.int w0, .int 1]) (rest := []) rfl rfl rfl rfl rfl rfl (st1 := fun x1 => [.int x1]) (fun _ => rfl) (ok_X12_refuses hQ c w0 1) (fun x1 c2 => ?_)
  refine l1_many mt_X12_go (pc' := bif am_cc .eq x1 0 then 36 else 34) (L' := [some (.ref 201), some (.int p1)]) (st' := []) 1 rfl ?_
  refine l1_bif rfl ?_ ?_
  · refine l1_many mt_X12_go (pc' := 38) (L' := [some (.ref 201), some (.int p1)]) (st' := [.ref 201, .ref 201]) 2 rfl ?_
    refine l1_getI hQ mt_X12_go rfl (o := 201) (ci := 11) (k := 7) (a := 0) (b := 0) rfl rfl rfl rfl rfl ?_
    refine l1_many mt_X12_go (pc' := 43) (L' := [some (.ref 201), some (.int p1)]) (st' := [.int ((c2.1 201 7) - 1), .ref 201]) 2 rfl ?_
    refine l1_putI hQ mt_X12_go rfl (o := 201) (ci := 11) (k := 7) (a := 0) rfl rfl rfl rfl rfl rfl (fun c3 => ?_)
    refine l1_many mt_X12_go (pc' := 48) (L' := [some (.ref 201), some (.int p1), some (.int p1)]) (st' := []) 2 rfl ?_
    refine l1_weak (m := [true, false, true]) (L' := [some (.ref 201), none, some (.int p1)]) rfl ?_
    exact ok_X12_go_48 hQ N p1 N c3 p1
  · refine l1_many mt_X12_go (pc' := 35) (L' := [some (.ref 201), some (.int p1)]) (st' := [.int 0]) 1 rfl ?_
    exact l1_ret mt_X12_go rfl rfl rfl
set_option maxRecDepth 100000 in
theorem en_X12_go {Q : hS → am_H → Prop} (hQ : l1_em km Q) (N : Nat) (c : hS) (p1 : Int32) : l1_G (wN wI) Q am_i_X12_go 0 [some (.ref 201), some (.int p1)] [] c (f_X12_go N c p1) := by
  rw [f_X12_go]
  refine l1_many mt_X12_go (pc' := 2) (L' := [some (.ref 201), some (.int p1)]) (st' := [.int 0, .ref 201]) 2 rfl ?_
  refine l1_putI hQ mt_X12_go rfl (o := 201) (ci := 11) (k := 0) (a := 0) rfl rfl rfl rfl rfl rfl (fun c1 => ?_)
  refine l1_many mt_X12_go (pc' := 10) (L' := [some (.ref 201), some (.int p1)]) (st' := [.ref 201, .long 0, .long p1.toInt64, .ref 201]) 5 rfl ?_
  refine l1_getI hQ mt_X12_go rfl (o := 201) (ci := 11) (k := 7) (a := 0) (b := 0) rfl rfl rfl rfl rfl ?_
  refine l1_many mt_X12_go (pc' := 16) (L' := [some (.ref 201), some (.int p1)]) (st' := [.long (((c1.1 201 7) - 1).toInt64), .long 0, .long p1.toInt64, .ref 201]) 3 rfl ?_
  refine l1_callS mt_X12_go mt_X12_in rfl rfl (As := [.long p1.toInt64, .long 0, .long (((c1.1 201 7) - 1).toInt64)]) (rest := [.ref 201]) rfl rfl rfl (st1 := fun x2 => [.int x2, .ref 201]) (fun _ => rfl) (ok_X12_in hQ c1 p1.toInt64 0 (((c1.1 201 7) - 1).toInt64)) (fun x2 c3 => ?_)
  refine l1_many mt_X12_go (pc' := bif am_cc .ne x2 0 then 26 else 22) (L' := [some (.ref 201), some (.int p1)]) (st' := [.ref 201]) 1 rfl ?_
  refine l1_bin rfl ?_ ?_
  · refine l1_many mt_X12_go (pc' := 27) (L' := [some (.ref 201), some (.int p1)]) (st' := [.int 1, .ref 201]) 2 rfl ?_
    exact ok_X12_go_27 hQ N p1 c3 1
  · refine l1_many mt_X12_go (pc' := 27) (L' := [some (.ref 201), some (.int p1)]) (st' := [.int 0, .ref 201]) 1 rfl ?_
    exact ok_X12_go_27 hQ N p1 c3 0
theorem ok_X12_go {Q : hS → am_H → Prop} (hQ : l1_em km Q) (N : Nat) (c : hS) (p1 : Int32) : l1_T wI Q am_i_X12_go [.ref 201, .int p1] c (f_X12_go N c p1) := l1_of (en_X12_go hQ N c p1) ⟨rfl, rfl, trivial⟩
set_option maxRecDepth 100000 in
theorem ok_X12_name_47 {Q : hS → am_H → Prop} (hQ : l1_em km Q) (p1 : Int32) (p2 : Int32) : ∀ (c : hS) (w0 : Int32), l1_G (wN wI) Q am_i_X12_name 47 [some (.ref 201), some (.int p1), some (.int p2)] [.int w0, .ref 201] c (f_X12_name_47 p1 p2 c w0) := by
  intro c w0
  rw [f_X12_name_47]
  refine l1_many mt_X12_name (pc' := 48) (L' := [some (.ref 201), some (.int p1), some (.int p2)]) (st' := [.int 1, .int w0, .ref 201]) 1 rfl ?_
  refine l1_callV hQ mt_X12_name mt_X12_refuses rfl rfl (o := 201) (ci := 11) (As := [.int w0, .int 1]) (rest := []) rfl rfl rfl rfl rfl rfl (st1 := fun x1 => [.int x1]) (fun _ => rfl) (ok_X12_refuses hQ c w0 1) (fun x1 c2 => ?_)
  refine l1_many mt_X12_name (pc' := bif am_cc .eq x1 0 then 56 else 54) (L' := [some (.ref 201), some (.int p1), some (.int p2)]) (st' := []) 1 rfl ?_
  refine l1_bif rfl ?_ ?_
  · refine l1_many mt_X12_name (pc' := bif am_cc .ne p2 (-1) then 70 else 61) (L' := [some (.ref 201), some (.int p1), some (.int p2)]) (st' := []) 3 rfl ?_
    refine l1_bin rfl ?_ ?_
    · refine l1_many mt_X12_name (pc' := 62) (L' := [some (.ref 201), some (.int p1), some (.int p2)]) (st' := [.ref 201]) 1 rfl ?_
      refine l1_getR hQ mt_X12_name rfl (o := 201) (ci := 11) (k := 9) (a := 0) (b := 0) rfl rfl rfl rfl rfl (q := 204) rfl ?_
      refine l1_many mt_X12_name (pc' := 66) (L' := [some (.ref 201), some (.int p1), some (.int p2)]) (st' := [.int p1, .ref 204]) 1 rfl ?_
      refine l1_ck (fun hx => ?_)
      refine l1_ald hQ mt_X12_name rfl (o := 204) rfl hx ?_
      refine l1_many mt_X12_name (pc' := 114) (L' := [some (.ref 201), some (.int p1), some (.int p2)]) (st' := [.int (c2.1 204 p1.toNatClampNeg)]) 1 rfl ?_
      exact l1_ret mt_X12_name rfl rfl rfl
    · refine l1_many mt_X12_name (pc' := bif am_cc .ne p2 (-2) then 85 else 76) (L' := [some (.ref 201), some (.int p1), some (.int p2)]) (st' := []) 3 rfl ?_
      refine l1_bin rfl ?_ ?_
      · refine l1_many mt_X12_name (pc' := 77) (L' := [some (.ref 201), some (.int p1), some (.int p2)]) (st' := [.ref 201]) 1 rfl ?_
        refine l1_getR hQ mt_X12_name rfl (o := 201) (ci := 11) (k := 11) (a := 0) (b := 0) rfl rfl rfl rfl rfl (q := 206) rfl ?_
        refine l1_many mt_X12_name (pc' := 81) (L' := [some (.ref 201), some (.int p1), some (.int p2)]) (st' := [.int p1, .ref 206]) 1 rfl ?_
        refine l1_ck (fun hx => ?_)
        refine l1_ald hQ mt_X12_name rfl (o := 206) rfl hx ?_
        refine l1_many mt_X12_name (pc' := 114) (L' := [some (.ref 201), some (.int p1), some (.int p2)]) (st' := [.int (c2.1 206 p1.toNatClampNeg)]) 1 rfl ?_
        exact l1_ret mt_X12_name rfl rfl rfl
      · refine l1_many mt_X12_name (pc' := bif am_cc .ne p2 (-3) then 108 else 91) (L' := [some (.ref 201), some (.int p1), some (.int p2)]) (st' := []) 3 rfl ?_
        refine l1_bin rfl ?_ ?_
        · refine l1_many mt_X12_name (pc' := 92) (L' := [some (.ref 201), some (.int p1), some (.int p2)]) (st' := [.ref 201]) 1 rfl ?_
          refine l1_getR hQ mt_X12_name rfl (o := 201) (ci := 11) (k := 13) (a := 0) (b := 0) rfl rfl rfl rfl rfl (q := 208) rfl ?_
          refine l1_many mt_X12_name (pc' := 96) (L' := [some (.ref 201), some (.int p1), some (.int p2)]) (st' := [.int p1, .ref 208]) 1 rfl ?_
          refine l1_ck (fun hx => ?_)
          refine l1_bld hQ mt_X12_name rfl (o := 208) rfl hx ?_
          refine l1_many mt_X12_name (pc' := bif am_cc .eq (c2.1 208 p1.toNatClampNeg) 0 then 104 else 100) (L' := [some (.ref 201), some (.int p1), some (.int p2)]) (st' := []) 1 rfl ?_
          refine l1_bif rfl ?_ ?_
          · refine l1_many mt_X12_name (pc' := 114) (L' := [some (.ref 201), some (.int p1), some (.int p2)]) (st' := [.int 0]) 2 rfl ?_
            exact l1_ret mt_X12_name rfl rfl rfl
          · refine l1_many mt_X12_name (pc' := 114) (L' := [some (.ref 201), some (.int p1), some (.int p2)]) (st' := [.int 1]) 2 rfl ?_
            exact l1_ret mt_X12_name rfl rfl rfl
        · refine l1_many mt_X12_name (pc' := 111) (L' := [some (.ref 201), some (.int p1), some (.int p2)]) (st' := [.int p2, .int p1, .ref 201]) 3 rfl ?_
          refine l1_callV hQ mt_X12_name mt_X12_nameAt rfl rfl (o := 201) (ci := 11) (As := [.int p1, .int p2]) (rest := []) rfl rfl rfl rfl rfl rfl (st1 := fun x3 => [.int x3]) (fun _ => rfl) (ok_X12_nameAt hQ c2 p1 p2) (fun x3 c4 => ?_)
          exact l1_ret mt_X12_name rfl rfl rfl
  · refine l1_many mt_X12_name (pc' := 55) (L' := [some (.ref 201), some (.int p1), some (.int p2)]) (st' := [.int 0]) 1 rfl ?_
    exact l1_ret mt_X12_name rfl rfl rfl
set_option maxRecDepth 100000 in
theorem ok_X12_name_42 {Q : hS → am_H → Prop} (hQ : l1_em km Q) (p1 : Int32) (p2 : Int32) : ∀ (c : hS), l1_G (wN wI) Q am_i_X12_name 42 [some (.ref 201), some (.int p1), some (.int p2)] [.ref 201] c (f_X12_name_42 p1 p2 c) := by
  intro c
  rw [f_X12_name_42]
  refine l1_many mt_X12_name (pc' := 47) (L' := [some (.ref 201), some (.int p1), some (.int p2)]) (st' := [.int 1, .ref 201]) 2 rfl ?_
  exact ok_X12_name_47 hQ p1 p2 c 1
set_option maxRecDepth 100000 in
theorem en_X12_name {Q : hS → am_H → Prop} (hQ : l1_em km Q) (c : hS) (p1 : Int32) (p2 : Int32) : l1_G (wN wI) Q am_i_X12_name 0 [some (.ref 201), some (.int p1), some (.int p2)] [] c (f_X12_name c p1 p2) := by
  rw [f_X12_name]
  refine l1_many mt_X12_name (pc' := 2) (L' := [some (.ref 201), some (.int p1), some (.int p2)]) (st' := [.int 0, .ref 201]) 2 rfl ?_
  refine l1_putI hQ mt_X12_name rfl (o := 201) (ci := 11) (k := 0) (a := 0) rfl rfl rfl rfl rfl rfl (fun c1 => ?_)
  refine l1_many mt_X12_name (pc' := 10) (L' := [some (.ref 201), some (.int p1), some (.int p2)]) (st' := [.ref 201, .long 0, .long p1.toInt64, .ref 201]) 5 rfl ?_
  refine l1_getI hQ mt_X12_name rfl (o := 201) (ci := 11) (k := 7) (a := 0) (b := 0) rfl rfl rfl rfl rfl ?_
  refine l1_many mt_X12_name (pc' := 16) (L' := [some (.ref 201), some (.int p1), some (.int p2)]) (st' := [.long (((c1.1 201 7) - 1).toInt64), .long 0, .long p1.toInt64, .ref 201]) 3 rfl ?_
  refine l1_callS mt_X12_name mt_X12_in rfl rfl (As := [.long p1.toInt64, .long 0, .long (((c1.1 201 7) - 1).toInt64)]) (rest := [.ref 201]) rfl rfl rfl (st1 := fun x2 => [.int x2, .ref 201]) (fun _ => rfl) (ok_X12_in hQ c1 p1.toInt64 0 (((c1.1 201 7) - 1).toInt64)) (fun x2 c3 => ?_)
  refine l1_many mt_X12_name (pc' := bif am_cc .eq x2 0 then 42 else 22) (L' := [some (.ref 201), some (.int p1), some (.int p2)]) (st' := [.ref 201]) 1 rfl ?_
  refine l1_bif rfl ?_ ?_
  · exact ok_X12_name_42 hQ p1 p2 c3
  · refine l1_many mt_X12_name (pc' := 28) (L' := [some (.ref 201), some (.int p1), some (.int p2)]) (st' := [.ref 201, .long (-3), .long p2.toInt64, .ref 201]) 4 rfl ?_
    refine l1_getR hQ mt_X12_name rfl (o := 201) (ci := 11) (k := 9) (a := 0) (b := 0) rfl rfl rfl rfl rfl (q := 204) rfl ?_
    refine l1_many mt_X12_name (pc' := 32) (L' := [some (.ref 201), some (.int p1), some (.int p2)]) (st' := [.int p1, .ref 204, .long (-3), .long p2.toInt64, .ref 201]) 1 rfl ?_
    refine l1_ck (fun hx => ?_)
    refine l1_ald hQ mt_X12_name rfl (o := 204) rfl hx ?_
    refine l1_many mt_X12_name (pc' := 36) (L' := [some (.ref 201), some (.int p1), some (.int p2)]) (st' := [.long (((c3.1 204 p1.toNatClampNeg) - 1).toInt64), .long (-3), .long p2.toInt64, .ref 201]) 3 rfl ?_
    refine l1_callS mt_X12_name mt_X12_in rfl rfl (As := [.long p2.toInt64, .long (-3), .long (((c3.1 204 p1.toNatClampNeg) - 1).toInt64)]) (rest := [.ref 201]) rfl rfl rfl (st1 := fun x4 => [.int x4, .ref 201]) (fun _ => rfl) (ok_X12_in hQ c3 p2.toInt64 (-3) (((c3.1 204 p1.toNatClampNeg) - 1).toInt64)) (fun x4 c5 => ?_)
    refine l1_many mt_X12_name (pc' := bif am_cc .ne x4 0 then 46 else 42) (L' := [some (.ref 201), some (.int p1), some (.int p2)]) (st' := [.ref 201]) 1 rfl ?_
    refine l1_bin rfl ?_ ?_
    · exact ok_X12_name_42 hQ p1 p2 c5
    · refine l1_many mt_X12_name (pc' := 47) (L' := [some (.ref 201), some (.int p1), some (.int p2)]) (st' := [.int 0, .ref 201]) 1 rfl ?_
      exact ok_X12_name_47 hQ p1 p2 c5 0
theorem ok_X12_name {Q : hS → am_H → Prop} (hQ : l1_em km Q) (c : hS) (p1 : Int32) (p2 : Int32) : l1_T wI Q am_i_X12_name [.ref 201, .int p1, .int p2] c (f_X12_name c p1 p2) := l1_of (en_X12_name hQ c p1 p2) ⟨rfl, rfl, rfl, trivial⟩
set_option maxRecDepth 100000 in
theorem ok_X12_byteAt_45 {Q : hS → am_H → Prop} (hQ : l1_em km Q) (p1 : Int32) (p2 : Int32) : ∀ (c : hS) (w0 : Int32), l1_G (wN wI) Q am_i_X12_byteAt 45 [some (.ref 201), some (.int p1), some (.int p2)] [.int w0, .ref 201] c (f_X12_byteAt_45 p1 p2 c w0) := by
  intro c w0
  rw [f_X12_byteAt_45]
  refine l1_many mt_X12_byteAt (pc' := 46) (L' := [some (.ref 201), some (.int p1), some (.int p2)]) (st' := [.int 1, .int w0, .ref 201]) 1 rfl ?_
  refine l1_callV hQ mt_X12_byteAt mt_X12_refuses rfl rfl (o := 201) (ci := 11) (As := [.int w0, .int 1]) (rest := []) rfl rfl rfl rfl rfl rfl (st1 := fun x1 => [.int x1]) (fun _ => rfl) (ok_X12_refuses hQ c w0 1) (fun x1 c2 => ?_)
  refine l1_many mt_X12_byteAt (pc' := bif am_cc .eq x1 0 then 56 else 52) (L' := [some (.ref 201), some (.int p1), some (.int p2)]) (st' := []) 1 rfl ?_
  refine l1_bif rfl ?_ ?_
  · refine l1_many mt_X12_byteAt (pc' := 57) (L' := [some (.ref 201), some (.int p1), some (.int p2)]) (st' := [.ref 201]) 1 rfl ?_
    refine l1_getR hQ mt_X12_byteAt rfl (o := 201) (ci := 11) (k := 12) (a := 0) (b := 0) rfl rfl rfl rfl rfl (q := 207) rfl ?_
    refine l1_many mt_X12_byteAt (pc' := 67) (L' := [some (.ref 201), some (.int p1), some (.int p2)]) (st' := [.int ((400 * p1) + p2), .ref 207]) 5 rfl ?_
    refine l1_ck (fun hx => ?_)
    refine l1_ald hQ mt_X12_byteAt rfl (o := 207) rfl hx ?_
    exact l1_ret mt_X12_byteAt rfl rfl rfl
  · refine l1_many mt_X12_byteAt (pc' := 68) (L' := [some (.ref 201), some (.int p1), some (.int p2)]) (st' := [.int 0]) 2 rfl ?_
    exact l1_ret mt_X12_byteAt rfl rfl rfl
set_option maxRecDepth 100000 in
theorem ok_X12_byteAt_40 {Q : hS → am_H → Prop} (hQ : l1_em km Q) (p1 : Int32) (p2 : Int32) : ∀ (c : hS), l1_G (wN wI) Q am_i_X12_byteAt 40 [some (.ref 201), some (.int p1), some (.int p2)] [.ref 201] c (f_X12_byteAt_40 p1 p2 c) := by
  intro c
  rw [f_X12_byteAt_40]
  refine l1_many mt_X12_byteAt (pc' := 45) (L' := [some (.ref 201), some (.int p1), some (.int p2)]) (st' := [.int 1, .ref 201]) 2 rfl ?_
  exact ok_X12_byteAt_45 hQ p1 p2 c 1
set_option maxRecDepth 100000 in
theorem en_X12_byteAt {Q : hS → am_H → Prop} (hQ : l1_em km Q) (c : hS) (p1 : Int32) (p2 : Int32) : l1_G (wN wI) Q am_i_X12_byteAt 0 [some (.ref 201), some (.int p1), some (.int p2)] [] c (f_X12_byteAt c p1 p2) := by
  rw [f_X12_byteAt]
  refine l1_many mt_X12_byteAt (pc' := 2) (L' := [some (.ref 201), some (.int p1), some (.int p2)]) (st' := [.int 0, .ref 201]) 2 rfl ?_
  refine l1_putI hQ mt_X12_byteAt rfl (o := 201) (ci := 11) (k := 0) (a := 0) rfl rfl rfl rfl rfl rfl (fun c1 => ?_)
  refine l1_many mt_X12_byteAt (pc' := 10) (L' := [some (.ref 201), some (.int p1), some (.int p2)]) (st' := [.ref 201, .long 0, .long p1.toInt64, .ref 201]) 5 rfl ?_
  refine l1_getI hQ mt_X12_byteAt rfl (o := 201) (ci := 11) (k := 7) (a := 0) (b := 0) rfl rfl rfl rfl rfl ?_
  refine l1_many mt_X12_byteAt (pc' := 16) (L' := [some (.ref 201), some (.int p1), some (.int p2)]) (st' := [.long (((c1.1 201 7) - 1).toInt64), .long 0, .long p1.toInt64, .ref 201]) 3 rfl ?_
  refine l1_callS mt_X12_byteAt mt_X12_in rfl rfl (As := [.long p1.toInt64, .long 0, .long (((c1.1 201 7) - 1).toInt64)]) (rest := [.ref 201]) rfl rfl rfl (st1 := fun x2 => [.int x2, .ref 201]) (fun _ => rfl) (ok_X12_in hQ c1 p1.toInt64 0 (((c1.1 201 7) - 1).toInt64)) (fun x2 c3 => ?_)
  refine l1_many mt_X12_byteAt (pc' := bif am_cc .eq x2 0 then 40 else 22) (L' := [some (.ref 201), some (.int p1), some (.int p2)]) (st' := [.ref 201]) 1 rfl ?_
  refine l1_bif rfl ?_ ?_
  · exact ok_X12_byteAt_40 hQ p1 p2 c3
  · refine l1_many mt_X12_byteAt (pc' := 26) (L' := [some (.ref 201), some (.int p1), some (.int p2)]) (st' := [.ref 201, .long 0, .long p2.toInt64, .ref 201]) 4 rfl ?_
    refine l1_getR hQ mt_X12_byteAt rfl (o := 201) (ci := 11) (k := 11) (a := 0) (b := 0) rfl rfl rfl rfl rfl (q := 206) rfl ?_
    refine l1_many mt_X12_byteAt (pc' := 30) (L' := [some (.ref 201), some (.int p1), some (.int p2)]) (st' := [.int p1, .ref 206, .long 0, .long p2.toInt64, .ref 201]) 1 rfl ?_
    refine l1_ck (fun hx => ?_)
    refine l1_ald hQ mt_X12_byteAt rfl (o := 206) rfl hx ?_
    refine l1_many mt_X12_byteAt (pc' := 34) (L' := [some (.ref 201), some (.int p1), some (.int p2)]) (st' := [.long (((c3.1 206 p1.toNatClampNeg) - 1).toInt64), .long 0, .long p2.toInt64, .ref 201]) 3 rfl ?_
    refine l1_callS mt_X12_byteAt mt_X12_in rfl rfl (As := [.long p2.toInt64, .long 0, .long (((c3.1 206 p1.toNatClampNeg) - 1).toInt64)]) (rest := [.ref 201]) rfl rfl rfl (st1 := fun x4 => [.int x4, .ref 201]) (fun _ => rfl) (ok_X12_in hQ c3 p2.toInt64 0 (((c3.1 206 p1.toNatClampNeg) - 1).toInt64)) (fun x4 c5 => ?_)
    refine l1_many mt_X12_byteAt (pc' := bif am_cc .ne x4 0 then 44 else 40) (L' := [some (.ref 201), some (.int p1), some (.int p2)]) (st' := [.ref 201]) 1 rfl ?_
    refine l1_bin rfl ?_ ?_
    · exact ok_X12_byteAt_40 hQ p1 p2 c5
    · refine l1_many mt_X12_byteAt (pc' := 45) (L' := [some (.ref 201), some (.int p1), some (.int p2)]) (st' := [.int 0, .ref 201]) 1 rfl ?_
      exact ok_X12_byteAt_45 hQ p1 p2 c5 0
theorem ok_X12_byteAt {Q : hS → am_H → Prop} (hQ : l1_em km Q) (c : hS) (p1 : Int32) (p2 : Int32) : l1_T wI Q am_i_X12_byteAt [.ref 201, .int p1, .int p2] c (f_X12_byteAt c p1 p2) := l1_of (en_X12_byteAt hQ c p1 p2) ⟨rfl, rfl, rfl, trivial⟩
set_option maxRecDepth 100000 in
theorem ok_X12_takePath_26 {Q : hS → am_H → Prop} (hQ : l1_em km Q) (N : Nat) : ∀ n : Nat, ∀ (c : hS) (v1 : Int32), l1_G (wN wV) Q am_i_X12_takePath 26 [some (.ref 201), some (.int v1)] [] c (f_X12_takePath_26 N n c v1) := by
  intro n
  induction n with
  | zero => intro c v1; exact l1_none
  | succ n ih =>
    intro c v1
    rw [f_X12_takePath_26]
    refine l1_many mt_X12_takePath (pc' := 28) (L' := [some (.ref 201), some (.int v1)]) (st' := [.ref 201, .int v1]) 2 rfl ?_
    refine l1_getI hQ mt_X12_takePath rfl (o := 201) (ci := 11) (k := 14) (a := 0) (b := 0) rfl rfl rfl rfl rfl ?_
    refine l1_many mt_X12_takePath (pc' := bif am_cc .ge v1 (c.1 201 14) then 52 else 34) (L' := [some (.ref 201), some (.int v1)]) (st' := []) 1 rfl ?_
    refine l1_bif rfl ?_ ?_
    · exact l1_ret mt_X12_takePath rfl rfl rfl
    · refine l1_many mt_X12_takePath (pc' := 35) (L' := [some (.ref 201), some (.int v1)]) (st' := [.ref 201]) 1 rfl ?_
      refine l1_getR hQ mt_X12_takePath rfl (o := 201) (ci := 11) (k := 15) (a := 0) (b := 0) rfl rfl rfl rfl rfl (q := 209) rfl ?_
      refine l1_many mt_X12_takePath (pc' := 40) (L' := [some (.ref 201), some (.int v1)]) (st' := [.ref 201, .int v1, .ref 209]) 2 rfl ?_
      refine l1_getR hQ mt_X12_takePath rfl (o := 201) (ci := 11) (k := 1) (a := 0) (b := 0) rfl rfl rfl rfl rfl (q := 202) rfl ?_
      refine l1_many mt_X12_takePath (pc' := 44) (L' := [some (.ref 201), some (.int v1)]) (st' := [.int v1, .ref 202, .int v1, .ref 209]) 1 rfl ?_
      refine l1_ck (fun hx => ?_)
      refine l1_ald hQ mt_X12_takePath rfl (o := 202) rfl hx ?_
      refine l1_ck (fun hx => ?_)
      refine l1_ast hQ mt_X12_takePath rfl (o := 209) rfl hx (fun c1 => ?_)
      refine l1_many mt_X12_takePath (pc' := 26) (L' := [some (.ref 201), some (.int (v1 + 1))]) (st' := []) 2 rfl ?_
      exact ih c1 (v1 + 1)
set_option maxRecDepth 100000 in
theorem en_X12_takePath {Q : hS → am_H → Prop} (hQ : l1_em km Q) (N : Nat) (c : hS) : l1_G (wN wV) Q am_i_X12_takePath 0 [some (.ref 201)] [] c (f_X12_takePath N c) := by
  rw [f_X12_takePath]
  refine l1_many mt_X12_takePath (pc' := 2) (L' := [some (.ref 201)]) (st' := [.ref 201, .ref 201]) 2 rfl ?_
  refine l1_getI hQ mt_X12_takePath rfl (o := 201) (ci := 11) (k := 2) (a := 0) (b := 0) rfl rfl rfl rfl rfl ?_
  refine l1_many mt_X12_takePath (pc' := bif am_cc .ge (c.1 201 2) 300 then 18 else 11) (L' := [some (.ref 201)]) (st' := [.ref 201]) 2 rfl ?_
  refine l1_bif rfl ?_ ?_
  · refine l1_many mt_X12_takePath (pc' := 21) (L' := [some (.ref 201)]) (st' := [.int 299, .ref 201]) 1 rfl ?_
    refine l1_putI hQ mt_X12_takePath rfl (o := 201) (ci := 11) (k := 14) (a := 0) rfl rfl rfl rfl rfl rfl (fun c1 => ?_)
    refine l1_many mt_X12_takePath (pc' := 26) (L' := [some (.ref 201), some (.int 0)]) (st' := []) 2 rfl ?_
    exact ok_X12_takePath_26 hQ N N c1 0
  · refine l1_many mt_X12_takePath (pc' := 12) (L' := [some (.ref 201)]) (st' := [.ref 201, .ref 201]) 1 rfl ?_
    refine l1_getI hQ mt_X12_takePath rfl (o := 201) (ci := 11) (k := 2) (a := 0) (b := 0) rfl rfl rfl rfl rfl ?_
    refine l1_many mt_X12_takePath (pc' := 21) (L' := [some (.ref 201)]) (st' := [.int (c.1 201 2), .ref 201]) 1 rfl ?_
    refine l1_putI hQ mt_X12_takePath rfl (o := 201) (ci := 11) (k := 14) (a := 0) rfl rfl rfl rfl rfl rfl (fun c2 => ?_)
    refine l1_many mt_X12_takePath (pc' := 26) (L' := [some (.ref 201), some (.int 0)]) (st' := []) 2 rfl ?_
    exact ok_X12_takePath_26 hQ N N c2 0
theorem ok_X12_takePath {Q : hS → am_H → Prop} (hQ : l1_em km Q) (N : Nat) (c : hS) : l1_T wV Q am_i_X12_takePath [.ref 201] c (f_X12_takePath N c) := l1_of (en_X12_takePath hQ N c) ⟨rfl, trivial⟩
set_option maxRecDepth 100000 in
theorem ok_X12_kind_49 {Q : hS → am_H → Prop} (hQ : l1_em km Q) (N : Nat) : ∀ n : Nat, ∀ (c : hS) (v2 : Int32), l1_G (wN wI) Q am_i_X12_kind 49 [some (.ref 201), none, some (.int v2)] [] c (f_X12_kind_49 N n c v2) := by
  intro n
  induction n with
  | zero => intro c v2; exact l1_none
  | succ n ih =>
    intro c v2
    rw [f_X12_kind_49]
    refine l1_many mt_X12_kind (pc' := 51) (L' := [some (.ref 201), none, some (.int v2)]) (st' := [.ref 201, .int v2]) 2 rfl ?_
    refine l1_getI hQ mt_X12_kind rfl (o := 201) (ci := 11) (k := 7) (a := 0) (b := 0) rfl rfl rfl rfl rfl ?_
    refine l1_many mt_X12_kind (pc' := bif am_cc .ge v2 (c.1 201 7) then 73 else 57) (L' := [some (.ref 201), none, some (.int v2)]) (st' := []) 1 rfl ?_
    refine l1_bif rfl ?_ ?_
    · refine l1_many mt_X12_kind (pc' := 74) (L' := [some (.ref 201), none, some (.int v2)]) (st' := [.int 0]) 1 rfl ?_
      exact l1_ret mt_X12_kind rfl rfl rfl
    · refine l1_many mt_X12_kind (pc' := 59) (L' := [some (.ref 201), none, some (.int v2)]) (st' := [.int v2, .ref 201]) 2 rfl ?_
      refine l1_callV hQ mt_X12_kind mt_X12_isUnderNew rfl rfl (o := 201) (ci := 11) (As := [.int v2]) (rest := []) rfl rfl rfl rfl rfl rfl (st1 := fun x1 => [.int x1]) (fun _ => rfl) (ok_X12_isUnderNew hQ N c v2) (fun x1 c2 => ?_)
      refine l1_many mt_X12_kind (pc' := bif am_cc .eq x1 0 then 67 else 65) (L' := [some (.ref 201), none, some (.int v2)]) (st' := []) 1 rfl ?_
      refine l1_bif rfl ?_ ?_
      · refine l1_many mt_X12_kind (pc' := 49) (L' := [some (.ref 201), none, some (.int (v2 + 1))]) (st' := []) 2 rfl ?_
        exact ih c2 (v2 + 1)
      · refine l1_many mt_X12_kind (pc' := 66) (L' := [some (.ref 201), none, some (.int v2)]) (st' := [.int 1]) 1 rfl ?_
        exact l1_ret mt_X12_kind rfl rfl rfl
set_option maxRecDepth 100000 in
theorem en_X12_kind {Q : hS → am_H → Prop} (hQ : l1_em km Q) (N : Nat) (c : hS) : l1_G (wN wI) Q am_i_X12_kind 0 [some (.ref 201)] [] c (f_X12_kind N c) := by
  rw [f_X12_kind]
  refine l1_many mt_X12_kind (pc' := 2) (L' := [some (.ref 201)]) (st' := [.int 0, .ref 201]) 2 rfl ?_
  refine l1_putI hQ mt_X12_kind rfl (o := 201) (ci := 11) (k := 0) (a := 0) rfl rfl rfl rfl rfl rfl (fun c1 => ?_)
  refine l1_many mt_X12_kind (pc' := 6) (L' := [some (.ref 201)]) (st' := [.ref 201]) 1 rfl ?_
  refine l1_callV hQ mt_X12_kind mt_X12_takePath rfl rfl (o := 201) (ci := 11) (As := []) (rest := []) rfl rfl rfl rfl rfl rfl (st1 := fun _ => []) (fun _ => rfl) (ok_X12_takePath hQ N c1) (fun _ c2 => ?_)
  refine l1_many mt_X12_kind (pc' := 10) (L' := [some (.ref 201)]) (st' := [.ref 201]) 1 rfl ?_
  refine l1_getI hQ mt_X12_kind rfl (o := 201) (ci := 11) (k := 2) (a := 0) (b := 0) rfl rfl rfl rfl rfl ?_
  refine l1_many mt_X12_kind (pc' := bif am_cc .ne (c2.1 201 2) 0 then 18 else 16) (L' := [some (.ref 201)]) (st' := []) 1 rfl ?_
  refine l1_bin rfl ?_ ?_
  · refine l1_many mt_X12_kind (pc' := 17) (L' := [some (.ref 201)]) (st' := [.int 1]) 1 rfl ?_
    exact l1_ret mt_X12_kind rfl rfl rfl
  · refine l1_many mt_X12_kind (pc' := 21) (L' := [some (.ref 201)]) (st' := [.ref 201, .int 0, .ref 201]) 3 rfl ?_
    refine l1_getI hQ mt_X12_kind rfl (o := 201) (ci := 11) (k := 7) (a := 0) (b := 0) rfl rfl rfl rfl rfl ?_
    refine l1_callV hQ mt_X12_kind mt_X12_seek rfl rfl (o := 201) (ci := 11) (As := [.int 0, .int (c2.1 201 7)]) (rest := []) rfl rfl rfl rfl rfl rfl (st1 := fun x3 => [.int x3]) (fun _ => rfl) (ok_X12_seek hQ N c2 0 (c2.1 201 7)) (fun x3 c4 => ?_)
    refine l1_many mt_X12_kind (pc' := bif am_cc .lt x3 0 then 47 else 32) (L' := [some (.ref 201), some (.int x3)]) (st' := []) 3 rfl ?_
    refine l1_bif rfl ?_ ?_
    · refine l1_many mt_X12_kind (pc' := 49) (L' := [some (.ref 201), some (.int x3), some (.int 0)]) (st' := []) 2 rfl ?_
      refine l1_weak (m := [true, false, true]) (L' := [some (.ref 201), none, some (.int 0)]) rfl ?_
      exact ok_X12_kind_49 hQ N N c4 0
    · refine l1_many mt_X12_kind (pc' := 33) (L' := [some (.ref 201), some (.int x3)]) (st' := [.ref 201]) 1 rfl ?_
      refine l1_getR hQ mt_X12_kind rfl (o := 201) (ci := 11) (k := 13) (a := 0) (b := 0) rfl rfl rfl rfl rfl (q := 208) rfl ?_
      refine l1_many mt_X12_kind (pc' := 37) (L' := [some (.ref 201), some (.int x3)]) (st' := [.int x3, .ref 208]) 1 rfl ?_
      refine l1_ck (fun hx => ?_)
      refine l1_bld hQ mt_X12_kind rfl (o := 208) rfl hx ?_
      refine l1_many mt_X12_kind (pc' := bif am_cc .eq (c4.1 208 x3.toNatClampNeg) 0 then 45 else 41) (L' := [some (.ref 201), some (.int x3)]) (st' := []) 1 rfl ?_
      refine l1_bif rfl ?_ ?_
      · refine l1_many mt_X12_kind (pc' := 46) (L' := [some (.ref 201), some (.int x3)]) (st' := [.int 2]) 1 rfl ?_
        exact l1_ret mt_X12_kind rfl rfl rfl
      · refine l1_many mt_X12_kind (pc' := 46) (L' := [some (.ref 201), some (.int x3)]) (st' := [.int 1]) 2 rfl ?_
        exact l1_ret mt_X12_kind rfl rfl rfl
theorem ok_X12_kind {Q : hS → am_H → Prop} (hQ : l1_em km Q) (N : Nat) (c : hS) : l1_T wI Q am_i_X12_kind [.ref 201] c (f_X12_kind N c) := l1_of (en_X12_kind hQ N c) ⟨rfl, trivial⟩
set_option maxRecDepth 100000 in
theorem ok_X12_findPart_42 {Q : hS → am_H → Prop} (hQ : l1_em km Q) (N : Nat) (p1 : Int32) : ∀ n : Nat, ∀ (c : hS), l1_G (wN wV) Q am_i_X12_findPart 42 [some (.ref 201), some (.int p1)] [] c (f_X12_findPart_42 N p1 n c) := by
  intro n
  induction n with
  | zero => intro c; exact l1_none
  | succ n ih =>
    intro c
    rw [f_X12_findPart_42]
    refine l1_many mt_X12_findPart (pc' := 43) (L' := [some (.ref 201), some (.int p1)]) (st' := [.ref 201]) 1 rfl ?_
    refine l1_getI hQ mt_X12_findPart rfl (o := 201) (ci := 11) (k := 19) (a := 0) (b := 0) rfl rfl rfl rfl rfl ?_
    refine l1_many mt_X12_findPart (pc' := 47) (L' := [some (.ref 201), some (.int p1)]) (st' := [.ref 201, .int (c.1 201 19)]) 1 rfl ?_
    refine l1_getI hQ mt_X12_findPart rfl (o := 201) (ci := 11) (k := 20) (a := 0) (b := 0) rfl rfl rfl rfl rfl ?_
    refine l1_many mt_X12_findPart (pc' := 52) (L' := [some (.ref 201), some (.int p1)]) (st' := [.ref 201, .int ((c.1 201 19) + (c.1 201 20))]) 2 rfl ?_
    refine l1_getR hQ mt_X12_findPart rfl (o := 201) (ci := 11) (k := 9) (a := 0) (b := 0) rfl rfl rfl rfl rfl (q := 204) rfl ?_
    refine l1_many mt_X12_findPart (pc' := 56) (L' := [some (.ref 201), some (.int p1)]) (st' := [.int p1, .ref 204, .int ((c.1 201 19) + (c.1 201 20))]) 1 rfl ?_
    refine l1_ck (fun hx => ?_)
    refine l1_ald hQ mt_X12_findPart rfl (o := 204) rfl hx ?_
    refine l1_many mt_X12_findPart (pc' := bif am_cc .ge ((c.1 201 19) + (c.1 201 20)) (c.1 204 p1.toNatClampNeg) then 92 else 60) (L' := [some (.ref 201), some (.int p1)]) (st' := []) 1 rfl ?_
    refine l1_bif rfl ?_ ?_
    · exact l1_ret mt_X12_findPart rfl rfl rfl
    · refine l1_many mt_X12_findPart (pc' := 63) (L' := [some (.ref 201), some (.int p1)]) (st' := [.ref 201, .int p1, .ref 201]) 3 rfl ?_
      refine l1_getI hQ mt_X12_findPart rfl (o := 201) (ci := 11) (k := 19) (a := 0) (b := 0) rfl rfl rfl rfl rfl ?_
      refine l1_many mt_X12_findPart (pc' := 67) (L' := [some (.ref 201), some (.int p1)]) (st' := [.ref 201, .int (c.1 201 19), .int p1, .ref 201]) 1 rfl ?_
      refine l1_getI hQ mt_X12_findPart rfl (o := 201) (ci := 11) (k := 20) (a := 0) (b := 0) rfl rfl rfl rfl rfl ?_
      refine l1_many mt_X12_findPart (pc' := 71) (L' := [some (.ref 201), some (.int p1)]) (st' := [.int ((c.1 201 19) + (c.1 201 20)), .int p1, .ref 201]) 1 rfl ?_
      refine l1_callV hQ mt_X12_findPart mt_X12_nameAt rfl rfl (o := 201) (ci := 11) (As := [.int p1, .int ((c.1 201 19) + (c.1 201 20))]) (rest := []) rfl rfl rfl rfl rfl rfl (st1 := fun x1 => [.int x1]) (fun _ => rfl) (ok_X12_nameAt hQ c p1 ((c.1 201 19) + (c.1 201 20))) (fun x1 c2 => ?_)
      refine l1_many mt_X12_findPart (pc' := bif am_cc .eq x1 47 then 92 else 79) (L' := [some (.ref 201), some (.int p1)]) (st' := []) 2 rfl ?_
      refine l1_bif rfl ?_ ?_
      · exact l1_ret mt_X12_findPart rfl rfl rfl
      · refine l1_many mt_X12_findPart (pc' := 81) (L' := [some (.ref 201), some (.int p1)]) (st' := [.ref 201, .ref 201]) 2 rfl ?_
        refine l1_getI hQ mt_X12_findPart rfl (o := 201) (ci := 11) (k := 20) (a := 0) (b := 0) rfl rfl rfl rfl rfl ?_
        refine l1_many mt_X12_findPart (pc' := 86) (L' := [some (.ref 201), some (.int p1)]) (st' := [.int ((c2.1 201 20) + 1), .ref 201]) 2 rfl ?_
        refine l1_putI hQ mt_X12_findPart rfl (o := 201) (ci := 11) (k := 20) (a := 0) rfl rfl rfl rfl rfl rfl (fun c3 => ?_)
        refine l1_many mt_X12_findPart (pc' := 42) (L' := [some (.ref 201), some (.int p1)]) (st' := []) 1 rfl ?_
        exact ih c3
set_option maxRecDepth 100000 in
theorem ok_X12_findPart_21 {Q : hS → am_H → Prop} (hQ : l1_em km Q) (N : Nat) (p1 : Int32) : ∀ (c : hS), l1_G (wN wV) Q am_i_X12_findPart 21 [some (.ref 201), some (.int p1)] [] c (f_X12_findPart_21 N p1 c) := by
  intro c
  rw [f_X12_findPart_21]
  refine l1_many mt_X12_findPart (pc' := 23) (L' := [some (.ref 201), some (.int p1)]) (st' := [.ref 201, .ref 201]) 2 rfl ?_
  refine l1_getI hQ mt_X12_findPart rfl (o := 201) (ci := 11) (k := 14) (a := 0) (b := 0) rfl rfl rfl rfl rfl ?_
  refine l1_many mt_X12_findPart (pc' := bif am_cc .ne (c.1 201 14) 0 then 33 else 29) (L' := [some (.ref 201), some (.int p1)]) (st' := [.ref 201]) 1 rfl ?_
  refine l1_bin rfl ?_ ?_
  · refine l1_many mt_X12_findPart (pc' := 39) (L' := [some (.ref 201), some (.int p1)]) (st' := [.int 0, .ref 201]) 2 rfl ?_
    refine l1_putI hQ mt_X12_findPart rfl (o := 201) (ci := 11) (k := 19) (a := 0) rfl rfl rfl rfl rfl rfl (fun c2 => ?_)
    exact ok_X12_findPart_42 hQ N p1 N c2
  · refine l1_many mt_X12_findPart (pc' := 34) (L' := [some (.ref 201), some (.int p1)]) (st' := [.ref 201, .ref 201]) 1 rfl ?_
    refine l1_getI hQ mt_X12_findPart rfl (o := 201) (ci := 11) (k := 14) (a := 0) (b := 0) rfl rfl rfl rfl rfl ?_
    refine l1_many mt_X12_findPart (pc' := 39) (L' := [some (.ref 201), some (.int p1)]) (st' := [.int ((c.1 201 14) + 1), .ref 201]) 2 rfl ?_
    refine l1_putI hQ mt_X12_findPart rfl (o := 201) (ci := 11) (k := 19) (a := 0) rfl rfl rfl rfl rfl rfl (fun c1 => ?_)
    exact ok_X12_findPart_42 hQ N p1 N c1
set_option maxRecDepth 100000 in
theorem en_X12_findPart {Q : hS → am_H → Prop} (hQ : l1_em km Q) (N : Nat) (c : hS) (p1 : Int32) : l1_G (wN wV) Q am_i_X12_findPart 0 [some (.ref 201), some (.int p1)] [] c (f_X12_findPart N c p1) := by
  rw [f_X12_findPart]
  refine l1_many mt_X12_findPart (pc' := 2) (L' := [some (.ref 201), some (.int p1)]) (st' := [.int 0, .ref 201]) 2 rfl ?_
  refine l1_putI hQ mt_X12_findPart rfl (o := 201) (ci := 11) (k := 20) (a := 0) rfl rfl rfl rfl rfl rfl (fun c1 => ?_)
  refine l1_many mt_X12_findPart (pc' := 6) (L' := [some (.ref 201), some (.int p1)]) (st' := [.ref 201]) 1 rfl ?_
  refine l1_getI hQ mt_X12_findPart rfl (o := 201) (ci := 11) (k := 14) (a := 0) (b := 0) rfl rfl rfl rfl rfl ?_
  refine l1_many mt_X12_findPart (pc' := bif am_cc .le (c1.1 201 14) 0 then 21 else 12) (L' := [some (.ref 201), some (.int p1)]) (st' := []) 1 rfl ?_
  refine l1_bif rfl ?_ ?_
  · exact ok_X12_findPart_21 hQ N p1 c1
  · refine l1_many mt_X12_findPart (pc' := 14) (L' := [some (.ref 201), some (.int p1)]) (st' := [.int p1, .ref 201]) 2 rfl ?_
    refine l1_callV hQ mt_X12_findPart mt_X12_isUnderNew rfl rfl (o := 201) (ci := 11) (As := [.int p1]) (rest := []) rfl rfl rfl rfl rfl rfl (st1 := fun x2 => [.int x2]) (fun _ => rfl) (ok_X12_isUnderNew hQ N c1 p1) (fun x2 c3 => ?_)
    refine l1_many mt_X12_findPart (pc' := bif am_cc .ne x2 0 then 21 else 20) (L' := [some (.ref 201), some (.int p1)]) (st' := []) 1 rfl ?_
    refine l1_bin rfl ?_ ?_
    · exact l1_ret mt_X12_findPart rfl rfl rfl
    · exact ok_X12_findPart_21 hQ N p1 c3
theorem ok_X12_findPart {Q : hS → am_H → Prop} (hQ : l1_em km Q) (N : Nat) (c : hS) (p1 : Int32) : l1_T wV Q am_i_X12_findPart [.ref 201, .int p1] c (f_X12_findPart N c p1) := l1_of (en_X12_findPart hQ N c p1) ⟨rfl, rfl, trivial⟩
set_option maxRecDepth 100000 in
theorem ok_X12_isSamePart_24 {Q : hS → am_H → Prop} (hQ : l1_em km Q) (N : Nat) (p1 : Int32) (p2 : Int32) (p3 : Int32) (p4 : Int32) : ∀ n : Nat, ∀ (c : hS) (v5 : Int32) (v6 : Int32), l1_G (wN wI) Q am_i_X12_isSamePart 24 [some (.ref 201), some (.int p1), some (.int p2), some (.int p3), some (.int p4), some (.int v5), some (.int v6)] [] c (f_X12_isSamePart_24 N p1 p2 p3 p4 n c v5 v6) := by
  intro n
  induction n with
  | zero => intro c v5 v6; exact l1_none
  | succ n ih =>
    intro c v5 v6
    rw [f_X12_isSamePart_24]
    refine l1_many mt_X12_isSamePart (pc' := bif am_cc .ge v6 p3 then 73 else 30) (L' := [some (.ref 201), some (.int p1), some (.int p2), some (.int p3), some (.int p4), some (.int v5), some (.int v6)]) (st' := []) 3 rfl ?_
    refine l1_bif rfl ?_ ?_
    · refine l1_many mt_X12_isSamePart (pc' := 75) (L' := [some (.ref 201), some (.int p1), some (.int p2), some (.int p3), some (.int p4), some (.int v5), some (.int v6)]) (st' := [.int v5]) 1 rfl ?_
      refine l1_ck (fun hz => ?_)
      exact l1_retZ mt_X12_isSamePart rfl rfl rfl hz
    · refine l1_many mt_X12_isSamePart (pc' := bif am_cc .eq v5 0 then 73 else 35) (L' := [some (.ref 201), some (.int p1), some (.int p2), some (.int p3), some (.int p4), some (.int v5), some (.int v6)]) (st' := []) 2 rfl ?_
      refine l1_bif rfl ?_ ?_
      · refine l1_many mt_X12_isSamePart (pc' := 75) (L' := [some (.ref 201), some (.int p1), some (.int p2), some (.int p3), some (.int p4), some (.int v5), some (.int v6)]) (st' := [.int v5]) 1 rfl ?_
        refine l1_ck (fun hz => ?_)
        exact l1_retZ mt_X12_isSamePart rfl rfl rfl hz
      · refine l1_many mt_X12_isSamePart (pc' := 41) (L' := [some (.ref 201), some (.int p1), some (.int p2), some (.int p3), some (.int p4), some (.int v5), some (.int v6)]) (st' := [.int (p2 + v6), .int p1, .ref 201]) 5 rfl ?_
        refine l1_callV hQ mt_X12_isSamePart mt_X12_nameAt rfl rfl (o := 201) (ci := 11) (As := [.int p1, .int (p2 + v6)]) (rest := []) rfl rfl rfl rfl rfl rfl (st1 := fun x1 => [.int x1]) (fun _ => rfl) (ok_X12_nameAt hQ c p1 (p2 + v6)) (fun x1 c2 => ?_)
        refine l1_many mt_X12_isSamePart (pc' := 48) (L' := [some (.ref 201), some (.int p1), some (.int p2), some (.int p3), some (.int p4), some (.int v5), some (.int v6)]) (st' := [.ref 201, .int p4, .ref 201, .int x1]) 3 rfl ?_
        refine l1_getI hQ mt_X12_isSamePart rfl (o := 201) (ci := 11) (k := 19) (a := 0) (b := 0) rfl rfl rfl rfl rfl ?_
        refine l1_many mt_X12_isSamePart (pc' := 54) (L' := [some (.ref 201), some (.int p1), some (.int p2), some (.int p3), some (.int p4), some (.int v5), some (.int v6)]) (st' := [.int ((c2.1 201 19) + v6), .int p4, .ref 201, .int x1]) 2 rfl ?_
        refine l1_callV hQ mt_X12_isSamePart mt_X12_nameAt rfl rfl (o := 201) (ci := 11) (As := [.int p4, .int ((c2.1 201 19) + v6)]) (rest := [.int x1]) rfl rfl rfl rfl rfl rfl (st1 := fun x3 => [.int x3, .int x1]) (fun _ => rfl) (ok_X12_nameAt hQ c2 p4 ((c2.1 201 19) + v6)) (fun x3 c4 => ?_)
        refine l1_many mt_X12_isSamePart (pc' := bif am_cc .ne x1 x3 then 64 else 60) (L' := [some (.ref 201), some (.int p1), some (.int p2), some (.int p3), some (.int p4), some (.int v5), some (.int v6)]) (st' := []) 1 rfl ?_
        refine l1_bin rfl ?_ ?_
        · refine l1_many mt_X12_isSamePart (pc' := 24) (L' := [some (.ref 201), some (.int p1), some (.int p2), some (.int p3), some (.int p4), some (.int 1), some (.int (v6 + 1))]) (st' := []) 5 rfl ?_
          exact ih c4 1 (v6 + 1)
        · refine l1_many mt_X12_isSamePart (pc' := 24) (L' := [some (.ref 201), some (.int p1), some (.int p2), some (.int p3), some (.int p4), some (.int 0), some (.int (v6 + 1))]) (st' := []) 4 rfl ?_
          exact ih c4 0 (v6 + 1)
set_option maxRecDepth 100000 in
theorem en_X12_isSamePart {Q : hS → am_H → Prop} (hQ : l1_em km Q) (N : Nat) (c : hS) (p1 : Int32) (p2 : Int32) (p3 : Int32) (p4 : Int32) : l1_G (wN wI) Q am_i_X12_isSamePart 0 [some (.ref 201), some (.int p1), some (.int p2), some (.int p3), some (.int p4)] [] c (f_X12_isSamePart N c p1 p2 p3 p4) := by
  rw [f_X12_isSamePart]
  refine l1_many mt_X12_isSamePart (pc' := 3) (L' := [some (.ref 201), some (.int p1), some (.int p2), some (.int p3), some (.int p4)]) (st' := [.int p4, .ref 201]) 2 rfl ?_
  refine l1_callV hQ mt_X12_isSamePart mt_X12_findPart rfl rfl (o := 201) (ci := 11) (As := [.int p4]) (rest := []) rfl rfl rfl rfl rfl rfl (st1 := fun _ => []) (fun _ => rfl) (ok_X12_findPart hQ N c p4) (fun _ c1 => ?_)
  refine l1_many mt_X12_isSamePart (pc' := 7) (L' := [some (.ref 201), some (.int p1), some (.int p2), some (.int p3), some (.int p4)]) (st' := [.ref 201]) 1 rfl ?_
  refine l1_getI hQ mt_X12_isSamePart rfl (o := 201) (ci := 11) (k := 20) (a := 0) (b := 0) rfl rfl rfl rfl rfl ?_
  refine l1_many mt_X12_isSamePart (pc' := bif am_cc .ne (c1.1 201 20) p3 then 18 else 14) (L' := [some (.ref 201), some (.int p1), some (.int p2), some (.int p3), some (.int p4)]) (st' := []) 2 rfl ?_
  refine l1_bin rfl ?_ ?_
  · refine l1_many mt_X12_isSamePart (pc' := 24) (L' := [some (.ref 201), some (.int p1), some (.int p2), some (.int p3), some (.int p4), some (.int 1), some (.int 0)]) (st' := []) 5 rfl ?_
    exact ok_X12_isSamePart_24 hQ N p1 p2 p3 p4 N c1 1 0
  · refine l1_many mt_X12_isSamePart (pc' := 24) (L' := [some (.ref 201), some (.int p1), some (.int p2), some (.int p3), some (.int p4), some (.int 0), some (.int 0)]) (st' := []) 4 rfl ?_
    exact ok_X12_isSamePart_24 hQ N p1 p2 p3 p4 N c1 0 0
theorem ok_X12_isSamePart {Q : hS → am_H → Prop} (hQ : l1_em km Q) (N : Nat) (c : hS) (p1 : Int32) (p2 : Int32) (p3 : Int32) (p4 : Int32) : l1_T wI Q am_i_X12_isSamePart [.ref 201, .int p1, .int p2, .int p3, .int p4] c (f_X12_isSamePart N c p1 p2 p3 p4) := l1_of (en_X12_isSamePart hQ N c p1 p2 p3 p4) ⟨rfl, rfl, rfl, rfl, rfl, trivial⟩
