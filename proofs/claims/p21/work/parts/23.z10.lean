section
/-! THAT THE MACHINE FOLLOWS THEM, printed by gen_l1.py -/
set_option maxRecDepth 100000 in
theorem ok_X12_isInTheWay_53 {Q : hS → am_H → Prop} (hQ : l1_em km Q) (N : Nat) (p1 : Int32) (p2 : Int32) {k5 : hS → Int32 → Int32 → Option (Int32 × hS)} (hk5 : ∀ c v3 v4, l1_G (wN wI) Q am_i_X12_isInTheWay 5 [some (.ref 201), some (.int p1), some (.int p2), some (.int v3), some (.int v4)] [] c (k5 c v3 v4)) : ∀ (c : hS) (v3 : Int32) (v4 : Int32) (w0 : Int32), l1_G (wN wI) Q am_i_X12_isInTheWay 53 [some (.ref 201), some (.int p1), some (.int p2), some (.int v3), some (.int v4)] [.int w0] c (f_X12_isInTheWay_53 N p1 p2 k5 c v3 v4 w0) := by
  intro c v3 v4 w0
  rw [f_X12_isInTheWay_53]
  refine l1_many mt_X12_isInTheWay (pc' := bif am_cc .ne v3 0 then 73 else 59) (L' := [some (.ref 201), some (.int p1), some (.int p2), some (.int v3), some (.int v4), some (.int w0)]) (st' := []) 3 rfl ?_
  refine l1_bin rfl ?_ ?_
  · refine l1_many mt_X12_isInTheWay (pc' := 62) (L' := [some (.ref 201), some (.int p1), some (.int p2), some (.int v3), some (.int v4), some (.int w0)]) (st' := [.int v4, .ref 201]) 2 rfl ?_
    refine l1_callV hQ mt_X12_isInTheWay mt_X12_isNamed rfl rfl (o := 201) (ci := 11) (As := [.int v4]) (rest := []) rfl rfl rfl rfl rfl rfl (st1 := fun x1 => [.int x1]) (fun _ => rfl) (ok_X12_isNamed hQ N c v4) (fun x1 c2 => ?_)
    refine l1_many mt_X12_isInTheWay (pc' := bif am_cc .ne x1 0 then 77 else 68) (L' := [some (.ref 201), some (.int p1), some (.int p2), some (.int v3), some (.int v4), some (.int w0)]) (st' := []) 1 rfl ?_
    refine l1_bin rfl ?_ ?_
    · refine l1_many mt_X12_isInTheWay (pc' := bif am_cc .eq w0 0 then 77 else 73) (L' := [some (.ref 201), some (.int p1), some (.int p2), some (.int v3), some (.int v4), some (.int w0)]) (st' := []) 2 rfl ?_
      refine l1_bif rfl ?_ ?_
      · refine l1_many mt_X12_isInTheWay (pc' := 5) (L' := [some (.ref 201), some (.int p1), some (.int p2), some (.int 0), some (.int (v4 + 1)), some (.int w0)]) (st' := []) 4 rfl ?_
        refine l1_weak (m := [true, true, true, true, true, false]) (L' := [some (.ref 201), some (.int p1), some (.int p2), some (.int 0), some (.int (v4 + 1))]) rfl ?_
        exact hk5 c2 0 (v4 + 1)
      · refine l1_many mt_X12_isInTheWay (pc' := 5) (L' := [some (.ref 201), some (.int p1), some (.int p2), some (.int 1), some (.int (v4 + 1)), some (.int w0)]) (st' := []) 5 rfl ?_
        refine l1_weak (m := [true, true, true, true, true, false]) (L' := [some (.ref 201), some (.int p1), some (.int p2), some (.int 1), some (.int (v4 + 1))]) rfl ?_
        exact hk5 c2 1 (v4 + 1)
    · refine l1_many mt_X12_isInTheWay (pc' := 5) (L' := [some (.ref 201), some (.int p1), some (.int p2), some (.int 0), some (.int (v4 + 1)), some (.int w0)]) (st' := []) 4 rfl ?_
      refine l1_weak (m := [true, true, true, true, true, false]) (L' := [some (.ref 201), some (.int p1), some (.int p2), some (.int 0), some (.int (v4 + 1))]) rfl ?_
      exact hk5 c2 0 (v4 + 1)
  · refine l1_many mt_X12_isInTheWay (pc' := 5) (L' := [some (.ref 201), some (.int p1), some (.int p2), some (.int 1), some (.int (v4 + 1)), some (.int w0)]) (st' := []) 5 rfl ?_
    refine l1_weak (m := [true, true, true, true, true, false]) (L' := [some (.ref 201), some (.int p1), some (.int p2), some (.int 1), some (.int (v4 + 1))]) rfl ?_
    exact hk5 c 1 (v4 + 1)
set_option maxRecDepth 100000 in
theorem ok_X12_isInTheWay_48 {Q : hS → am_H → Prop} (hQ : l1_em km Q) (N : Nat) (p1 : Int32) (p2 : Int32) {k5 : hS → Int32 → Int32 → Option (Int32 × hS)} (hk5 : ∀ c v3 v4, l1_G (wN wI) Q am_i_X12_isInTheWay 5 [some (.ref 201), some (.int p1), some (.int p2), some (.int v3), some (.int v4)] [] c (k5 c v3 v4)) : ∀ (c : hS) (v3 : Int32) (v4 : Int32), l1_G (wN wI) Q am_i_X12_isInTheWay 48 [some (.ref 201), some (.int p1), some (.int p2), some (.int v3), some (.int v4)] [] c (f_X12_isInTheWay_48 N p1 p2 k5 c v3 v4) := by
  intro c v3 v4
  rw [f_X12_isInTheWay_48]
  refine l1_many mt_X12_isInTheWay (pc' := 53) (L' := [some (.ref 201), some (.int p1), some (.int p2), some (.int v3), some (.int v4)]) (st' := [.int 1]) 2 rfl ?_
  exact ok_X12_isInTheWay_53 hQ N p1 p2 hk5 c v3 v4 1
set_option maxRecDepth 100000 in
theorem ok_X12_isInTheWay_52 {Q : hS → am_H → Prop} (hQ : l1_em km Q) (N : Nat) (p1 : Int32) (p2 : Int32) {k5 : hS → Int32 → Int32 → Option (Int32 × hS)} (hk5 : ∀ c v3 v4, l1_G (wN wI) Q am_i_X12_isInTheWay 5 [some (.ref 201), some (.int p1), some (.int p2), some (.int v3), some (.int v4)] [] c (k5 c v3 v4)) : ∀ (c : hS) (v3 : Int32) (v4 : Int32), l1_G (wN wI) Q am_i_X12_isInTheWay 52 [some (.ref 201), some (.int p1), some (.int p2), some (.int v3), some (.int v4)] [] c (f_X12_isInTheWay_52 N p1 p2 k5 c v3 v4) := by
  intro c v3 v4
  rw [f_X12_isInTheWay_52]
  refine l1_many mt_X12_isInTheWay (pc' := 53) (L' := [some (.ref 201), some (.int p1), some (.int p2), some (.int v3), some (.int v4)]) (st' := [.int 0]) 1 rfl ?_
  exact ok_X12_isInTheWay_53 hQ N p1 p2 hk5 c v3 v4 0
set_option maxRecDepth 100000 in
theorem ok_X12_isInTheWay_29 {Q : hS → am_H → Prop} (hQ : l1_em km Q) (N : Nat) (p1 : Int32) (p2 : Int32) {k5 : hS → Int32 → Int32 → Option (Int32 × hS)} (hk5 : ∀ c v3 v4, l1_G (wN wI) Q am_i_X12_isInTheWay 5 [some (.ref 201), some (.int p1), some (.int p2), some (.int v3), some (.int v4)] [] c (k5 c v3 v4)) : ∀ (c : hS) (v3 : Int32) (v4 : Int32), l1_G (wN wI) Q am_i_X12_isInTheWay 29 [some (.ref 201), some (.int p1), some (.int p2), some (.int v3), some (.int v4)] [] c (f_X12_isInTheWay_29 N p1 p2 k5 c v3 v4) := by
  intro c v3 v4
  rw [f_X12_isInTheWay_29]
  refine l1_many mt_X12_isInTheWay (pc' := 30) (L' := [some (.ref 201), some (.int p1), some (.int p2), some (.int v3), some (.int v4)]) (st' := [.ref 201]) 1 rfl ?_
  refine l1_getR hQ mt_X12_isInTheWay rfl (o := 201) (ci := 11) (k := 13) (a := 0) (b := 0) rfl rfl rfl rfl rfl (q := 208) rfl ?_
  refine l1_many mt_X12_isInTheWay (pc' := 35) (L' := [some (.ref 201), some (.int p1), some (.int p2), some (.int v3), some (.int v4)]) (st' := [.int v4, .ref 208]) 1 rfl ?_
  refine l1_ck (fun hx => ?_)
  refine l1_bld hQ mt_X12_isInTheWay rfl (o := 208) rfl hx ?_
  refine l1_many mt_X12_isInTheWay (pc' := bif am_cc .ne (c.1 208 v4.toNatClampNeg) 0 then 52 else 39) (L' := [some (.ref 201), some (.int p1), some (.int p2), some (.int v3), some (.int v4)]) (st' := []) 1 rfl ?_
  refine l1_bin rfl ?_ ?_
  · refine l1_many mt_X12_isInTheWay (pc' := 42) (L' := [some (.ref 201), some (.int p1), some (.int p2), some (.int v3), some (.int v4)]) (st' := [.int v4, .ref 201]) 2 rfl ?_
    refine l1_callV hQ mt_X12_isInTheWay mt_X12_isNewUnder rfl rfl (o := 201) (ci := 11) (As := [.int v4]) (rest := []) rfl rfl rfl rfl rfl rfl (st1 := fun x1 => [.int x1]) (fun _ => rfl) (ok_X12_isNewUnder hQ N c v4) (fun x1 c2 => ?_)
    refine l1_many mt_X12_isInTheWay (pc' := bif am_cc .eq x1 0 then 52 else 48) (L' := [some (.ref 201), some (.int p1), some (.int p2), some (.int v3), some (.int v4)]) (st' := []) 1 rfl ?_
    refine l1_bif rfl ?_ ?_
    · exact ok_X12_isInTheWay_52 hQ N p1 p2 hk5 c2 v3 v4
    · exact ok_X12_isInTheWay_48 hQ N p1 p2 hk5 c2 v3 v4
  · exact ok_X12_isInTheWay_52 hQ N p1 p2 hk5 c v3 v4
set_option maxRecDepth 100000 in
theorem ok_X12_isInTheWay_5 {Q : hS → am_H → Prop} (hQ : l1_em km Q) (N : Nat) (p1 : Int32) (p2 : Int32) : ∀ n : Nat, ∀ (c : hS) (v3 : Int32) (v4 : Int32), l1_G (wN wI) Q am_i_X12_isInTheWay 5 [some (.ref 201), some (.int p1), some (.int p2), some (.int v3), some (.int v4)] [] c (f_X12_isInTheWay_5 N p1 p2 n c v3 v4) := by
  intro n
  induction n with
  | zero => intro c v3 v4; exact l1_none
  | succ n ih =>
    intro c v3 v4
    rw [f_X12_isInTheWay_5]
    refine l1_many mt_X12_isInTheWay (pc' := bif am_cc .ge v4 (p1 + p2) then 85 else 13) (L' := [some (.ref 201), some (.int p1), some (.int p2), some (.int v3), some (.int v4)]) (st' := []) 5 rfl ?_
    refine l1_bif rfl ?_ ?_
    · refine l1_many mt_X12_isInTheWay (pc' := 86) (L' := [some (.ref 201), some (.int p1), some (.int p2), some (.int v3), some (.int v4)]) (st' := [.int v3]) 1 rfl ?_
      refine l1_ck (fun hz => ?_)
      exact l1_retZ mt_X12_isInTheWay rfl rfl rfl hz
    · refine l1_many mt_X12_isInTheWay (pc' := 14) (L' := [some (.ref 201), some (.int p1), some (.int p2), some (.int v3), some (.int v4)]) (st' := [.ref 201]) 1 rfl ?_
      refine l1_getI hQ mt_X12_isInTheWay rfl (o := 201) (ci := 11) (k := 18) (a := 0) (b := 0) rfl rfl rfl rfl rfl ?_
      refine l1_many mt_X12_isInTheWay (pc' := bif am_cc .ne (c.1 201 18) 0 then 29 else 20) (L' := [some (.ref 201), some (.int p1), some (.int p2), some (.int v3), some (.int v4)]) (st' := []) 1 rfl ?_
      refine l1_bin rfl ?_ ?_
      · refine l1_many mt_X12_isInTheWay (pc' := 23) (L' := [some (.ref 201), some (.int p1), some (.int p2), some (.int v3), some (.int v4)]) (st' := [.int v4, .ref 201]) 2 rfl ?_
        refine l1_callV hQ mt_X12_isInTheWay mt_X12_isUnderNew rfl rfl (o := 201) (ci := 11) (As := [.int v4]) (rest := []) rfl rfl rfl rfl rfl rfl (st1 := fun x1 => [.int x1]) (fun _ => rfl) (ok_X12_isUnderNew hQ N c v4) (fun x1 c2 => ?_)
        refine l1_many mt_X12_isInTheWay (pc' := bif am_cc .ne x1 0 then 48 else 29) (L' := [some (.ref 201), some (.int p1), some (.int p2), some (.int v3), some (.int v4)]) (st' := []) 1 rfl ?_
        refine l1_bin rfl ?_ ?_
        · exact ok_X12_isInTheWay_29 hQ N p1 p2 ih c2 v3 v4
        · exact ok_X12_isInTheWay_48 hQ N p1 p2 ih c2 v3 v4
      · exact ok_X12_isInTheWay_29 hQ N p1 p2 ih c v3 v4
set_option maxRecDepth 100000 in
theorem en_X12_isInTheWay {Q : hS → am_H → Prop} (hQ : l1_em km Q) (N : Nat) (c : hS) (p1 : Int32) (p2 : Int32) : l1_G (wN wI) Q am_i_X12_isInTheWay 0 [some (.ref 201), some (.int p1), some (.int p2)] [] c (f_X12_isInTheWay N c p1 p2) := by
  rw [f_X12_isInTheWay]
  refine l1_many mt_X12_isInTheWay (pc' := 5) (L' := [some (.ref 201), some (.int p1), some (.int p2), some (.int 0), some (.int p1)]) (st' := []) 4 rfl ?_
  exact ok_X12_isInTheWay_5 hQ N p1 p2 N c 0 p1
theorem ok_X12_isInTheWay {Q : hS → am_H → Prop} (hQ : l1_em km Q) (N : Nat) (c : hS) (p1 : Int32) (p2 : Int32) : l1_T wI Q am_i_X12_isInTheWay [.ref 201, .int p1, .int p2] c (f_X12_isInTheWay N c p1 p2) := l1_of (en_X12_isInTheWay hQ N c p1 p2) ⟨rfl, rfl, rfl, trivial⟩
set_option maxRecDepth 100000 in
theorem ok_X12_move_74 {Q : hS → am_H → Prop} (hQ : l1_em km Q) (N : Nat) (p1 : Int32) (p2 : Int32) : ∀ n : Nat, ∀ (c : hS) (v3 : Int32), l1_G (wN wV) Q am_i_X12_move 74 [some (.ref 201), some (.int p1), some (.int p2), some (.int v3)] [] c (f_X12_move_74 N p1 p2 n c v3) := by
  intro n
  induction n with
  | zero => intro c v3; exact l1_none
  | succ n ih =>
    intro c v3
    rw [f_X12_move_74]
    refine l1_many mt_X12_move (pc' := bif am_cc .ge v3 400 then 111 else 81) (L' := [some (.ref 201), some (.int p1), some (.int p2), some (.int v3)]) (st' := []) 3 rfl ?_
    refine l1_bif rfl ?_ ?_
    · exact l1_ret mt_X12_move rfl rfl rfl
    · refine l1_many mt_X12_move (pc' := 82) (L' := [some (.ref 201), some (.int p1), some (.int p2), some (.int v3)]) (st' := [.ref 201]) 1 rfl ?_
      refine l1_getR hQ mt_X12_move rfl (o := 201) (ci := 11) (k := 12) (a := 0) (b := 0) rfl rfl rfl rfl rfl (q := 207) rfl ?_
      refine l1_many mt_X12_move (pc' := 93) (L' := [some (.ref 201), some (.int p1), some (.int p2), some (.int v3)]) (st' := [.ref 201, .int ((400 * p2) + v3), .ref 207]) 6 rfl ?_
      refine l1_getR hQ mt_X12_move rfl (o := 201) (ci := 11) (k := 12) (a := 0) (b := 0) rfl rfl rfl rfl rfl (q := 207) rfl ?_
      refine l1_many mt_X12_move (pc' := 103) (L' := [some (.ref 201), some (.int p1), some (.int p2), some (.int v3)]) (st' := [.int ((400 * p1) + v3), .ref 207, .int ((400 * p2) + v3), .ref 207]) 5 rfl ?_
      refine l1_ck (fun hx => ?_)
      refine l1_ald hQ mt_X12_move rfl (o := 207) rfl hx ?_
      refine l1_ck (fun hx => ?_)
      refine l1_ast hQ mt_X12_move rfl (o := 207) rfl hx (fun c1 => ?_)
      refine l1_many mt_X12_move (pc' := 74) (L' := [some (.ref 201), some (.int p1), some (.int p2), some (.int (v3 + 1))]) (st' := []) 2 rfl ?_
      exact ih c1 (v3 + 1)
set_option maxRecDepth 100000 in
theorem ok_X12_move_38 {Q : hS → am_H → Prop} (hQ : l1_em km Q) (N : Nat) (p1 : Int32) (p2 : Int32) : ∀ n : Nat, ∀ (c : hS) (v3 : Int32), l1_G (wN wV) Q am_i_X12_move 38 [some (.ref 201), some (.int p1), some (.int p2), some (.int v3)] [] c (f_X12_move_38 N p1 p2 n c v3) := by
  intro n
  induction n with
  | zero => intro c v3; exact l1_none
  | succ n ih =>
    intro c v3
    rw [f_X12_move_38]
    refine l1_many mt_X12_move (pc' := bif am_cc .ge v3 90 then 72 else 44) (L' := [some (.ref 201), some (.int p1), some (.int p2), some (.int v3)]) (st' := []) 3 rfl ?_
    refine l1_bif rfl ?_ ?_
    · refine l1_many mt_X12_move (pc' := 74) (L' := [some (.ref 201), some (.int p1), some (.int p2), some (.int 0)]) (st' := []) 2 rfl ?_
      exact ok_X12_move_74 hQ N p1 p2 N c 0
    · refine l1_many mt_X12_move (pc' := 45) (L' := [some (.ref 201), some (.int p1), some (.int p2), some (.int v3)]) (st' := [.ref 201]) 1 rfl ?_
      refine l1_getR hQ mt_X12_move rfl (o := 201) (ci := 11) (k := 10) (a := 0) (b := 0) rfl rfl rfl rfl rfl (q := 205) rfl ?_
      refine l1_many mt_X12_move (pc' := 55) (L' := [some (.ref 201), some (.int p1), some (.int p2), some (.int v3)]) (st' := [.ref 201, .int ((90 * p2) + v3), .ref 205]) 6 rfl ?_
      refine l1_getR hQ mt_X12_move rfl (o := 201) (ci := 11) (k := 10) (a := 0) (b := 0) rfl rfl rfl rfl rfl (q := 205) rfl ?_
      refine l1_many mt_X12_move (pc' := 64) (L' := [some (.ref 201), some (.int p1), some (.int p2), some (.int v3)]) (st' := [.int ((90 * p1) + v3), .ref 205, .int ((90 * p2) + v3), .ref 205]) 5 rfl ?_
      refine l1_ck (fun hx => ?_)
      refine l1_ald hQ mt_X12_move rfl (o := 205) rfl hx ?_
      refine l1_ck (fun hx => ?_)
      refine l1_ast hQ mt_X12_move rfl (o := 205) rfl hx (fun c1 => ?_)
      refine l1_many mt_X12_move (pc' := 38) (L' := [some (.ref 201), some (.int p1), some (.int p2), some (.int (v3 + 1))]) (st' := []) 2 rfl ?_
      exact ih c1 (v3 + 1)
set_option maxRecDepth 100000 in
theorem en_X12_move {Q : hS → am_H → Prop} (hQ : l1_em km Q) (N : Nat) (c : hS) (p1 : Int32) (p2 : Int32) : l1_G (wN wV) Q am_i_X12_move 0 [some (.ref 201), some (.int p1), some (.int p2)] [] c (f_X12_move N c p1 p2) := by
  rw [f_X12_move]
  refine l1_many mt_X12_move (pc' := 1) (L' := [some (.ref 201), some (.int p1), some (.int p2)]) (st' := [.ref 201]) 1 rfl ?_
  refine l1_getR hQ mt_X12_move rfl (o := 201) (ci := 11) (k := 9) (a := 0) (b := 0) rfl rfl rfl rfl rfl (q := 204) rfl ?_
  refine l1_many mt_X12_move (pc' := 6) (L' := [some (.ref 201), some (.int p1), some (.int p2)]) (st' := [.ref 201, .int p2, .ref 204]) 2 rfl ?_
  refine l1_getR hQ mt_X12_move rfl (o := 201) (ci := 11) (k := 9) (a := 0) (b := 0) rfl rfl rfl rfl rfl (q := 204) rfl ?_
  refine l1_many mt_X12_move (pc' := 10) (L' := [some (.ref 201), some (.int p1), some (.int p2)]) (st' := [.int p1, .ref 204, .int p2, .ref 204]) 1 rfl ?_
  refine l1_ck (fun hx => ?_)
  refine l1_ald hQ mt_X12_move rfl (o := 204) rfl hx ?_
  refine l1_ck (fun hx => ?_)
  refine l1_ast hQ mt_X12_move rfl (o := 204) rfl hx (fun c1 => ?_)
  refine l1_many mt_X12_move (pc' := 13) (L' := [some (.ref 201), some (.int p1), some (.int p2)]) (st' := [.ref 201]) 1 rfl ?_
  refine l1_getR hQ mt_X12_move rfl (o := 201) (ci := 11) (k := 11) (a := 0) (b := 0) rfl rfl rfl rfl rfl (q := 206) rfl ?_
  refine l1_many mt_X12_move (pc' := 18) (L' := [some (.ref 201), some (.int p1), some (.int p2)]) (st' := [.ref 201, .int p2, .ref 206]) 2 rfl ?_
  refine l1_getR hQ mt_X12_move rfl (o := 201) (ci := 11) (k := 11) (a := 0) (b := 0) rfl rfl rfl rfl rfl (q := 206) rfl ?_
  refine l1_many mt_X12_move (pc' := 22) (L' := [some (.ref 201), some (.int p1), some (.int p2)]) (st' := [.int p1, .ref 206, .int p2, .ref 206]) 1 rfl ?_
  refine l1_ck (fun hx => ?_)
  refine l1_ald hQ mt_X12_move rfl (o := 206) rfl hx ?_
  refine l1_ck (fun hx => ?_)
  refine l1_ast hQ mt_X12_move rfl (o := 206) rfl hx (fun c2 => ?_)
  refine l1_many mt_X12_move (pc' := 25) (L' := [some (.ref 201), some (.int p1), some (.int p2)]) (st' := [.ref 201]) 1 rfl ?_
  refine l1_getR hQ mt_X12_move rfl (o := 201) (ci := 11) (k := 13) (a := 0) (b := 0) rfl rfl rfl rfl rfl (q := 208) rfl ?_
  refine l1_many mt_X12_move (pc' := 30) (L' := [some (.ref 201), some (.int p1), some (.int p2)]) (st' := [.ref 201, .int p2, .ref 208]) 2 rfl ?_
  refine l1_getR hQ mt_X12_move rfl (o := 201) (ci := 11) (k := 13) (a := 0) (b := 0) rfl rfl rfl rfl rfl (q := 208) rfl ?_
  refine l1_many mt_X12_move (pc' := 34) (L' := [some (.ref 201), some (.int p1), some (.int p2)]) (st' := [.int p1, .ref 208, .int p2, .ref 208]) 1 rfl ?_
  refine l1_ck (fun hx => ?_)
  refine l1_bld hQ mt_X12_move rfl (o := 208) rfl hx ?_
  refine l1_ck (fun hx => ?_)
  refine l1_bst hQ mt_X12_move rfl (o := 208) rfl hx (fun c3 => ?_)
  refine l1_many mt_X12_move (pc' := 38) (L' := [some (.ref 201), some (.int p1), some (.int p2), some (.int 0)]) (st' := []) 2 rfl ?_
  exact ok_X12_move_38 hQ N p1 p2 N c3 0
theorem ok_X12_move {Q : hS → am_H → Prop} (hQ : l1_em km Q) (N : Nat) (c : hS) (p1 : Int32) (p2 : Int32) : l1_T wV Q am_i_X12_move [.ref 201, .int p1, .int p2] c (f_X12_move N c p1 p2) := l1_of (en_X12_move hQ N c p1 p2) ⟨rfl, rfl, rfl, trivial⟩
set_option maxRecDepth 100000 in
theorem ok_X12_stand_115 {Q : hS → am_H → Prop} (hQ : l1_em km Q) (N : Nat) (p1 : Int32) (p2 : Int32) : ∀ n : Nat, ∀ (c : hS) (v4 : Int32) (v5 : Int32) (v6 : Int32), l1_G (wN wI) Q am_i_X12_stand 115 [some (.ref 201), none, none, none, some (.int v4), some (.int v5), some (.int v6)] [] c (f_X12_stand_115 N p1 p2 n c v4 v5 v6) := by
  intro n
  induction n with
  | zero => intro c v4 v5 v6; exact l1_none
  | succ n ih =>
    intro c v4 v5 v6
    rw [f_X12_stand_115]
    refine l1_many mt_X12_stand (pc' := 118) (L' := [some (.ref 201), none, none, none, some (.int v4), some (.int v5), some (.int v6)]) (st' := [.ref 201, .int v6]) 2 rfl ?_
    refine l1_getI hQ mt_X12_stand rfl (o := 201) (ci := 11) (k := 16) (a := 0) (b := 0) rfl rfl rfl rfl rfl ?_
    refine l1_many mt_X12_stand (pc' := bif am_cc .ge v6 (c.1 201 16) then 151 else 124) (L' := [some (.ref 201), none, none, none, some (.int v4), some (.int v5), some (.int v6)]) (st' := []) 1 rfl ?_
    refine l1_bif rfl ?_ ?_
    · refine l1_many mt_X12_stand (pc' := 152) (L' := [some (.ref 201), none, none, none, some (.int v4), some (.int v5), some (.int v6)]) (st' := [.ref 201]) 1 rfl ?_
      refine l1_getR hQ mt_X12_stand rfl (o := 201) (ci := 11) (k := 13) (a := 0) (b := 0) rfl rfl rfl rfl rfl (q := 208) rfl ?_
      refine l1_many mt_X12_stand (pc' := 158) (L' := [some (.ref 201), none, none, none, some (.int v4), some (.int v5), some (.int v6)]) (st' := [.ref 201, .int v5, .ref 208]) 2 rfl ?_
      refine l1_getI hQ mt_X12_stand rfl (o := 201) (ci := 11) (k := 18) (a := 0) (b := 0) rfl rfl rfl rfl rfl ?_
      refine l1_ck (fun hx => ?_)
      refine l1_bst hQ mt_X12_stand rfl (o := 208) rfl hx (fun c1 => ?_)
      refine l1_many mt_X12_stand (pc' := 166) (L' := [some (.ref 201), none, none, none, some (.int v4), some (.int v5), some (.int v6)]) (st' := [.int (v4 + 1)]) 3 rfl ?_
      exact l1_ret mt_X12_stand rfl rfl rfl
    · refine l1_many mt_X12_stand (pc' := 125) (L' := [some (.ref 201), none, none, none, some (.int v4), some (.int v5), some (.int v6)]) (st' := [.ref 201]) 1 rfl ?_
      refine l1_getR hQ mt_X12_stand rfl (o := 201) (ci := 11) (k := 12) (a := 0) (b := 0) rfl rfl rfl rfl rfl (q := 207) rfl ?_
      refine l1_many mt_X12_stand (pc' := 138) (L' := [some (.ref 201), none, none, none, some (.int v4), some (.int v5), some (.int v6)]) (st' := [.ref 201, .int ((400 * v5) + v6), .ref 207]) 6 rfl ?_
      refine l1_getR hQ mt_X12_stand rfl (o := 201) (ci := 11) (k := 17) (a := 0) (b := 0) rfl rfl rfl rfl rfl (q := 210) rfl ?_
      refine l1_many mt_X12_stand (pc' := 143) (L' := [some (.ref 201), none, none, none, some (.int v4), some (.int v5), some (.int v6)]) (st' := [.int v6, .ref 210, .int ((400 * v5) + v6), .ref 207]) 1 rfl ?_
      refine l1_ck (fun hx => ?_)
      refine l1_ald hQ mt_X12_stand rfl (o := 210) rfl hx ?_
      refine l1_ck (fun hx => ?_)
      refine l1_ast hQ mt_X12_stand rfl (o := 207) rfl hx (fun c2 => ?_)
      refine l1_many mt_X12_stand (pc' := 115) (L' := [some (.ref 201), none, none, none, some (.int v4), some (.int v5), some (.int (v6 + 1))]) (st' := []) 2 rfl ?_
      exact ih c2 v4 v5 (v6 + 1)
set_option maxRecDepth 100000 in
theorem ok_X12_stand_66 {Q : hS → am_H → Prop} (hQ : l1_em km Q) (N : Nat) (p1 : Int32) (p2 : Int32) : ∀ n : Nat, ∀ (c : hS) (v4 : Int32) (v5 : Int32) (v6 : Int32), l1_G (wN wI) Q am_i_X12_stand 66 [some (.ref 201), none, none, none, some (.int v4), some (.int v5), some (.int v6)] [] c (f_X12_stand_66 N p1 p2 n c v4 v5 v6) := by
  intro n
  induction n with
  | zero => intro c v4 v5 v6; exact l1_none
  | succ n ih =>
    intro c v4 v5 v6
    rw [f_X12_stand_66]
    refine l1_many mt_X12_stand (pc' := 69) (L' := [some (.ref 201), none, none, none, some (.int v4), some (.int v5), some (.int v6)]) (st' := [.ref 201, .int v6]) 2 rfl ?_
    refine l1_getI hQ mt_X12_stand rfl (o := 201) (ci := 11) (k := 14) (a := 0) (b := 0) rfl rfl rfl rfl rfl ?_
    refine l1_many mt_X12_stand (pc' := bif am_cc .ge v6 (c.1 201 14) then 101 else 75) (L' := [some (.ref 201), none, none, none, some (.int v4), some (.int v5), some (.int v6)]) (st' := []) 1 rfl ?_
    refine l1_bif rfl ?_ ?_
    · refine l1_many mt_X12_stand (pc' := 102) (L' := [some (.ref 201), none, none, none, some (.int v4), some (.int v5), some (.int v6)]) (st' := [.ref 201]) 1 rfl ?_
      refine l1_getR hQ mt_X12_stand rfl (o := 201) (ci := 11) (k := 11) (a := 0) (b := 0) rfl rfl rfl rfl rfl (q := 206) rfl ?_
      refine l1_many mt_X12_stand (pc' := 108) (L' := [some (.ref 201), none, none, none, some (.int v4), some (.int v5), some (.int v6)]) (st' := [.ref 201, .int v5, .ref 206]) 2 rfl ?_
      refine l1_getI hQ mt_X12_stand rfl (o := 201) (ci := 11) (k := 16) (a := 0) (b := 0) rfl rfl rfl rfl rfl ?_
      refine l1_ck (fun hx => ?_)
      refine l1_ast hQ mt_X12_stand rfl (o := 206) rfl hx (fun c1 => ?_)
      refine l1_many mt_X12_stand (pc' := 115) (L' := [some (.ref 201), none, none, none, some (.int v4), some (.int v5), some (.int 0)]) (st' := []) 2 rfl ?_
      exact ok_X12_stand_115 hQ N p1 p2 N c1 v4 v5 0
    · refine l1_many mt_X12_stand (pc' := 76) (L' := [some (.ref 201), none, none, none, some (.int v4), some (.int v5), some (.int v6)]) (st' := [.ref 201]) 1 rfl ?_
      refine l1_getR hQ mt_X12_stand rfl (o := 201) (ci := 11) (k := 10) (a := 0) (b := 0) rfl rfl rfl rfl rfl (q := 205) rfl ?_
      refine l1_many mt_X12_stand (pc' := 88) (L' := [some (.ref 201), none, none, none, some (.int v4), some (.int v5), some (.int v6)]) (st' := [.ref 201, .int ((90 * v5) + v6), .ref 205]) 6 rfl ?_
      refine l1_getR hQ mt_X12_stand rfl (o := 201) (ci := 11) (k := 15) (a := 0) (b := 0) rfl rfl rfl rfl rfl (q := 209) rfl ?_
      refine l1_many mt_X12_stand (pc' := 93) (L' := [some (.ref 201), none, none, none, some (.int v4), some (.int v5), some (.int v6)]) (st' := [.int v6, .ref 209, .int ((90 * v5) + v6), .ref 205]) 1 rfl ?_
      refine l1_ck (fun hx => ?_)
      refine l1_ald hQ mt_X12_stand rfl (o := 209) rfl hx ?_
      refine l1_ck (fun hx => ?_)
      refine l1_ast hQ mt_X12_stand rfl (o := 205) rfl hx (fun c2 => ?_)
      refine l1_many mt_X12_stand (pc' := 66) (L' := [some (.ref 201), none, none, none, some (.int v4), some (.int v5), some (.int (v6 + 1))]) (st' := []) 2 rfl ?_
      exact ih c2 v4 v5 (v6 + 1)
set_option maxRecDepth 100000 in
theorem ok_X12_stand_46 {Q : hS → am_H → Prop} (hQ : l1_em km Q) (N : Nat) (p1 : Int32) (p2 : Int32) : ∀ (c : hS) (v4 : Int32), l1_G (wN wI) Q am_i_X12_stand 46 [some (.ref 201), some (.int p1), none, none, some (.int v4)] [] c (f_X12_stand_46 N p1 p2 c v4) := by
  intro c v4
  rw [f_X12_stand_46]
  refine l1_many mt_X12_stand (pc' := 53) (L' := [some (.ref 201), some (.int p1), none, none, some (.int v4), some (.int (p1 + v4))]) (st' := [.ref 201]) 5 rfl ?_
  refine l1_getR hQ mt_X12_stand rfl (o := 201) (ci := 11) (k := 9) (a := 0) (b := 0) rfl rfl rfl rfl rfl (q := 204) rfl ?_
  refine l1_many mt_X12_stand (pc' := 59) (L' := [some (.ref 201), some (.int p1), none, none, some (.int v4), some (.int (p1 + v4))]) (st' := [.ref 201, .int (p1 + v4), .ref 204]) 2 rfl ?_
  refine l1_getI hQ mt_X12_stand rfl (o := 201) (ci := 11) (k := 14) (a := 0) (b := 0) rfl rfl rfl rfl rfl ?_
  refine l1_ck (fun hx => ?_)
  refine l1_ast hQ mt_X12_stand rfl (o := 204) rfl hx (fun c1 => ?_)
  refine l1_many mt_X12_stand (pc' := 66) (L' := [some (.ref 201), some (.int p1), none, none, some (.int v4), some (.int (p1 + v4)), some (.int 0)]) (st' := []) 2 rfl ?_
  refine l1_weak (m := [true, false, false, false, true, true, true]) (L' := [some (.ref 201), none, none, none, some (.int v4), some (.int (p1 + v4)), some (.int 0)]) rfl ?_
  exact ok_X12_stand_66 hQ N p1 p2 N c1 v4 (p1 + v4) 0
set_option maxRecDepth 100000 in
theorem ok_X12_stand_17 {Q : hS → am_H → Prop} (hQ : l1_em km Q) (N : Nat) (p1 : Int32) (p2 : Int32) : ∀ n : Nat, ∀ (c : hS) (v4 : Int32) (v5 : Int32), l1_G (wN wI) Q am_i_X12_stand 17 [some (.ref 201), some (.int p1), some (.int p2), none, some (.int v4), some (.int v5)] [] c (f_X12_stand_17 N p1 p2 n c v4 v5) := by
  intro n
  induction n with
  | zero => intro c v4 v5; exact l1_none
  | succ n ih =>
    intro c v4 v5
    rw [f_X12_stand_17]
    refine l1_many mt_X12_stand (pc' := bif am_cc .ge (v5 + 1) (p1 + p2) then 43 else 27) (L' := [some (.ref 201), some (.int p1), some (.int p2), none, some (.int v4), some (.int v5)]) (st' := []) 7 rfl ?_
    refine l1_bif rfl ?_ ?_
    · refine l1_many mt_X12_stand (pc' := 46) (L' := [some (.ref 201), some (.int p1), some (.int p2), none, some (.int (v4 + (-1))), some (.int v5)]) (st' := []) 1 rfl ?_
      refine l1_weak (m := [true, true, false, false, true, false, false]) (L' := [some (.ref 201), some (.int p1), none, none, some (.int (v4 + (-1)))]) rfl ?_
      exact ok_X12_stand_46 hQ N p1 p2 c (v4 + (-1))
    · refine l1_many mt_X12_stand (pc' := 34) (L' := [some (.ref 201), some (.int p1), some (.int p2), none, some (.int v4), some (.int v5)]) (st' := [.int v5, .int (v5 + 1), .ref 201]) 5 rfl ?_
      refine l1_callV hQ mt_X12_stand mt_X12_move rfl rfl (o := 201) (ci := 11) (As := [.int (v5 + 1), .int v5]) (rest := []) rfl rfl rfl rfl rfl rfl (st1 := fun _ => []) (fun _ => rfl) (ok_X12_move hQ N c (v5 + 1) v5) (fun _ c1 => ?_)
      refine l1_many mt_X12_stand (pc' := 17) (L' := [some (.ref 201), some (.int p1), some (.int p2), none, some (.int v4), some (.int (v5 + 1))]) (st' := []) 2 rfl ?_
      exact ih c1 v4 (v5 + 1)
set_option maxRecDepth 100000 in
theorem en_X12_stand {Q : hS → am_H → Prop} (hQ : l1_em km Q) (N : Nat) (c : hS) (p1 : Int32) (p2 : Int32) : l1_G (wN wI) Q am_i_X12_stand 0 [some (.ref 201), some (.int p1), some (.int p2)] [] c (f_X12_stand N c p1 p2) := by
  rw [f_X12_stand]
  refine l1_many mt_X12_stand (pc' := 3) (L' := [some (.ref 201), some (.int p1), some (.int p2)]) (st' := [.int p2, .int p1, .ref 201]) 3 rfl ?_
  refine l1_callV hQ mt_X12_stand mt_X12_seek rfl rfl (o := 201) (ci := 11) (As := [.int p1, .int p2]) (rest := []) rfl rfl rfl rfl rfl rfl (st1 := fun x1 => [.int x1]) (fun _ => rfl) (ok_X12_seek hQ N c p1 p2) (fun x1 c2 => ?_)
  refine l1_many mt_X12_stand (pc' := bif am_cc .lt x1 0 then 46 else 14) (L' := [some (.ref 201), some (.int p1), some (.int p2), some (.int x1), some (.int p2)]) (st' := []) 5 rfl ?_
  refine l1_bif rfl ?_ ?_
  · refine l1_weak (m := [true, true, false, false, true, false, false]) (L' := [some (.ref 201), some (.int p1), none, none, some (.int p2)]) rfl ?_
    exact ok_X12_stand_46 hQ N p1 p2 c2 p2
  · refine l1_many mt_X12_stand (pc' := 17) (L' := [some (.ref 201), some (.int p1), some (.int p2), some (.int x1), some (.int p2), some (.int x1)]) (st' := []) 2 rfl ?_
    refine l1_weak (m := [true, true, true, false, true, true, false]) (L' := [some (.ref 201), some (.int p1), some (.int p2), none, some (.int p2), some (.int x1)]) rfl ?_
    exact ok_X12_stand_17 hQ N p1 p2 N c2 p2 x1
theorem ok_X12_stand {Q : hS → am_H → Prop} (hQ : l1_em km Q) (N : Nat) (c : hS) (p1 : Int32) (p2 : Int32) : l1_T wI Q am_i_X12_stand [.ref 201, .int p1, .int p2] c (f_X12_stand N c p1 p2) := l1_of (en_X12_stand hQ N c p1 p2) ⟨rfl, rfl, rfl, trivial⟩
set_option maxRecDepth 100000 in
theorem ok_X12_come_193 {Q : hS → am_H → Prop} (hQ : l1_em km Q) (N : Nat) (p1 : Int32) (p2 : Int32) : ∀ n : Nat, ∀ (c : hS) (v3 : Int32), l1_G (wN wI) Q am_i_X12_come 193 [some (.ref 201), some (.int p1), none, some (.int v3)] [] c (f_X12_come_193 N p1 p2 n c v3) := by
  intro n
  induction n with
  | zero => intro c v3; exact l1_none
  | succ n ih =>
    intro c v3
    rw [f_X12_come_193]
    refine l1_many mt_X12_come (pc' := 195) (L' := [some (.ref 201), some (.int p1), none, some (.int v3)]) (st' := [.ref 201, .int v3]) 2 rfl ?_
    refine l1_getI hQ mt_X12_come rfl (o := 201) (ci := 11) (k := 16) (a := 0) (b := 0) rfl rfl rfl rfl rfl ?_
    refine l1_many mt_X12_come (pc' := bif am_cc .ge v3 (c.1 201 16) then 221 else 201) (L' := [some (.ref 201), some (.int p1), none, some (.int v3)]) (st' := []) 1 rfl ?_
    refine l1_bif rfl ?_ ?_
    · refine l1_many mt_X12_come (pc' := 225) (L' := [some (.ref 201), some (.int p1), none, some (.int v3)]) (st' := [.ref 201, .int 0, .ref 201, .ref 201]) 4 rfl ?_
      refine l1_getI hQ mt_X12_come rfl (o := 201) (ci := 11) (k := 7) (a := 0) (b := 0) rfl rfl rfl rfl rfl ?_
      refine l1_callV hQ mt_X12_come mt_X12_stand rfl rfl (o := 201) (ci := 11) (As := [.int 0, .int (c.1 201 7)]) (rest := [.ref 201]) rfl rfl rfl rfl rfl rfl (st1 := fun x1 => [.int x1, .ref 201]) (fun _ => rfl) (ok_X12_stand hQ N c 0 (c.1 201 7)) (fun x1 c2 => ?_)
      refine l1_putI hQ mt_X12_come rfl (o := 201) (ci := 11) (k := 7) (a := 0) rfl rfl rfl rfl rfl rfl (fun c3 => ?_)
      refine l1_many mt_X12_come (pc' := 236) (L' := [some (.ref 201), some (.int p1), none, some (.int v3)]) (st' := [.int 0, .ref 201]) 2 rfl ?_
      refine l1_putI hQ mt_X12_come rfl (o := 201) (ci := 11) (k := 2) (a := 0) rfl rfl rfl rfl rfl rfl (fun c4 => ?_)
      refine l1_many mt_X12_come (pc' := 240) (L' := [some (.ref 201), some (.int p1), none, some (.int v3)]) (st' := [.ref 201]) 1 rfl ?_
      refine l1_getI hQ mt_X12_come rfl (o := 201) (ci := 11) (k := 7) (a := 0) (b := 0) rfl rfl rfl rfl rfl ?_
      exact l1_ret mt_X12_come rfl rfl rfl
    · refine l1_many mt_X12_come (pc' := 202) (L' := [some (.ref 201), some (.int p1), none, some (.int v3)]) (st' := [.ref 201]) 1 rfl ?_
      refine l1_getR hQ mt_X12_come rfl (o := 201) (ci := 11) (k := 17) (a := 0) (b := 0) rfl rfl rfl rfl rfl (q := 210) rfl ?_
      refine l1_many mt_X12_come (pc' := 207) (L' := [some (.ref 201), some (.int p1), none, some (.int v3)]) (st' := [.ref 201, .int v3, .ref 210]) 2 rfl ?_
      refine l1_getR hQ mt_X12_come rfl (o := 201) (ci := 11) (k := 1) (a := 0) (b := 0) rfl rfl rfl rfl rfl (q := 202) rfl ?_
      refine l1_many mt_X12_come (pc' := 213) (L' := [some (.ref 201), some (.int p1), none, some (.int v3)]) (st' := [.int (p1 + v3), .ref 202, .int v3, .ref 210]) 3 rfl ?_
      refine l1_ck (fun hx => ?_)
      refine l1_ald hQ mt_X12_come rfl (o := 202) rfl hx ?_
      refine l1_ck (fun hx => ?_)
      refine l1_ast hQ mt_X12_come rfl (o := 210) rfl hx (fun c5 => ?_)
      refine l1_many mt_X12_come (pc' := 193) (L' := [some (.ref 201), some (.int p1), none, some (.int (v3 + 1))]) (st' := []) 2 rfl ?_
      exact ih c5 (v3 + 1)
set_option maxRecDepth 100000 in
theorem ok_X12_come_182 {Q : hS → am_H → Prop} (hQ : l1_em km Q) (N : Nat) (p1 : Int32) (p2 : Int32) : ∀ (c : hS) (w0 : Int32), l1_G (wN wI) Q am_i_X12_come 182 [some (.ref 201), some (.int p1)] [.int w0, .ref 201] c (f_X12_come_182 N p1 p2 c w0) := by
  intro c w0
  rw [f_X12_come_182]
  refine l1_many mt_X12_come (pc' := 183) (L' := [some (.ref 201), some (.int p1)]) (st' := [.int 3, .int w0, .ref 201]) 1 rfl ?_
  refine l1_callV hQ mt_X12_come mt_X12_refuses rfl rfl (o := 201) (ci := 11) (As := [.int w0, .int 3]) (rest := []) rfl rfl rfl rfl rfl rfl (st1 := fun x1 => [.int x1]) (fun _ => rfl) (ok_X12_refuses hQ c w0 3) (fun x1 c2 => ?_)
  refine l1_many mt_X12_come (pc' := bif am_cc .eq x1 0 then 191 else 189) (L' := [some (.ref 201), some (.int p1)]) (st' := []) 1 rfl ?_
  refine l1_bif rfl ?_ ?_
  · refine l1_many mt_X12_come (pc' := 193) (L' := [some (.ref 201), some (.int p1), none, some (.int 0)]) (st' := []) 2 rfl ?_
    exact ok_X12_come_193 hQ N p1 p2 N c2 0
  · refine l1_many mt_X12_come (pc' := 190) (L' := [some (.ref 201), some (.int p1)]) (st' := [.int 0]) 1 rfl ?_
    exact l1_ret mt_X12_come rfl rfl rfl
set_option maxRecDepth 100000 in
theorem ok_X12_come_181 {Q : hS → am_H → Prop} (hQ : l1_em km Q) (N : Nat) (p1 : Int32) (p2 : Int32) : ∀ (c : hS), l1_G (wN wI) Q am_i_X12_come 181 [some (.ref 201), some (.int p1)] [.ref 201] c (f_X12_come_181 N p1 p2 c) := by
  intro c
  rw [f_X12_come_181]
  refine l1_many mt_X12_come (pc' := 182) (L' := [some (.ref 201), some (.int p1)]) (st' := [.int 0, .ref 201]) 1 rfl ?_
  exact ok_X12_come_182 hQ N p1 p2 c 0
set_option maxRecDepth 100000 in
theorem ok_X12_come_129 {Q : hS → am_H → Prop} (hQ : l1_em km Q) (N : Nat) (p1 : Int32) (p2 : Int32) : ∀ (c : hS) (w0 : Int32), l1_G (wN wI) Q am_i_X12_come 129 [some (.ref 201), some (.int p1)] [.int w0, .ref 201] c (f_X12_come_129 N p1 p2 c w0) := by
  intro c w0
  rw [f_X12_come_129]
  refine l1_many mt_X12_come (pc' := 130) (L' := [some (.ref 201), some (.int p1)]) (st' := [.int 1, .int w0, .ref 201]) 1 rfl ?_
  refine l1_callV hQ mt_X12_come mt_X12_refuses rfl rfl (o := 201) (ci := 11) (As := [.int w0, .int 1]) (rest := []) rfl rfl rfl rfl rfl rfl (st1 := fun x1 => [.int x1]) (fun _ => rfl) (ok_X12_refuses hQ c w0 1) (fun x1 c2 => ?_)
  refine l1_many mt_X12_come (pc' := bif am_cc .ne x1 0 then 153 else 136) (L' := [some (.ref 201), some (.int p1)]) (st' := []) 1 rfl ?_
  refine l1_bin rfl ?_ ?_
  · refine l1_many mt_X12_come (pc' := 140) (L' := [some (.ref 201), some (.int p1)]) (st' := [.ref 201, .int 0, .ref 201, .ref 201]) 4 rfl ?_
    refine l1_getI hQ mt_X12_come rfl (o := 201) (ci := 11) (k := 7) (a := 0) (b := 0) rfl rfl rfl rfl rfl ?_
    refine l1_callV hQ mt_X12_come mt_X12_isInTheWay rfl rfl (o := 201) (ci := 11) (As := [.int 0, .int (c2.1 201 7)]) (rest := [.ref 201]) rfl rfl rfl rfl rfl rfl (st1 := fun x3 => [.int x3, .ref 201]) (fun _ => rfl) (ok_X12_isInTheWay hQ N c2 0 (c2.1 201 7)) (fun x3 c4 => ?_)
    refine l1_many mt_X12_come (pc' := 147) (L' := [some (.ref 201), some (.int p1)]) (st' := [.int 2, .int x3, .ref 201]) 1 rfl ?_
    refine l1_callV hQ mt_X12_come mt_X12_refuses rfl rfl (o := 201) (ci := 11) (As := [.int x3, .int 2]) (rest := []) rfl rfl rfl rfl rfl rfl (st1 := fun x5 => [.int x5]) (fun _ => rfl) (ok_X12_refuses hQ c4 x3 2) (fun x5 c6 => ?_)
    refine l1_many mt_X12_come (pc' := bif am_cc .eq x5 0 then 155 else 153) (L' := [some (.ref 201), some (.int p1)]) (st' := []) 1 rfl ?_
    refine l1_bif rfl ?_ ?_
    · refine l1_many mt_X12_come (pc' := 157) (L' := [some (.ref 201), some (.int p1)]) (st' := [.ref 201, .ref 201]) 2 rfl ?_
      refine l1_getI hQ mt_X12_come rfl (o := 201) (ci := 11) (k := 7) (a := 0) (b := 0) rfl rfl rfl rfl rfl ?_
      refine l1_many mt_X12_come (pc' := bif am_cc .ne (c6.1 201 7) 16 then 181 else 165) (L' := [some (.ref 201), some (.int p1)]) (st' := [.ref 201]) 2 rfl ?_
      refine l1_bin rfl ?_ ?_
      · refine l1_many mt_X12_come (pc' := 168) (L' := [some (.ref 201), some (.int p1)]) (st' := [.ref 201, .int 0, .ref 201, .ref 201]) 3 rfl ?_
        refine l1_getI hQ mt_X12_come rfl (o := 201) (ci := 11) (k := 7) (a := 0) (b := 0) rfl rfl rfl rfl rfl ?_
        refine l1_callV hQ mt_X12_come mt_X12_seek rfl rfl (o := 201) (ci := 11) (As := [.int 0, .int (c6.1 201 7)]) (rest := [.ref 201]) rfl rfl rfl rfl rfl rfl (st1 := fun x7 => [.int x7, .ref 201]) (fun _ => rfl) (ok_X12_seek hQ N c6 0 (c6.1 201 7)) (fun x7 c8 => ?_)
        refine l1_many mt_X12_come (pc' := bif am_cc .ge x7 0 then 181 else 177) (L' := [some (.ref 201), some (.int p1)]) (st' := [.ref 201]) 1 rfl ?_
        refine l1_bif rfl ?_ ?_
        · exact ok_X12_come_181 hQ N p1 p2 c8
        · refine l1_many mt_X12_come (pc' := 182) (L' := [some (.ref 201), some (.int p1)]) (st' := [.int 1, .ref 201]) 2 rfl ?_
          exact ok_X12_come_182 hQ N p1 p2 c8 1
      · exact ok_X12_come_181 hQ N p1 p2 c6
    · refine l1_many mt_X12_come (pc' := 154) (L' := [some (.ref 201), some (.int p1)]) (st' := [.int 0]) 1 rfl ?_
      exact l1_ret mt_X12_come rfl rfl rfl
  · refine l1_many mt_X12_come (pc' := 154) (L' := [some (.ref 201), some (.int p1)]) (st' := [.int 0]) 1 rfl ?_
    exact l1_ret mt_X12_come rfl rfl rfl
set_option maxRecDepth 100000 in
theorem ok_X12_come_124 {Q : hS → am_H → Prop} (hQ : l1_em km Q) (N : Nat) (p1 : Int32) (p2 : Int32) : ∀ (c : hS), l1_G (wN wI) Q am_i_X12_come 124 [some (.ref 201), some (.int p1)] [.ref 201] c (f_X12_come_124 N p1 p2 c) := by
  intro c
  rw [f_X12_come_124]
  refine l1_many mt_X12_come (pc' := 129) (L' := [some (.ref 201), some (.int p1)]) (st' := [.int 1, .ref 201]) 2 rfl ?_
  exact ok_X12_come_129 hQ N p1 p2 c 1
set_option maxRecDepth 100000 in
theorem ok_X12_come_114 {Q : hS → am_H → Prop} (hQ : l1_em km Q) (N : Nat) (p1 : Int32) (p2 : Int32) : ∀ (c : hS), l1_G (wN wI) Q am_i_X12_come 114 [some (.ref 201), some (.int p1)] [.ref 201] c (f_X12_come_114 N p1 p2 c) := by
  intro c
  rw [f_X12_come_114]
  refine l1_many mt_X12_come (pc' := 115) (L' := [some (.ref 201), some (.int p1)]) (st' := [.ref 201, .ref 201]) 1 rfl ?_
  refine l1_getI hQ mt_X12_come rfl (o := 201) (ci := 11) (k := 16) (a := 0) (b := 0) rfl rfl rfl rfl rfl ?_
  refine l1_many mt_X12_come (pc' := bif am_cc .le (c.1 201 16) 400 then 128 else 124) (L' := [some (.ref 201), some (.int p1)]) (st' := [.ref 201]) 2 rfl ?_
  refine l1_bif rfl ?_ ?_
  · refine l1_many mt_X12_come (pc' := 129) (L' := [some (.ref 201), some (.int p1)]) (st' := [.int 0, .ref 201]) 1 rfl ?_
    exact ok_X12_come_129 hQ N p1 p2 c 0
  · exact ok_X12_come_124 hQ N p1 p2 c
set_option maxRecDepth 100000 in
theorem ok_X12_come_54 {Q : hS → am_H → Prop} (hQ : l1_em km Q) (N : Nat) (p1 : Int32) (p2 : Int32) : ∀ n : Nat, ∀ (c : hS) (v3 : Int32), l1_G (wN wI) Q am_i_X12_come 54 [some (.ref 201), some (.int p1), some (.int p2), some (.int v3)] [] c (f_X12_come_54 N p1 p2 n c v3) := by
  intro n
  induction n with
  | zero => intro c v3; exact l1_none
  | succ n ih =>
    intro c v3
    rw [f_X12_come_54]
    refine l1_many mt_X12_come (pc' := 56) (L' := [some (.ref 201), some (.int p1), some (.int p2), some (.int v3)]) (st' := [.ref 201, .int v3]) 2 rfl ?_
    refine l1_getI hQ mt_X12_come rfl (o := 201) (ci := 11) (k := 14) (a := 0) (b := 0) rfl rfl rfl rfl rfl ?_
    refine l1_many mt_X12_come (pc' := bif am_cc .ge v3 (c.1 201 14) then 80 else 62) (L' := [some (.ref 201), some (.int p1), some (.int p2), some (.int v3)]) (st' := []) 1 rfl ?_
    refine l1_bif rfl ?_ ?_
    · refine l1_many mt_X12_come (pc' := 82) (L' := [some (.ref 201), some (.int p1), some (.int p2), some (.int v3)]) (st' := [.ref 201, .ref 201]) 2 rfl ?_
      refine l1_getI hQ mt_X12_come rfl (o := 201) (ci := 11) (k := 2) (a := 0) (b := 0) rfl rfl rfl rfl rfl ?_
      refine l1_many mt_X12_come (pc' := 87) (L' := [some (.ref 201), some (.int p1), some (.int p2), some (.int v3)]) (st' := [.int ((c.1 201 2) - p1), .ref 201]) 2 rfl ?_
      refine l1_putI hQ mt_X12_come rfl (o := 201) (ci := 11) (k := 16) (a := 0) rfl rfl rfl rfl rfl rfl (fun c1 => ?_)
      refine l1_many mt_X12_come (pc' := 92) (L' := [some (.ref 201), some (.int p1), some (.int p2), some (.int v3)]) (st' := [.int p2, .ref 201]) 2 rfl ?_
      refine l1_ck (fun hz => ?_)
      refine l1_putI hQ mt_X12_come rfl (o := 201) (ci := 11) (k := 18) (a := 0) rfl rfl rfl rfl rfl (l1_fz (ci := 11) (j := 18) rfl hz) (fun c2 => ?_)
      refine l1_many mt_X12_come (pc' := 97) (L' := [some (.ref 201), some (.int p1), some (.int p2), some (.int v3)]) (st' := [.ref 201, .ref 201]) 2 rfl ?_
      refine l1_callV hQ mt_X12_come mt_X12_isName rfl rfl (o := 201) (ci := 11) (As := []) (rest := [.ref 201]) rfl rfl rfl rfl rfl rfl (st1 := fun x3 => [.int x3, .ref 201]) (fun _ => rfl) (ok_X12_isName hQ N c2) (fun x3 c4 => ?_)
      refine l1_many mt_X12_come (pc' := bif am_cc .eq x3 0 then 124 else 103) (L' := [some (.ref 201), some (.int p1), some (.int p2), some (.int v3)]) (st' := [.ref 201]) 1 rfl ?_
      refine l1_bif rfl ?_ ?_
      · refine l1_weak (m := [true, true, false, false]) (L' := [some (.ref 201), some (.int p1)]) rfl ?_
        exact ok_X12_come_124 hQ N p1 p2 c4
      · refine l1_many mt_X12_come (pc' := bif am_cc .eq p2 0 then 114 else 107) (L' := [some (.ref 201), some (.int p1), some (.int p2), some (.int v3)]) (st' := [.ref 201]) 2 rfl ?_
        refine l1_bif rfl ?_ ?_
        · refine l1_weak (m := [true, true, false, false]) (L' := [some (.ref 201), some (.int p1)]) rfl ?_
          exact ok_X12_come_114 hQ N p1 p2 c4
        · refine l1_many mt_X12_come (pc' := 108) (L' := [some (.ref 201), some (.int p1), some (.int p2), some (.int v3)]) (st' := [.ref 201, .ref 201]) 1 rfl ?_
          refine l1_getI hQ mt_X12_come rfl (o := 201) (ci := 11) (k := 16) (a := 0) (b := 0) rfl rfl rfl rfl rfl ?_
          refine l1_many mt_X12_come (pc' := bif am_cc .gt (c4.1 201 16) 0 then 124 else 114) (L' := [some (.ref 201), some (.int p1), some (.int p2), some (.int v3)]) (st' := [.ref 201]) 1 rfl ?_
          refine l1_bif rfl ?_ ?_
          · refine l1_weak (m := [true, true, false, false]) (L' := [some (.ref 201), some (.int p1)]) rfl ?_
            exact ok_X12_come_124 hQ N p1 p2 c4
          · refine l1_weak (m := [true, true, false, false]) (L' := [some (.ref 201), some (.int p1)]) rfl ?_
            exact ok_X12_come_114 hQ N p1 p2 c4
    · refine l1_many mt_X12_come (pc' := 63) (L' := [some (.ref 201), some (.int p1), some (.int p2), some (.int v3)]) (st' := [.ref 201]) 1 rfl ?_
      refine l1_getR hQ mt_X12_come rfl (o := 201) (ci := 11) (k := 15) (a := 0) (b := 0) rfl rfl rfl rfl rfl (q := 209) rfl ?_
      refine l1_many mt_X12_come (pc' := 68) (L' := [some (.ref 201), some (.int p1), some (.int p2), some (.int v3)]) (st' := [.ref 201, .int v3, .ref 209]) 2 rfl ?_
      refine l1_getR hQ mt_X12_come rfl (o := 201) (ci := 11) (k := 1) (a := 0) (b := 0) rfl rfl rfl rfl rfl (q := 202) rfl ?_
      refine l1_many mt_X12_come (pc' := 72) (L' := [some (.ref 201), some (.int p1), some (.int p2), some (.int v3)]) (st' := [.int v3, .ref 202, .int v3, .ref 209]) 1 rfl ?_
      refine l1_ck (fun hx => ?_)
      refine l1_ald hQ mt_X12_come rfl (o := 202) rfl hx ?_
      refine l1_ck (fun hx => ?_)
      refine l1_ast hQ mt_X12_come rfl (o := 209) rfl hx (fun c5 => ?_)
      refine l1_many mt_X12_come (pc' := 54) (L' := [some (.ref 201), some (.int p1), some (.int p2), some (.int (v3 + 1))]) (st' := []) 2 rfl ?_
      exact ih c5 (v3 + 1)
set_option maxRecDepth 100000 in
theorem ok_X12_come_25 {Q : hS → am_H → Prop} (hQ : l1_em km Q) (N : Nat) (p1 : Int32) (p2 : Int32) : ∀ (c : hS) (w0 : Int32), l1_G (wN wI) Q am_i_X12_come 25 [some (.ref 201), some (.int p1), some (.int p2)] [.int w0, .ref 201] c (f_X12_come_25 N p1 p2 c w0) := by
  intro c w0
  rw [f_X12_come_25]
  refine l1_many mt_X12_come (pc' := 26) (L' := [some (.ref 201), some (.int p1), some (.int p2)]) (st' := [.int 1, .int w0, .ref 201]) 1 rfl ?_
  refine l1_callV hQ mt_X12_come mt_X12_refuses rfl rfl (o := 201) (ci := 11) (As := [.int w0, .int 1]) (rest := []) rfl rfl rfl rfl rfl rfl (st1 := fun x1 => [.int x1]) (fun _ => rfl) (ok_X12_refuses hQ c w0 1) (fun x1 c2 => ?_)
  refine l1_many mt_X12_come (pc' := bif am_cc .eq x1 0 then 34 else 32) (L' := [some (.ref 201), some (.int p1), some (.int p2)]) (st' := []) 1 rfl ?_
  refine l1_bif rfl ?_ ?_
  · refine l1_many mt_X12_come (pc' := bif am_cc .ge p1 300 then 46 else 42) (L' := [some (.ref 201), some (.int p1), some (.int p2)]) (st' := [.ref 201]) 4 rfl ?_
    refine l1_bif rfl ?_ ?_
    · refine l1_many mt_X12_come (pc' := 49) (L' := [some (.ref 201), some (.int p1), some (.int p2)]) (st' := [.int 299, .ref 201]) 1 rfl ?_
      refine l1_putI hQ mt_X12_come rfl (o := 201) (ci := 11) (k := 14) (a := 0) rfl rfl rfl rfl rfl rfl (fun c3 => ?_)
      refine l1_many mt_X12_come (pc' := 54) (L' := [some (.ref 201), some (.int p1), some (.int p2), some (.int 0)]) (st' := []) 2 rfl ?_
      exact ok_X12_come_54 hQ N p1 p2 N c3 0
    · refine l1_many mt_X12_come (pc' := 49) (L' := [some (.ref 201), some (.int p1), some (.int p2)]) (st' := [.int p1, .ref 201]) 2 rfl ?_
      refine l1_putI hQ mt_X12_come rfl (o := 201) (ci := 11) (k := 14) (a := 0) rfl rfl rfl rfl rfl rfl (fun c4 => ?_)
      refine l1_many mt_X12_come (pc' := 54) (L' := [some (.ref 201), some (.int p1), some (.int p2), some (.int 0)]) (st' := []) 2 rfl ?_
      exact ok_X12_come_54 hQ N p1 p2 N c4 0
  · refine l1_many mt_X12_come (pc' := 33) (L' := [some (.ref 201), some (.int p1), some (.int p2)]) (st' := [.int 0]) 1 rfl ?_
    exact l1_ret mt_X12_come rfl rfl rfl
set_option maxRecDepth 100000 in
theorem en_X12_come {Q : hS → am_H → Prop} (hQ : l1_em km Q) (N : Nat) (c : hS) (p1 : Int32) (p2 : Int32) : l1_G (wN wI) Q am_i_X12_come 0 [some (.ref 201), some (.int p1), some (.int p2)] [] c (f_X12_come N c p1 p2) := by
  rw [f_X12_come]
  refine l1_many mt_X12_come (pc' := 2) (L' := [some (.ref 201), some (.int p1), some (.int p2)]) (st' := [.int 0, .ref 201]) 2 rfl ?_
  refine l1_putI hQ mt_X12_come rfl (o := 201) (ci := 11) (k := 0) (a := 0) rfl rfl rfl rfl rfl rfl (fun c1 => ?_)
  refine l1_many mt_X12_come (pc' := 10) (L' := [some (.ref 201), some (.int p1), some (.int p2)]) (st' := [.ref 201, .long 0, .long p1.toInt64, .ref 201]) 5 rfl ?_
  refine l1_getI hQ mt_X12_come rfl (o := 201) (ci := 11) (k := 2) (a := 0) (b := 0) rfl rfl rfl rfl rfl ?_
  refine l1_many mt_X12_come (pc' := 14) (L' := [some (.ref 201), some (.int p1), some (.int p2)]) (st' := [.long ((c1.1 201 2).toInt64), .long 0, .long p1.toInt64, .ref 201]) 1 rfl ?_
  refine l1_callS mt_X12_come mt_X12_in rfl rfl (As := [.long p1.toInt64, .long 0, .long ((c1.1 201 2).toInt64)]) (rest := [.ref 201]) rfl rfl rfl (st1 := fun x2 => [.int x2, .ref 201]) (fun _ => rfl) (ok_X12_in hQ c1 p1.toInt64 0 ((c1.1 201 2).toInt64)) (fun x2 c3 => ?_)
  refine l1_many mt_X12_come (pc' := bif am_cc .ne x2 0 then 24 else 20) (L' := [some (.ref 201), some (.int p1), some (.int p2)]) (st' := [.ref 201]) 1 rfl ?_
  refine l1_bin rfl ?_ ?_
  · refine l1_many mt_X12_come (pc' := 25) (L' := [some (.ref 201), some (.int p1), some (.int p2)]) (st' := [.int 1, .ref 201]) 2 rfl ?_
    exact ok_X12_come_25 hQ N p1 p2 c3 1
  · refine l1_many mt_X12_come (pc' := 25) (L' := [some (.ref 201), some (.int p1), some (.int p2)]) (st' := [.int 0, .ref 201]) 1 rfl ?_
    exact ok_X12_come_25 hQ N p1 p2 c3 0
theorem ok_X12_come {Q : hS → am_H → Prop} (hQ : l1_em km Q) (N : Nat) (c : hS) (p1 : Int32) (p2 : Int32) : l1_T wI Q am_i_X12_come [.ref 201, .int p1, .int p2] c (f_X12_come N c p1 p2) := l1_of (en_X12_come hQ N c p1 p2) ⟨rfl, rfl, rfl, trivial⟩
set_option maxRecDepth 100000 in
theorem ok_X12_go_48 {Q : hS → am_H → Prop} (hQ : l1_em km Q) (N : Nat) (p1 : Int32) : ∀ n : Nat, ∀ (c : hS) (v2 : Int32), l1_G (wN wI) Q am_i_X12_go 48 [some (.ref 201), none, some (.int v2)] [] c (f_X12_go_48 N p1 n c v2) := by
  intro n
  induction n with
  | zero => intro c v2; exact l1_none
  | succ n ih =>
    intro c v2
    rw [f_X12_go_48]
    refine l1_many mt_X12_go (pc' := 50) (L' := [some (.ref 201), none, some (.int v2)]) (st' := [.ref 201, .int v2]) 2 rfl ?_
    refine l1_getI hQ mt_X12_go rfl (o := 201) (ci := 11) (k := 7) (a := 0) (b := 0) rfl rfl rfl rfl rfl ?_
    refine l1_many mt_X12_go (pc' := bif am_cc .ge v2 (c.1 201 7) then 70 else 56) (L' := [some (.ref 201), none, some (.int v2)]) (st' := []) 1 rfl ?_
    refine l1_bif rfl ?_ ?_
    · refine l1_many mt_X12_go (pc' := 71) (L' := [some (.ref 201), none, some (.int v2)]) (st' := [.ref 201]) 1 rfl ?_
      refine l1_getI hQ mt_X12_go rfl (o := 201) (ci := 11) (k := 7) (a := 0) (b := 0) rfl rfl rfl rfl rfl ?_
      exact l1_ret mt_X12_go rfl rfl rfl
    · refine l1_many mt_X12_go (pc' := 61) (L' := [some (.ref 201), none, some (.int v2)]) (st' := [.int v2, .int (v2 + 1), .ref 201]) 5 rfl ?_
      refine l1_callV hQ mt_X12_go mt_X12_move rfl rfl (o := 201) (ci := 11) (As := [.int (v2 + 1), .int v2]) (rest := []) rfl rfl rfl rfl rfl rfl (st1 := fun _ => []) (fun _ => rfl) (ok_X12_move hQ N c (v2 + 1) v2) (fun _ c1 => ?_)
      refine l1_many mt_X12_go (pc' := 48) (L' := [some (.ref 201), none, some (.int (v2 + 1))]) (st' := []) 2 rfl ?_
      exact ih c1 (v2 + 1)
set_option maxRecDepth 100000 in
theorem ok_X12_go_27 {Q : hS → am_H → Prop} (hQ : l1_em km Q) (N : Nat) (p1 : Int32) : ∀ (c : hS) (w0 : Int32), l1_G (wN wI) Q am_i_X12_go 27 [some (.ref 201), some (.int p1)] [.int w0, .ref 201] c (f_X12_go_27 N p1 c w0) := by
  intro c w0
  rw [f_X12_go_27]
  refine l1_many mt_X12_go (pc' := 28) (L' := [some (.ref 201), some (.int p1)]) (st' := [.int 1, .int w0, .ref 201]) 1 rfl ?_
  refine l1_callV hQ mt_X12_go mt_X12_refuses rfl rfl (o := 201) (ci := 11) (As := [.int w0, .int 1]) (rest := []) rfl rfl rfl rfl rfl rfl (st1 := fun x1 => [.int x1]) (fun _ => rfl) (ok_X12_refuses hQ c w0 1) (fun x1 c2 => ?_)
  refine l1_many mt_X12_go (pc' := bif am_cc .eq x1 0 then 36 else 34) (L' := [some (.ref 201), some (.int p1)]) (st' := []) 1 rfl ?_
  refine l1_bif rfl ?_ ?_
  · refine l1_many mt_X12_go (pc' := 38) (L' := [some (.ref 201), some (.int p1)]) (st' := [.ref 201, .ref 201]) 2 rfl ?_
    refine l1_getI hQ mt_X12_go rfl (o := 201) (ci := 11) (k := 7) (a := 0) (b := 0) rfl rfl rfl rfl rfl ?_
    refine l1_many mt_X12_go (pc' := 43) (L' := [some (.ref 201), some (.int p1)]) (st' := [.int ((c2.1 201 7) - 1), .ref 201]) 2 rfl ?_
    refine l1_putI hQ mt_X12_go rfl (o := 201) (ci := 11) (k := 7) (a := 0) rfl rfl rfl rfl rfl rfl (fun c3 => ?_)
    refine l1_many mt_X12_go (pc' := 48) (L' := [some (.ref 201), some (.int p1), some (.int p1)]) (st' := []) 2 rfl ?_
    refine l1_weak (m := [true, false, true]) (L' := [some (.ref 201), none, some (.int p1)]) rfl ?_
    exact ok_X12_go_48 hQ N p1 N c3 p1
  · refine l1_many mt_X12_go (pc' := 35) (L' := [some (.ref 201), some (.int p1)]) (st' := [.int 0]) 1 rfl ?_
    exact l1_ret mt_X12_go rfl rfl rfl
set_option maxRecDepth 100000 in
theorem en_X12_go {Q : hS → am_H → Prop} (hQ : l1_em km Q) (N : Nat) (c : hS) (p1 : Int32) : l1_G (wN wI) Q am_i_X12_go 0 [some (.ref 201), some (.int p1)] [] c (f_X12_go N c p1) := by
  rw [f_X12_go]
  refine l1_many mt_X12_go (pc' := 2) (L' := [some (.ref 201), some (.int p1)]) (st' := [.int 0, .ref 201]) 2 rfl ?_
  refine l1_putI hQ mt_X12_go rfl (o := 201) (ci := 11) (k := 0) (a := 0) rfl rfl rfl rfl rfl rfl (fun c1 => ?_)
  refine l1_many mt_X12_go (pc' := 10) (L' := [some (.ref 201), some (.int p1)]) (st' := [.ref 201, .long 0, .long p1.toInt64, .ref 201]) 5 rfl ?_
  refine l1_getI hQ mt_X12_go rfl (o := 201) (ci := 11) (k := 7) (a := 0) (b := 0) rfl rfl rfl rfl rfl ?_
  refine l1_many mt_X12_go (pc' := 16) (L' := [some (.ref 201), some (.int p1)]) (st' := [.long (((c1.1 201 7) - 1).toInt64), .long 0, .long p1.toInt64, .ref 201]) 3 rfl ?_
  refine l1_callS mt_X12_go mt_X12_in rfl rfl (As := [.long p1.toInt64, .long 0, .long (((c1.1 201 7) - 1).toInt64)]) (rest := [.ref 201]) rfl rfl rfl (st1 := fun x2 => [.int x2, .ref 201]) (fun _ => rfl) (ok_X12_in hQ c1 p1.toInt64 0 (((c1.1 201 7) - 1).toInt64)) (fun x2 c3 => ?_)
  refine l1_many mt_X12_go (pc' := bif am_cc .ne x2 0 then 26 else 22) (L' := [some (.ref 201), some (.int p1)]) (st' := [.ref 201]) 1 rfl ?_
  refine l1_bin rfl ?_ ?_
  · refine l1_many mt_X12_go (pc' := 27) (L' := [some (.ref 201), some (.int p1)]) (st' := [.int 1, .ref 201]) 2 rfl ?_
    exact ok_X12_go_27 hQ N p1 c3 1
  · refine l1_many mt_X12_go (pc' := 27) (L' := [some (.ref 201), some (.int p1)]) (st' := [.int 0, .ref 201]) 1 rfl ?_
    exact ok_X12_go_27 hQ N p1 c3 0
theorem ok_X12_go {Q : hS → am_H → Prop} (hQ : l1_em km Q) (N : Nat) (c : hS) (p1 : Int32) : l1_T wI Q am_i_X12_go [.ref 201, .int p1] c (f_X12_go N c p1) := l1_of (en_X12_go hQ N c p1) ⟨rfl, rfl, trivial⟩
set_option maxRecDepth 100000 in
theorem ok_X12_name_47 {Q : hS → am_H → Prop} (hQ : l1_em km Q) (p1 : Int32) (p2 : Int32) : ∀ (c : hS) (w0 : Int32), l1_G (wN wI) Q am_i_X12_name 47 [some (.ref 201), some (.int p1), some (.int p2)] [.int w0, .ref 201] c (f_X12_name_47 p1 p2 c w0) := by
  intro c w0
  rw [f_X12_name_47]
  refine l1_many mt_X12_name (pc' := 48) (L' := [some (.ref 201), some (.int p1), some (.int p2)]) (st' := [.int 1, .int w0, .ref 201]) 1 rfl ?_
  refine l1_callV hQ mt_X12_name mt_X12_refuses rfl rfl (o := 201) (ci := 11) (As := [.int w0, .int 1]) (rest := []) rfl rfl rfl rfl rfl rfl (st1 := fun x1 => [.int x1]) (fun _ => rfl) (ok_X12_refuses hQ c w0 1) (fun x1 c2 => ?_)
  refine l1_many mt_X12_name (pc' := bif am_cc .eq x1 0 then 56 else 54) (L' := [some (.ref 201), some (.int p1), some (.int p2)]) (st' := []) 1 rfl ?_
  refine l1_bif rfl ?_ ?_
  · refine l1_many mt_X12_name (pc' := bif am_cc .ne p2 (-1) then 70 else 61) (L' := [some (.ref 201), some (.int p1), some (.int p2)]) (st' := []) 3 rfl ?_
    refine l1_bin rfl ?_ ?_
    · refine l1_many mt_X12_name (pc' := 62) (L' := [some (.ref 201), some (.int p1), some (.int p2)]) (st' := [.ref 201]) 1 rfl ?_
      refine l1_getR hQ mt_X12_name rfl (o := 201) (ci := 11) (k := 9) (a := 0) (b := 0) rfl rfl rfl rfl rfl (q := 204) rfl ?_
      refine l1_many mt_X12_name (pc' := 66) (L' := [some (.ref 201), some (.int p1), some (.int p2)]) (st' := [.int p1, .ref 204]) 1 rfl ?_
      refine l1_ck (fun hx => ?_)
      refine l1_ald hQ mt_X12_name rfl (o := 204) rfl hx ?_
      refine l1_many mt_X12_name (pc' := 114) (L' := [some (.ref 201), some (.int p1), some (.int p2)]) (st' := [.int (c2.1 204 p1.toNatClampNeg)]) 1 rfl ?_
      exact l1_ret mt_X12_name rfl rfl rfl
    · refine l1_many mt_X12_name (pc' := bif am_cc .ne p2 (-2) then 85 else 76) (L' := [some (.ref 201), some (.int p1), some (.int p2)]) (st' := []) 3 rfl ?_
      refine l1_bin rfl ?_ ?_
      · refine l1_many mt_X12_name (pc' := 77) (L' := [some (.ref 201), some (.int p1), some (.int p2)]) (st' := [.ref 201]) 1 rfl ?_
        refine l1_getR hQ mt_X12_name rfl (o := 201) (ci := 11) (k := 11) (a := 0) (b := 0) rfl rfl rfl rfl rfl (q := 206) rfl ?_
        refine l1_many mt_X12_name (pc' := 81) (L' := [some (.ref 201), some (.int p1), some (.int p2)]) (st' := [.int p1, .ref 206]) 1 rfl ?_
        refine l1_ck (fun hx => ?_)
        refine l1_ald hQ mt_X12_name rfl (o := 206) rfl hx ?_
        refine l1_many mt_X12_name (pc' := 114) (L' := [some (.ref 201), some (.int p1), some (.int p2)]) (st' := [.int (c2.1 206 p1.toNatClampNeg)]) 1 rfl ?_
        exact l1_ret mt_X12_name rfl rfl rfl
      · refine l1_many mt_X12_name (pc' := bif am_cc .ne p2 (-3) then 108 else 91) (L' := [some (.ref 201), some (.int p1), some (.int p2)]) (st' := []) 3 rfl ?_
        refine l1_bin rfl ?_ ?_
        · refine l1_many mt_X12_name (pc' := 92) (L' := [some (.ref 201), some (.int p1), some (.int p2)]) (st' := [.ref 201]) 1 rfl ?_
          refine l1_getR hQ mt_X12_name rfl (o := 201) (ci := 11) (k := 13) (a := 0) (b := 0) rfl rfl rfl rfl rfl (q := 208) rfl ?_
          refine l1_many mt_X12_name (pc' := 96) (L' := [some (.ref 201), some (.int p1), some (.int p2)]) (st' := [.int p1, .ref 208]) 1 rfl ?_
          refine l1_ck (fun hx => ?_)
          refine l1_bld hQ mt_X12_name rfl (o := 208) rfl hx ?_
          refine l1_many mt_X12_name (pc' := bif am_cc .eq (c2.1 208 p1.toNatClampNeg) 0 then 104 else 100) (L' := [some (.ref 201), some (.int p1), some (.int p2)]) (st' := []) 1 rfl ?_
          refine l1_bif rfl ?_ ?_
          · refine l1_many mt_X12_name (pc' := 114) (L' := [some (.ref 201), some (.int p1), some (.int p2)]) (st' := [.int 0]) 2 rfl ?_
            exact l1_ret mt_X12_name rfl rfl rfl
          · refine l1_many mt_X12_name (pc' := 114) (L' := [some (.ref 201), some (.int p1), some (.int p2)]) (st' := [.int 1]) 2 rfl ?_
            exact l1_ret mt_X12_name rfl rfl rfl
        · refine l1_many mt_X12_name (pc' := 111) (L' := [some (.ref 201), some (.int p1), some (.int p2)]) (st' := [.int p2, .int p1, .ref 201]) 3 rfl ?_
          refine l1_callV hQ mt_X12_name mt_X12_nameAt rfl rfl (o := 201) (ci := 11) (As := [.int p1, .int p2]) (rest := []) rfl rfl rfl rfl rfl rfl (st1 := fun x3 => [.int x3]) (fun _ => rfl) (ok_X12_nameAt hQ c2 p1 p2) (fun x3 c4 => ?_)
          exact l1_ret mt_X12_name rfl rfl rfl
  · refine l1_many mt_X12_name (pc' := 55) (L' := [some (.ref 201), some (.int p1), some (.int p2)]) (st' := [.int 0]) 1 rfl ?_
    exact l1_ret mt_X12_name rfl rfl rfl
set_option maxRecDepth 100000 in
theorem ok_X12_name_42 {Q : hS → am_H → Prop} (hQ : l1_em km Q) (p1 : Int32) (p2 : Int32) : ∀ (c : hS), l1_G (wN wI) Q am_i_X12_name 42 [some (.ref 201), some (.int p1), some (.int p2)] [.ref 201] c (f_X12_name_42 p1 p2 c) := by
  intro c
  rw [f_X12_name_42]
  refine l1_many mt_X12_name (pc' := 47) (L' := [some (.ref 201), some (.int p1), some (.int p2)]) (st' := [.int 1, .ref 201]) 2 rfl ?_
  exact ok_X12_name_47 hQ p1 p2 c 1
set_option maxRecDepth 100000 in
theorem en_X12_name {Q : hS → am_H → Prop} (hQ : l1_em km Q) (c : hS) (p1 : Int32) (p2 : Int32) : l1_G (wN wI) Q am_i_X12_name 0 [some (.ref 201), some (.int p1), some (.int p2)] [] c (f_X12_name c p1 p2) := by
  rw [f_X12_name]
  refine l1_many mt_X12_name (pc' := 2) (L' := [some (.ref 201), some (.int p1), some (.int p2)]) (st' := [.int 0, .ref 201]) 2 rfl ?_
  refine l1_putI hQ mt_X12_name rfl (o := 201) (ci := 11) (k := 0) (a := 0) rfl rfl rfl rfl rfl rfl (fun c1 => ?_)
  refine l1_many mt_X12_name (pc' := 10) (L' := [some (.ref 201), some (.int p1), some (.int p2)]) (st' := [.ref 201, .long 0, .long p1.toInt64, .ref 201]) 5 rfl ?_
  refine l1_getI hQ mt_X12_name rfl (o := 201) (ci := 11) (k := 7) (a := 0) (b := 0) rfl rfl rfl rfl rfl ?_
  refine l1_many mt_X12_name (pc' := 16) (L' := [some (.ref 201), some (.int p1), some (.int p2)]) (st' := [.long (((c1.1 201 7) - 1).toInt64), .long 0, .long p1.toInt64, .ref 201]) 3 rfl ?_
  refine l1_callS mt_X12_name mt_X12_in rfl rfl (As := [.long p1.toInt64, .long 0, .long (((c1.1 201 7) - 1).toInt64)]) (rest := [.ref 201]) rfl rfl rfl (st1 := fun x2 => [.int x2, .ref 201]) (fun _ => rfl) (ok_X12_in hQ c1 p1.toInt64 0 (((c1.1 201 7) - 1).toInt64)) (fun x2 c3 => ?_)
  refine l1_many mt_X12_name (pc' := bif am_cc .eq x2 0 then 42 else 22) (L' := [some (.ref 201), some (.int p1), some (.int p2)]) (st' := [.ref 201]) 1 rfl ?_
  refine l1_bif rfl ?_ ?_
  · exact ok_X12_name_42 hQ p1 p2 c3
  · refine l1_many mt_X12_name (pc' := 28) (L' := [some (.ref 201), some (.int p1), some (.int p2)]) (st' := [.ref 201, .long (-3), .long p2.toInt64, .ref 201]) 4 rfl ?_
    refine l1_getR hQ mt_X12_name rfl (o := 201) (ci := 11) (k := 9) (a := 0) (b := 0) rfl rfl rfl rfl rfl (q := 204) rfl ?_
    refine l1_many mt_X12_name (pc' := 32) (L' := [some (.ref 201), some (.int p1), some (.int p2)]) (st' := [.int p1, .ref 204, .long (-3), .long p2.toInt64, .ref 201]) 1 rfl ?_
    refine l1_ck (fun hx => ?_)
    refine l1_ald hQ mt_X12_name rfl (o := 204) rfl hx ?_
    refine l1_many mt_X12_name (pc' := 36) (L' := [some (.ref 201), some (.int p1), some (.int p2)]) (st' := [.long (((c3.1 204 p1.toNatClampNeg) - 1).toInt64), .long (-3), .long p2.toInt64, .ref 201]) 3 rfl ?_
    refine l1_callS mt_X12_name mt_X12_in rfl rfl (As := [.long p2.toInt64, .long (-3), .long (((c3.1 204 p1.toNatClampNeg) - 1).toInt64)]) (rest := [.ref 201]) rfl rfl rfl (st1 := fun x4 => [.int x4, .ref 201]) (fun _ => rfl) (ok_X12_in hQ c3 p2.toInt64 (-3) (((c3.1 204 p1.toNatClampNeg) - 1).toInt64)) (fun x4 c5 => ?_)
    refine l1_many mt_X12_name (pc' := bif am_cc .ne x4 0 then 46 else 42) (L' := [some (.ref 201), some (.int p1), some (.int p2)]) (st' := [.ref 201]) 1 rfl ?_
    refine l1_bin rfl ?_ ?_
    · exact ok_X12_name_42 hQ p1 p2 c5
    · refine l1_many mt_X12_name (pc' := 47) (L' := [some (.ref 201), some (.int p1), some (.int p2)]) (st' := [.int 0, .ref 201]) 1 rfl ?_
      exact ok_X12_name_47 hQ p1 p2 c5 0
theorem ok_X12_name {Q : hS → am_H → Prop} (hQ : l1_em km Q) (c : hS) (p1 : Int32) (p2 : Int32) : l1_T wI Q am_i_X12_name [.ref 201, .int p1, .int p2] c (f_X12_name c p1 p2) := l1_of (en_X12_name hQ c p1 p2) ⟨rfl, rfl, rfl, trivial⟩
set_option maxRecDepth 100000 in
theorem ok_X12_byteAt_45 {Q : hS → am_H → Prop} (hQ : l1_em km Q) (p1 : Int32) (p2 : Int32) : ∀ (c : hS) (w0 : Int32), l1_G (wN wI) Q am_i_X12_byteAt 45 [some (.ref 201), some (.int p1), some (.int p2)] [.int w0, .ref 201] c (f_X12_byteAt_45 p1 p2 c w0) := by
  intro c w0
  rw [f_X12_byteAt_45]
  refine l1_many mt_X12_byteAt (pc' := 46) (L' := [some (.ref 201), some (.int p1), some (.int p2)]) (st' := [.int 1, .int w0, .ref 201]) 1 rfl ?_
  refine l1_callV hQ mt_X12_byteAt mt_X12_refuses rfl rfl (o := 201) (ci := 11) (As := [.int w0, .int 1]) (rest := []) rfl rfl rfl rfl rfl rfl (st1 := fun x1 => [.int x1]) (fun _ => rfl) (ok_X12_refuses hQ c w0 1) (fun x1 c2 => ?_)
  refine l1_many mt_X12_byteAt (pc' := bif am_cc .eq x1 0 then 56 else 52) (L' := [some (.ref 201), some (.int p1), some (.int p2)]) (st' := []) 1 rfl ?_
  refine l1_bif rfl ?_ ?_
  · refine l1_many mt_X12_byteAt (pc' := 57) (L' := [some (.ref 201), some (.int p1), some (.int p2)]) (st' := [.ref 201]) 1 rfl ?_
    refine l1_getR hQ mt_X12_byteAt rfl (o := 201) (ci := 11) (k := 12) (a := 0) (b := 0) rfl rfl rfl rfl rfl (q := 207) rfl ?_
    refine l1_many mt_X12_byteAt (pc' := 67) (L' := [some (.ref 201), some (.int p1), some (.int p2)]) (st' := [.int ((400 * p1) + p2), .ref 207]) 5 rfl ?_
    refine l1_ck (fun hx => ?_)
    refine l1_ald hQ mt_X12_byteAt rfl (o := 207) rfl hx ?_
    exact l1_ret mt_X12_byteAt rfl rfl rfl
  · refine l1_many mt_X12_byteAt (pc' := 68) (L' := [some (.ref 201), some (.int p1), some (.int p2)]) (st' := [.int 0]) 2 rfl ?_
    exact l1_ret mt_X12_byteAt rfl rfl rfl
set_option maxRecDepth 100000 in
theorem ok_X12_byteAt_40 {Q : hS → am_H → Prop} (hQ : l1_em km Q) (p1 : Int32) (p2 : Int32) : ∀ (c : hS), l1_G (wN wI) Q am_i_X12_byteAt 40 [some (.ref 201), some (.int p1), some (.int p2)] [.ref 201] c (f_X12_byteAt_40 p1 p2 c) := by
  intro c
  rw [f_X12_byteAt_40]
  refine l1_many mt_X12_byteAt (pc' := 45) (L' := [some (.ref 201), some (.int p1), some (.int p2)]) (st' := [.int 1, .ref 201]) 2 rfl ?_
  exact ok_X12_byteAt_45 hQ p1 p2 c 1
set_option maxRecDepth 100000 in
theorem en_X12_byteAt {Q : hS → am_H → Prop} (hQ : l1_em km Q) (c : hS) (p1 : Int32) (p2 : Int32) : l1_G (wN wI) Q am_i_X12_byteAt 0 [some (.ref 201), some (.int p1), some (.int p2)] [] c (f_X12_byteAt c p1 p2) := by
  rw [f_X12_byteAt]
  refine l1_many mt_X12_byteAt (pc' := 2) (L' := [some (.ref 201), some (.int p1), some (.int p2)]) (st' := [.int 0, .ref 201]) 2 rfl ?_
  refine l1_putI hQ mt_X12_byteAt rfl (o := 201) (ci := 11) (k := 0) (a := 0) rfl rfl rfl rfl rfl rfl (fun c1 => ?_)
  refine l1_many mt_X12_byteAt (pc' := 10) (L' := [some (.ref 201), some (.int p1), some (.int p2)]) (st' := [.ref 201, .long 0, .long p1.toInt64, .ref 201]) 5 rfl ?_
  refine l1_getI hQ mt_X12_byteAt rfl (o := 201) (ci := 11) (k := 7) (a := 0) (b := 0) rfl rfl rfl rfl rfl ?_
  refine l1_many mt_X12_byteAt (pc' := 16) (L' := [some (.ref 201), some (.int p1), some (.int p2)]) (st' := [.long (((c1.1 201 7) - 1).toInt64), .long 0, .long p1.toInt64, .ref 201]) 3 rfl ?_
  refine l1_callS mt_X12_byteAt mt_X12_in rfl rfl (As := [.long p1.toInt64, .long 0, .long (((c1.1 201 7) - 1).toInt64)]) (rest := [.ref 201]) rfl rfl rfl (st1 := fun x2 => [.int x2, .ref 201]) (fun _ => rfl) (ok_X12_in hQ c1 p1.toInt64 0 (((c1.1 201 7) - 1).toInt64)) (fun x2 c3 => ?_)
  refine l1_many mt_X12_byteAt (pc' := bif am_cc .eq x2 0 then 40 else 22) (L' := [some (.ref 201), some (.int p1), some (.int p2)]) (st' := [.ref 201]) 1 rfl ?_
  refine l1_bif rfl ?_ ?_
  · exact ok_X12_byteAt_40 hQ p1 p2 c3
  · refine l1_many mt_X12_byteAt (pc' := 26) (L' := [some (.ref 201), some (.int p1), some (.int p2)]) (st' := [.ref 201, .long 0, .long p2.toInt64, .ref 201]) 4 rfl ?_
    refine l1_getR hQ mt_X12_byteAt rfl (o := 201) (ci := 11) (k := 11) (a := 0) (b := 0) rfl rfl rfl rfl rfl (q := 206) rfl ?_
    refine l1_many mt_X12_byteAt (pc' := 30) (L' := [some (.ref 201), some (.int p1), some (.int p2)]) (st' := [.int p1, .ref 206, .long 0, .long p2.toInt64, .ref 201]) 1 rfl ?_
    refine l1_ck (fun hx => ?_)
    refine l1_ald hQ mt_X12_byteAt rfl (o := 206) rfl hx ?_
    refine l1_many mt_X12_byteAt (pc' := 34) (L' := [some (.ref 201), some (.int p1), some (.int p2)]) (st' := [.long (((c3.1 206 p1.toNatClampNeg) - 1).toInt64), .long 0, .long p2.toInt64, .ref 201]) 3 rfl ?_
    refine l1_callS mt_X12_byteAt mt_X12_in rfl rfl (As := [.long p2.toInt64, .long 0, .long (((c3.1 206 p1.toNatClampNeg) - 1).toInt64)]) (rest := [.ref 201]) rfl rfl rfl (st1 := fun x4 => [.int x4, .ref 201]) (fun _ => rfl) (ok_X12_in hQ c3 p2.toInt64 0 (((c3.1 206 p1.toNatClampNeg) - 1).toInt64)) (fun x4 c5 => ?_)
    refine l1_many mt_X12_byteAt (pc' := bif am_cc .ne x4 0 then 44 else 40) (L' := [some (.ref 201), some (.int p1), some (.int p2)]) (st' := [.ref 201]) 1 rfl ?_
    refine l1_bin rfl ?_ ?_
    · exact ok_X12_byteAt_40 hQ p1 p2 c5
    · refine l1_many mt_X12_byteAt (pc' := 45) (L' := [some (.ref 201), some (.int p1), some (.int p2)]) (st' := [.int 0, .ref 201]) 1 rfl ?_
      exact ok_X12_byteAt_45 hQ p1 p2 c5 0
theorem ok_X12_byteAt {Q : hS → am_H → Prop} (hQ : l1_em km Q) (c : hS) (p1 : Int32) (p2 : Int32) : l1_T wI Q am_i_X12_byteAt [.ref 201, .int p1, .int p2] c (f_X12_byteAt c p1 p2) := l1_of (en_X12_byteAt hQ c p1 p2) ⟨rfl, rfl, rfl, trivial⟩
set_option maxRecDepth 100000 in
theorem ok_X12_takePath_26 {Q : hS → am_H → Prop} (hQ : l1_em km Q) (N : Nat) : ∀ n : Nat, ∀ (c : hS) (v1 : Int32), l1_G (wN wV) Q am_i_X12_takePath 26 [some (.ref 201), some (.int v1)] [] c (f_X12_takePath_26 N n c v1) := by
  intro n
  induction n with
  | zero => intro c v1; exact l1_none
  | succ n ih =>
    intro c v1
    rw [f_X12_takePath_26]
    refine l1_many mt_X12_takePath (pc' := 28) (L' := [some (.ref 201), some (.int v1)]) (st' := [.ref 201, .int v1]) 2 rfl ?_
    refine l1_getI hQ mt_X12_takePath rfl (o := 201) (ci := 11) (k := 14) (a := 0) (b := 0) rfl rfl rfl rfl rfl ?_
    refine l1_many mt_X12_takePath (pc' := bif am_cc .ge v1 (c.1 201 14) then 52 else 34) (L' := [some (.ref 201), some (.int v1)]) (st' := []) 1 rfl ?_
    refine l1_bif rfl ?_ ?_
    · exact l1_ret mt_X12_takePath rfl rfl rfl
    · refine l1_many mt_X12_takePath (pc' := 35) (L' := [some (.ref 201), some (.int v1)]) (st' := [.ref 201]) 1 rfl ?_
      refine l1_getR hQ mt_X12_takePath rfl (o := 201) (ci := 11) (k := 15) (a := 0) (b := 0) rfl rfl rfl rfl rfl (q := 209) rfl ?_
      refine l1_many mt_X12_takePath (pc' := 40) (L' := [some (.ref 201), some (.int v1)]) (st' := [.ref 201, .int v1, .ref 209]) 2 rfl ?_
      refine l1_getR hQ mt_X12_takePath rfl (o := 201) (ci := 11) (k := 1) (a := 0) (b := 0) rfl rfl rfl rfl rfl (q := 202) rfl ?_
      refine l1_many mt_X12_takePath (pc' := 44) (L' := [some (.ref 201), some (.int v1)]) (st' := [.int v1, .ref 202, .int v1, .ref 209]) 1 rfl ?_
      refine l1_ck (fun hx => ?_)
      refine l1_ald hQ mt_X12_takePath rfl (o := 202) rfl hx ?_
      refine l1_ck (fun hx => ?_)
      refine l1_ast hQ mt_X12_takePath rfl (o := 209) rfl hx (fun c1 => ?_)
      refine l1_many mt_X12_takePath (pc' := 26) (L' := [some (.ref 201), some (.int (v1 + 1))]) (st' := []) 2 rfl ?_
      exact ih c1 (v1 + 1)
set_option maxRecDepth 100000 in
theorem en_X12_takePath {Q : hS → am_H → Prop} (hQ : l1_em km Q) (N : Nat) (c : hS) : l1_G (wN wV) Q am_i_X12_takePath 0 [some (.ref 201)] [] c (f_X12_takePath N c) := by
  rw [f_X12_takePath]
  refine l1_many mt_X12_takePath (pc' := 2) (L' := [some (.ref 201)]) (st' := [.ref 201, .ref 201]) 2 rfl ?_
  refine l1_getI hQ mt_X12_takePath rfl (o := 201) (ci := 11) (k := 2) (a := 0) (b := 0) rfl rfl rfl rfl rfl ?_
  refine l1_many mt_X12_takePath (pc' := bif am_cc .ge (c.1 201 2) 300 then 18 else 11) (L' := [some (.ref 201)]) (st' := [.ref 201]) 2 rfl ?_
  refine l1_bif rfl ?_ ?_
  · refine l1_many mt_X12_takePath (pc' := 21) (L' := [some (.ref 201)]) (st' := [.int 299, .ref 201]) 1 rfl ?_
    refine l1_putI hQ mt_X12_takePath rfl (o := 201) (ci := 11) (k := 14) (a := 0) rfl rfl rfl rfl rfl rfl (fun c1 => ?_)
    refine l1_many mt_X12_takePath (pc' := 26) (L' := [some (.ref 201), some (.int 0)]) (st' := []) 2 rfl ?_
    exact ok_X12_takePath_26 hQ N N c1 0
  · refine l1_many mt_X12_takePath (pc' := 12) (L' := [some (.ref 201)]) (st' := [.ref 201, .ref 201]) 1 rfl ?_
    refine l1_getI hQ mt_X12_takePath rfl (o := 201) (ci := 11) (k := 2) (a := 0) (b := 0) rfl rfl rfl rfl rfl ?_
    refine l1_many mt_X12_takePath (pc' := 21) (L' := [some (.ref 201)]) (st' := [.int (c.1 201 2), .ref 201]) 1 rfl ?_
    refine l1_putI hQ mt_X12_takePath rfl (o := 201) (ci := 11) (k := 14) (a := 0) rfl rfl rfl rfl rfl rfl (fun c2 => ?_)
    refine l1_many mt_X12_takePath (pc' := 26) (L' := [some (.ref 201), some (.int 0)]) (st' := []) 2 rfl ?_
    exact ok_X12_takePath_26 hQ N N c2 0
theorem ok_X12_takePath {Q : hS → am_H → Prop} (hQ : l1_em km Q) (N : Nat) (c : hS) : l1_T wV Q am_i_X12_takePath [.ref 201] c (f_X12_takePath N c) := l1_of (en_X12_takePath hQ N c) ⟨rfl, trivial⟩
set_option maxRecDepth 100000 in
theorem ok_X12_kind_49 {Q : hS → am_H → Prop} (hQ : l1_em km Q) (N : Nat) : ∀ n : Nat, ∀ (c : hS) (v2 : Int32), l1_G (wN wI) Q am_i_X12_kind 49 [some (.ref 201), none, some (.int v2)] [] c (f_X12_kind_49 N n c v2) := by
  intro n
  induction n with
  | zero => intro c v2; exact l1_none
  | succ n ih =>
    intro c v2
    rw [f_X12_kind_49]
    refine l1_many mt_X12_kind (pc' := 51) (L' := [some (.ref 201), none, some (.int v2)]) (st' := [.ref 201, .int v2]) 2 rfl ?_
    refine l1_getI hQ mt_X12_kind rfl (o := 201) (ci := 11) (k := 7) (a := 0) (b := 0) rfl rfl rfl rfl rfl ?_
    refine l1_many mt_X12_kind (pc' := bif am_cc .ge v2 (c.1 201 7) then 73 else 57) (L' := [some (.ref 201), none, some (.int v2)]) (st' := []) 1 rfl ?_
    refine l1_bif rfl ?_ ?_
    · refine l1_many mt_X12_kind (pc' := 74) (L' := [some (.ref 201), none, some (.int v2)]) (st' := [.int 0]) 1 rfl ?_
      exact l1_ret mt_X12_kind rfl rfl rfl
    · refine l1_many mt_X12_kind (pc' := 59) (L' := [some (.ref 201), none, some (.int v2)]) (st' := [.int v2, .ref 201]) 2 rfl ?_
      refine l1_callV hQ mt_X12_kind mt_X12_isUnderNew rfl rfl (o := 201) (ci := 11) (As := [.int v2]) (rest := []) rfl rfl rfl rfl rfl rfl (st1 := fun x1 => [.int x1]) (fun _ => rfl) (ok_X12_isUnderNew hQ N c v2) (fun x1 c2 => ?_)
      refine l1_many mt_X12_kind (pc' := bif am_cc .eq x1 0 then 67 else 65) (L' := [some (.ref 201), none, some (.int v2)]) (st' := []) 1 rfl ?_
      refine l1_bif rfl ?_ ?_
      · refine l1_many mt_X12_kind (pc' := 49) (L' := [some (.ref 201), none, some (.int (v2 + 1))]) (st' := []) 2 rfl ?_
        exact ih c2 (v2 + 1)
      · refine l1_many mt_X12_kind (pc' := 66) (L' := [some (.ref 201), none, some (.int v2)]) (st' := [.int 1]) 1 rfl ?_
        exact l1_ret mt_X12_kind rfl rfl rfl
set_option maxRecDepth 100000 in
theorem en_X12_kind {Q : hS → am_H → Prop} (hQ : l1_em km Q) (N : Nat) (c : hS) : l1_G (wN wI) Q am_i_X12_kind 0 [some (.ref 201)] [] c (f_X12_kind N c) := by
  rw [f_X12_kind]
  refine l1_many mt_X12_kind (pc' := 2) (L' := [some (.ref 201)]) (st' := [.int 0, .ref 201]) 2 rfl ?_
  refine l1_putI hQ mt_X12_kind rfl (o := 201) (ci := 11) (k := 0) (a := 0) rfl rfl rfl rfl rfl rfl (fun c1 => ?_)
  refine l1_many mt_X12_kind (pc' := 6) (L' := [some (.ref 201)]) (st' := [.ref 201]) 1 rfl ?_
  refine l1_callV hQ mt_X12_kind mt_X12_takePath rfl rfl (o := 201) (ci := 11) (As := []) (rest := []) rfl rfl rfl rfl rfl rfl (st1 := fun _ => []) (fun _ => rfl) (ok_X12_takePath hQ N c1) (fun _ c2 => ?_)
  refine l1_many mt_X12_kind (pc' := 10) (L' := [some (.ref 201)]) (st' := [.ref 201]) 1 rfl ?_
  refine l1_getI hQ mt_X12_kind rfl (o := 201) (ci := 11) (k := 2) (a := 0) (b := 0) rfl rfl rfl rfl rfl ?_
  refine l1_many mt_X12_kind (pc' := bif am_cc .ne (c2.1 201 2) 0 then 18 else 16) (L' := [some (.ref 201)]) (st' := []) 1 rfl ?_
  refine l1_bin rfl ?_ ?_
  · refine l1_many mt_X12_kind (pc' := 17) (L' := [some (.ref 201)]) (st' := [.int 1]) 1 rfl ?_
    exact l1_ret mt_X12_kind rfl rfl rfl
  · refine l1_many mt_X12_kind (pc' := 21) (L' := [some (.ref 201)]) (st' := [.ref 201, .int 0, .ref 201]) 3 rfl ?_
    refine l1_getI hQ mt_X12_kind rfl (o := 201) (ci := 11) (k := 7) (a := 0) (b := 0) rfl rfl rfl rfl rfl ?_
    refine l1_callV hQ mt_X12_kind mt_X12_seek rfl rfl (o := 201) (ci := 11) (As := [.int 0, .int (c2.1 201 7)]) (rest := []) rfl rfl rfl rfl rfl rfl (st1 := fun x3 => [.int x3]) (fun _ => rfl) (ok_X12_seek hQ N c2 0 (c2.1 201 7)) (fun x3 c4 => ?_)
    refine l1_many mt_X12_kind (pc' := bif am_cc .lt x3 0 then 47 else 32) (L' := [some (.ref 201), some (.int x3)]) (st' := []) 3 rfl ?_
    refine l1_bif rfl ?_ ?_
    · refine l1_many mt_X12_kind (pc' := 49) (L' := [some (.ref 201), some (.int x3), some (.int 0)]) (st' := []) 2 rfl ?_
      refine l1_weak (m := [true, false, true]) (L' := [some (.ref 201), none, some (.int 0)]) rfl ?_
      exact ok_X12_kind_49 hQ N N c4 0
    · refine l1_many mt_X12_kind (pc' := 33) (L' := [some (.ref 201), some (.int x3)]) (st' := [.ref 201]) 1 rfl ?_
      refine l1_getR hQ mt_X12_kind rfl (o := 201) (ci := 11) (k := 13) (a := 0) (b := 0) rfl rfl rfl rfl rfl (q := 208) rfl ?_
      refine l1_many mt_X12_kind (pc' := 37) (L' := [some (.ref 201), some (.int x3)]) (st' := [.int x3, .ref 208]) 1 rfl ?_
      refine l1_ck (fun hx => ?_)
      refine l1_bld hQ mt_X12_kind rfl (o := 208) rfl hx ?_
      refine l1_many mt_X12_kind (pc' := bif am_cc .eq (c4.1 208 x3.toNatClampNeg) 0 then 45 else 41) (L' := [some (.ref 201), some (.int x3)]) (st' := []) 1 rfl ?_
      refine l1_bif rfl ?_ ?_
      · refine l1_many mt_X12_kind (pc' := 46) (L' := [some (.ref 201), some (.int x3)]) (st' := [.int 2]) 1 rfl ?_
        exact l1_ret mt_X12_kind rfl rfl rfl
      · refine l1_many mt_X12_kind (pc' := 46) (L' := [some (.ref 201), some (.int x3)]) (st' := [.int 1]) 2 rfl ?_
        exact l1_ret mt_X12_kind rfl rfl rfl
theorem ok_X12_kind {Q : hS → am_H → Prop} (hQ : l1_em km Q) (N : Nat) (c : hS) : l1_T wI Q am_i_X12_kind [.ref 201] c (f_X12_kind N c) := l1_of (en_X12_kind hQ N c) ⟨rfl, trivial⟩
set_option maxRecDepth 100000 in
theorem ok_X12_findPart_42 {Q : hS → am_H → Prop} (hQ : l1_em km Q) (N : Nat) (p1 : Int32) : ∀ n : Nat, ∀ (c : hS), l1_G (wN wV) Q am_i_X12_findPart 42 [some (.ref 201), some (.int p1)] [] c (f_X12_findPart_42 N p1 n c) := by
  intro n
  induction n with
  | zero => intro c; exact l1_none
  | succ n ih =>
    intro c
    rw [f_X12_findPart_42]
    refine l1_many mt_X12_findPart (pc' := 43) (L' := [some (.ref 201), some (.int p1)]) (st' := [.ref 201]) 1 rfl ?_
    refine l1_getI hQ mt_X12_findPart rfl (o := 201) (ci := 11) (k := 19) (a := 0) (b := 0) rfl rfl rfl rfl rfl ?_
    refine l1_many mt_X12_findPart (pc' := 47) (L' := [some (.ref 201), some (.int p1)]) (st' := [.ref 201, .int (c.1 201 19)]) 1 rfl ?_
    refine l1_getI hQ mt_X12_findPart rfl (o := 201) (ci := 11) (k := 20) (a := 0) (b := 0) rfl rfl rfl rfl rfl ?_
    refine l1_many mt_X12_findPart (pc' := 52) (L' := [some (.ref 201), some (.int p1)]) (st' := [.ref 201, .int ((c.1 201 19) + (c.1 201 20))]) 2 rfl ?_
    refine l1_getR hQ mt_X12_findPart rfl (o := 201) (ci := 11) (k := 9) (a := 0) (b := 0) rfl rfl rfl rfl rfl (q := 204) rfl ?_
    refine l1_many mt_X12_findPart (pc' := 56) (L' := [some (.ref 201), some (.int p1)]) (st' := [.int p1, .ref 204, .int ((c.1 201 19) + (c.1 201 20))]) 1 rfl ?_
    refine l1_ck (fun hx => ?_)
    refine l1_ald hQ mt_X12_findPart rfl (o := 204) rfl hx ?_
    refine l1_many mt_X12_findPart (pc' := bif am_cc .ge ((c.1 201 19) + (c.1 201 20)) (c.1 204 p1.toNatClampNeg) then 92 else 60) (L' := [some (.ref 201), some (.int p1)]) (st' := []) 1 rfl ?_
    refine l1_bif rfl ?_ ?_
    · exact l1_ret mt_X12_findPart rfl rfl rfl
    · refine l1_many mt_X12_findPart (pc' := 63) (L' := [some (.ref 201), some (.int p1)]) (st' := [.ref 201, .int p1, .ref 201]) 3 rfl ?_
      refine l1_getI hQ mt_X12_findPart rfl (o := 201) (ci := 11) (k := 19) (a := 0) (b := 0) rfl rfl rfl rfl rfl ?_
      refine l1_many mt_X12_findPart (pc' := 67) (L' := [some (.ref 201), some (.int p1)]) (st' := [.ref 201, .int (c.1 201 19), .int p1, .ref 201]) 1 rfl ?_
      refine l1_getI hQ mt_X12_findPart rfl (o := 201) (ci := 11) (k := 20) (a := 0) (b := 0) rfl rfl rfl rfl rfl ?_
      refine l1_many mt_X12_findPart (pc' := 71) (L' := [some (.ref 201), some (.int p1)]) (st' := [.int ((c.1 201 19) + (c.1 201 20)), .int p1, .ref 201]) 1 rfl ?_
      refine l1_callV hQ mt_X12_findPart mt_X12_nameAt rfl rfl (o := 201) (ci := 11) (As := [.int p1, .int ((c.1 201 19) + (c.1 201 20))]) (rest := []) rfl rfl rfl rfl rfl rfl (st1 := fun x1 => [.int x1]) (fun _ => rfl) (ok_X12_nameAt hQ c p1 ((c.1 201 19) + (c.1 201 20))) (fun x1 c2 => ?_)
      refine l1_many mt_X12_findPart (pc' := bif am_cc .eq x1 47 then 92 else 79) (L' := [some (.ref 201), some (.int p1)]) (st' := []) 2 rfl ?_
      refine l1_bif rfl ?_ ?_
      · exact l1_ret mt_X12_findPart rfl rfl rfl
      · refine l1_many mt_X12_findPart (pc' := 81) (L' := [some (.ref 201), some (.int p1)]) (st' := [.ref 201, .ref 201]) 2 rfl ?_
        refine l1_getI hQ mt_X12_findPart rfl (o := 201) (ci := 11) (k := 20) (a := 0) (b := 0) rfl rfl rfl rfl rfl ?_
        refine l1_many mt_X12_findPart (pc' := 86) (L' := [some (.ref 201), some (.int p1)]) (st' := [.int ((c2.1 201 20) + 1), .ref 201]) 2 rfl ?_
        refine l1_putI hQ mt_X12_findPart rfl (o := 201) (ci := 11) (k := 20) (a := 0) rfl rfl rfl rfl rfl rfl (fun c3 => ?_)
        refine l1_many mt_X12_findPart (pc' := 42) (L' := [some (.ref 201), some (.int p1)]) (st' := []) 1 rfl ?_
        exact ih c3
set_option maxRecDepth 100000 in
theorem ok_X12_findPart_21 {Q : hS → am_H → Prop} (hQ : l1_em km Q) (N : Nat) (p1 : Int32) : ∀ (c : hS), l1_G (wN wV) Q am_i_X12_findPart 21 [some (.ref 201), some (.int p1)] [] c (f_X12_findPart_21 N p1 c) := by
  intro c
  rw [f_X12_findPart_21]
  refine l1_many mt_X12_findPart (pc' := 23) (L' := [some (.ref 201), some (.int p1)]) (st' := [.ref 201, .ref 201]) 2 rfl ?_
  refine l1_getI hQ mt_X12_findPart rfl (o := 201) (ci := 11) (k := 14) (a := 0) (b := 0) rfl rfl rfl rfl rfl ?_
  refine l1_many mt_X12_findPart (pc' := bif am_cc .ne (c.1 201 14) 0 then 33 else 29) (L' := [some (.ref 201), some (.int p1)]) (st' := [.ref 201]) 1 rfl ?_
  refine l1_bin rfl ?_ ?_
  · refine l1_many mt_X12_findPart (pc' := 39) (L' := [some (.ref 201), some (.int p1)]) (st' := [.int 0, .ref 201]) 2 rfl ?_
    refine l1_putI hQ mt_X12_findPart rfl (o := 201) (ci := 11) (k := 19) (a := 0) rfl rfl rfl rfl rfl rfl (fun c2 => ?_)
    exact ok_X12_findPart_42 hQ N p1 N c2
  · refine l1_many mt_X12_findPart (pc' := 34) (L' := [some (.ref 201), some (.int p1)]) (st' := [.ref 201, .ref 201]) 1 rfl ?_
    refine l1_getI hQ mt_X12_findPart rfl (o := 201) (ci := 11) (k := 14) (a := 0) (b := 0) rfl rfl rfl rfl rfl ?_
    refine l1_many mt_X12_findPart (pc' := 39) (L' := [some (.ref 201), some (.int p1)]) (st' := [.int ((c.1 201 14) + 1), .ref 201]) 2 rfl ?_
    refine l1_putI hQ mt_X12_findPart rfl (o := 201) (ci := 11) (k := 19) (a := 0) rfl rfl rfl rfl rfl rfl (fun c1 => ?_)
    exact ok_X12_findPart_42 hQ N p1 N c1
set_option maxRecDepth 100000 in
theorem en_X12_findPart {Q : hS → am_H → Prop} (hQ : l1_em km Q) (N : Nat) (c : hS) (p1 : Int32) : l1_G (wN wV) Q am_i_X12_findPart 0 [some (.ref 201), some (.int p1)] [] c (f_X12_findPart N c p1) := by
  rw [f_X12_findPart]
  refine l1_many mt_X12_findPart (pc' := 2) (L' := [some (.ref 201), some (.int p1)]) (st' := [.int 0, .ref 201]) 2 rfl ?_
  refine l1_putI hQ mt_X12_findPart rfl (o := 201) (ci := 11) (k := 20) (a := 0) rfl rfl rfl rfl rfl rfl (fun c1 => ?_)
  refine l1_many mt_X12_findPart (pc' := 6) (L' := [some (.ref 201), some (.int p1)]) (st' := [.ref 201]) 1 rfl ?_
  refine l1_getI hQ mt_X12_findPart rfl (o := 201) (ci := 11) (k := 14) (a := 0) (b := 0) rfl rfl rfl rfl rfl ?_
  refine l1_many mt_X12_findPart (pc' := bif am_cc .le (c1.1 201 14) 0 then 21 else 12) (L' := [some (.ref 201), some (.int p1)]) (st' := []) 1 rfl ?_
  refine l1_bif rfl ?_ ?_
  · exact ok_X12_findPart_21 hQ N p1 c1
  · refine l1_many mt_X12_findPart (pc' := 14) (L' := [some (.ref 201), some (.int p1)]) (st' := [.int p1, .ref 201]) 2 rfl ?_
    refine l1_callV hQ mt_X12_findPart mt_X12_isUnderNew rfl rfl (o := 201) (ci := 11) (As := [.int p1]) (rest := []) rfl rfl rfl rfl rfl rfl (st1 := fun x2 => [.int x2]) (fun _ => rfl) (ok_X12_isUnderNew hQ N c1 p1) (fun x2 c3 => ?_)
    refine l1_many mt_X12_findPart (pc' := bif am_cc .ne x2 0 then 21 else 20) (L' := [some (.ref 201), some (.int p1)]) (st' := []) 1 rfl ?_
    refine l1_bin rfl ?_ ?_
    · exact l1_ret mt_X12_findPart rfl rfl rfl
    · exact ok_X12_findPart_21 hQ N p1 c3
theorem ok_X12_findPart {Q : hS → am_H → Prop} (hQ : l1_em km Q) (N : Nat) (c : hS) (p1 : Int32) : l1_T wV Q am_i_X12_findPart [.ref 201, .int p1] c (f_X12_findPart N c p1) := l1_of (en_X12_findPart hQ N c p1) ⟨rfl, rfl, trivial⟩
set_option maxRecDepth 100000 in
theorem ok_X12_isSamePart_24 {Q : hS → am_H → Prop} (hQ : l1_em km Q) (N : Nat) (p1 : Int32) (p2 : Int32) (p3 : Int32) (p4 : Int32) : ∀ n : Nat, ∀ (c : hS) (v5 : Int32) (v6 : Int32), l1_G (wN wI) Q am_i_X12_isSamePart 24 [some (.ref 201), some (.int p1), some (.int p2), some (.int p3), some (.int p4), some (.int v5), some (.int v6)] [] c (f_X12_isSamePart_24 N p1 p2 p3 p4 n c v5 v6) := by
  intro n
  induction n with
  | zero => intro c v5 v6; exact l1_none
  | succ n ih =>
    intro c v5 v6
    rw [f_X12_isSamePart_24]
    refine l1_many mt_X12_isSamePart (pc' := bif am_cc .ge v6 p3 then 73 else 30) (L' := [some (.ref 201), some (.int p1), some (.int p2), some (.int p3), some (.int p4), some (.int v5), some (.int v6)]) (st' := []) 3 rfl ?_
    refine l1_bif rfl ?_ ?_
    · refine l1_many mt_X12_isSamePart (pc' := 75) (L' := [some (.ref 201), some (.int p1), some (.int p2), some (.int p3), some (.int p4), some (.int v5), some (.int v6)]) (st' := [.int v5]) 1 rfl ?_
      refine l1_ck (fun hz => ?_)
      exact l1_retZ mt_X12_isSamePart rfl rfl rfl hz
    · refine l1_many mt_X12_isSamePart (pc' := bif am_cc .eq v5 0 then 73 else 35) (L' := [some (.ref 201), some (.int p1), some (.int p2), some (.int p3), some (.int p4), some (.int v5), some (.int v6)]) (st' := []) 2 rfl ?_
      refine l1_bif rfl ?_ ?_
      · refine l1_many mt_X12_isSamePart (pc' := 75) (L' := [some (.ref 201), some (.int p1), some (.int p2), some (.int p3), some (.int p4), some (.int v5), some (.int v6)]) (st' := [.int v5]) 1 rfl ?_
        refine l1_ck (fun hz => ?_)
        exact l1_retZ mt_X12_isSamePart rfl rfl rfl hz
      · refine l1_many mt_X12_isSamePart (pc' := 41) (L' := [some (.ref 201), some (.int p1), some (.int p2), some (.int p3), some (.int p4), some (.int v5), some (.int v6)]) (st' := [.int (p2 + v6), .int p1, .ref 201]) 5 rfl ?_
        refine l1_callV hQ mt_X12_isSamePart mt_X12_nameAt rfl rfl (o := 201) (ci := 11) (As := [.int p1, .int (p2 + v6)]) (rest := []) rfl rfl rfl rfl rfl rfl (st1 := fun x1 => [.int x1]) (fun _ => rfl) (ok_X12_nameAt hQ c p1 (p2 + v6)) (fun x1 c2 => ?_)
        refine l1_many mt_X12_isSamePart (pc' := 48) (L' := [some (.ref 201), some (.int p1), some (.int p2), some (.int p3), some (.int p4), some (.int v5), some (.int v6)]) (st' := [.ref 201, .int p4, .ref 201, .int x1]) 3 rfl ?_
        refine l1_getI hQ mt_X12_isSamePart rfl (o := 201) (ci := 11) (k := 19) (a := 0) (b := 0) rfl rfl rfl rfl rfl ?_
        refine l1_many mt_X12_isSamePart (pc' := 54) (L' := [some (.ref 201), some (.int p1), some (.int p2), some (.int p3), some (.int p4), some (.int v5), some (.int v6)]) (st' := [.int ((c2.1 201 19) + v6), .int p4, .ref 201, .int x1]) 2 rfl ?_
        refine l1_callV hQ mt_X12_isSamePart mt_X12_nameAt rfl rfl (o := 201) (ci := 11) (As := [.int p4, .int ((c2.1 201 19) + v6)]) (rest := [.int x1]) rfl rfl rfl rfl rfl rfl (st1 := fun x3 => [.int x3, .int x1]) (fun _ => rfl) (ok_X12_nameAt hQ c2 p4 ((c2.1 201 19) + v6)) (fun x3 c4 => ?_)
        refine l1_many mt_X12_isSamePart (pc' := bif am_cc .ne x1 x3 then 64 else 60) (L' := [some (.ref 201), some (.int p1), some (.int p2), some (.int p3), some (.int p4), some (.int v5), some (.int v6)]) (st' := []) 1 rfl ?_
        refine l1_bin rfl ?_ ?_
        · refine l1_many mt_X12_isSamePart (pc' := 24) (L' := [some (.ref 201), some (.int p1), some (.int p2), some (.int p3), some (.int p4), some (.int 1), some (.int (v6 + 1))]) (st' := []) 5 rfl ?_
          exact ih c4 1 (v6 + 1)
        · refine l1_many mt_X12_isSamePart (pc' := 24) (L' := [some (.ref 201), some (.int p1), some (.int p2), some (.int p3), some (.int p4), some (.int 0), some (.int (v6 + 1))]) (st' := []) 4 rfl ?_
          exact ih c4 0 (v6 + 1)
set_option maxRecDepth 100000 in
theorem en_X12_isSamePart {Q : hS → am_H → Prop} (hQ : l1_em km Q) (N : Nat) (c : hS) (p1 : Int32) (p2 : Int32) (p3 : Int32) (p4 : Int32) : l1_G (wN wI) Q am_i_X12_isSamePart 0 [some (.ref 201), some (.int p1), some (.int p2), some (.int p3), some (.int p4)] [] c (f_X12_isSamePart N c p1 p2 p3 p4) := by
  rw [f_X12_isSamePart]
  refine l1_many mt_X12_isSamePart (pc' := 3) (L' := [some (.ref 201), some (.int p1), some (.int p2), some (.int p3), some (.int p4)]) (st' := [.int p4, .ref 201]) 2 rfl ?_
  refine l1_callV hQ mt_X12_isSamePart mt_X12_findPart rfl rfl (o := 201) (ci := 11) (As := [.int p4]) (rest := []) rfl rfl rfl rfl rfl rfl (st1 := fun _ => []) (fun _ => rfl) (ok_X12_findPart hQ N c p4) (fun _ c1 => ?_)
  refine l1_many mt_X12_isSamePart (pc' := 7) (L' := [some (.ref 201), some (.int p1), some (.int p2), some (.int p3), some (.int p4)]) (st' := [.ref 201]) 1 rfl ?_
  refine l1_getI hQ mt_X12_isSamePart rfl (o := 201) (ci := 11) (k := 20) (a := 0) (b := 0) rfl rfl rfl rfl rfl ?_
  refine l1_many mt_X12_isSamePart (pc' := bif am_cc .ne (c1.1 201 20) p3 then 18 else 14) (L' := [some (.ref 201), some (.int p1), some (.int p2), some (.int p3), some (.int p4)]) (st' := []) 2 rfl ?_
  refine l1_bin rfl ?_ ?_
  · refine l1_many mt_X12_isSamePart (pc' := 24) (L' := [some (.ref 201), some (.int p1), some (.int p2), some (.int p3), some (.int p4), some (.int 1), some (.int 0)]) (st' := []) 5 rfl ?_
    exact ok_X12_isSamePart_24 hQ N p1 p2 p3 p4 N c1 1 0
  · refine l1_many mt_X12_isSamePart (pc' := 24) (L' := [some (.ref 201), some (.int p1), some (.int p2), some (.int p3), some (.int p4), some (.int 0), some (.int 0)]) (st' := []) 4 rfl ?_
    exact ok_X12_isSamePart_24 hQ N p1 p2 p3 p4 N c1 0 0
theorem ok_X12_isSamePart {Q : hS → am_H → Prop} (hQ : l1_em km Q) (N : Nat) (c : hS) (p1 : Int32) (p2 : Int32) (p3 : Int32) (p4 : Int32) : l1_T wI Q am_i_X12_isSamePart [.ref 201, .int p1, .int p2, .int p3, .int p4] c (f_X12_isSamePart N c p1 p2 p3 p4) := l1_of (en_X12_isSamePart hQ N c p1 p2 p3 p4) ⟨rfl, rfl, rfl, rfl, rfl, trivial⟩
end
section
/-! THAT THE MACHINE FOLLOWS THEM, printed by gen_l1.py -/
set_option maxRecDepth 100000 in
theorem ok_X12_isFresh_29 {Q : hS → am_H → Prop} (hQ : l1_em km Q) (N : Nat) (p1 : Int32) : ∀ n : Nat, ∀ (c : hS) (v2 : Int32) (v3 : Int32) (v4 : Int32) (v5 : Int32), l1_G (wN wI) Q am_i_X12_isFresh 29 [some (.ref 201), some (.int p1), some (.int v2), some (.int v3), some (.int v4), some (.int v5)] [] c (f_X12_isFresh_29 N p1 n c v2 v3 v4 v5) := by
  intro n
  induction n with
  | zero => intro c v2 v3 v4 v5; exact l1_none
  | succ n ih =>
    intro c v2 v3 v4 v5
    rw [f_X12_isFresh_29]
    refine l1_many mt_X12_isFresh (pc' := bif am_cc .ge v5 p1 then 65 else 35) (L' := [some (.ref 201), some (.int p1), some (.int v2), some (.int v3), some (.int v4), some (.int v5)]) (st' := []) 3 rfl ?_
    refine l1_bif rfl ?_ ?_
    · refine l1_many mt_X12_isFresh (pc' := 67) (L' := [some (.ref 201), some (.int p1), some (.int v2), some (.int v3), some (.int v4), some (.int v5)]) (st' := [.int v2, .ref 201]) 2 rfl ?_
      refine l1_putI hQ mt_X12_isFresh rfl (o := 201) (ci := 11) (k := 19) (a := 0) rfl rfl rfl rfl rfl rfl (fun c1 => ?_)
      refine l1_many mt_X12_isFresh (pc' := 72) (L' := [some (.ref 201), some (.int p1), some (.int v2), some (.int v3), some (.int v4), some (.int v5)]) (st' := [.int v3, .ref 201]) 2 rfl ?_
      refine l1_putI hQ mt_X12_isFresh rfl (o := 201) (ci := 11) (k := 20) (a := 0) rfl rfl rfl rfl rfl rfl (fun c2 => ?_)
      refine l1_many mt_X12_isFresh (pc' := 77) (L' := [some (.ref 201), some (.int p1), some (.int v2), some (.int v3), some (.int v4), some (.int v5)]) (st' := [.int v4]) 1 rfl ?_
      refine l1_ck (fun hz => ?_)
      exact l1_retZ mt_X12_isFresh rfl rfl rfl hz
    · refine l1_many mt_X12_isFresh (pc' := bif am_cc .eq v4 0 then 65 else 40) (L' := [some (.ref 201), some (.int p1), some (.int v2), some (.int v3), some (.int v4), some (.int v5)]) (st' := []) 2 rfl ?_
      refine l1_bif rfl ?_ ?_
      · refine l1_many mt_X12_isFresh (pc' := 67) (L' := [some (.ref 201), some (.int p1), some (.int v2), some (.int v3), some (.int v4), some (.int v5)]) (st' := [.int v2, .ref 201]) 2 rfl ?_
        refine l1_putI hQ mt_X12_isFresh rfl (o := 201) (ci := 11) (k := 19) (a := 0) rfl rfl rfl rfl rfl rfl (fun c3 => ?_)
        refine l1_many mt_X12_isFresh (pc' := 72) (L' := [some (.ref 201), some (.int p1), some (.int v2), some (.int v3), some (.int v4), some (.int v5)]) (st' := [.int v3, .ref 201]) 2 rfl ?_
        refine l1_putI hQ mt_X12_isFresh rfl (o := 201) (ci := 11) (k := 20) (a := 0) rfl rfl rfl rfl rfl rfl (fun c4 => ?_)
        refine l1_many mt_X12_isFresh (pc' := 77) (L' := [some (.ref 201), some (.int p1), some (.int v2), some (.int v3), some (.int v4), some (.int v5)]) (st' := [.int v4]) 1 rfl ?_
        refine l1_ck (fun hz => ?_)
        exact l1_retZ mt_X12_isFresh rfl rfl rfl hz
      · refine l1_many mt_X12_isFresh (pc' := 46) (L' := [some (.ref 201), some (.int p1), some (.int v2), some (.int v3), some (.int v4), some (.int v5)]) (st' := [.int v5, .int v3, .int v2, .int p1, .ref 201]) 5 rfl ?_
        refine l1_callV hQ mt_X12_isFresh mt_X12_isSamePart rfl rfl (o := 201) (ci := 11) (As := [.int p1, .int v2, .int v3, .int v5]) (rest := []) rfl rfl rfl rfl rfl rfl (st1 := fun x5 => [.int x5]) (fun _ => rfl) (ok_X12_isSamePart hQ N c p1 v2 v3 v5) (fun x5 c6 => ?_)
        refine l1_many mt_X12_isFresh (pc' := bif am_cc .ne x5 0 then 56 else 52) (L' := [some (.ref 201), some (.int p1), some (.int v2), some (.int v3), some (.int v4), some (.int v5)]) (st' := []) 1 rfl ?_
        refine l1_bin rfl ?_ ?_
        · refine l1_many mt_X12_isFresh (pc' := 29) (L' := [some (.ref 201), some (.int p1), some (.int v2), some (.int v3), some (.int 1), some (.int (v5 + 1))]) (st' := []) 5 rfl ?_
          exact ih c6 v2 v3 1 (v5 + 1)
        · refine l1_many mt_X12_isFresh (pc' := 29) (L' := [some (.ref 201), some (.int p1), some (.int v2), some (.int v3), some (.int 0), some (.int (v5 + 1))]) (st' := []) 4 rfl ?_
          exact ih c6 v2 v3 0 (v5 + 1)
set_option maxRecDepth 100000 in
theorem en_X12_isFresh {Q : hS → am_H → Prop} (hQ : l1_em km Q) (N : Nat) (c : hS) (p1 : Int32) : l1_G (wN wI) Q am_i_X12_isFresh 0 [some (.ref 201), some (.int p1)] [] c (f_X12_isFresh N c p1) := by
  rw [f_X12_isFresh]
  refine l1_many mt_X12_isFresh (pc' := 2) (L' := [some (.ref 201), some (.int p1)]) (st' := [.int p1, .ref 201]) 2 rfl ?_
  refine l1_callV hQ mt_X12_isFresh mt_X12_findPart rfl rfl (o := 201) (ci := 11) (As := [.int p1]) (rest := []) rfl rfl rfl rfl rfl rfl (st1 := fun _ => []) (fun _ => rfl) (ok_X12_findPart hQ N c p1) (fun _ c1 => ?_)
  refine l1_many mt_X12_isFresh (pc' := 6) (L' := [some (.ref 201), some (.int p1)]) (st' := [.ref 201]) 1 rfl ?_
  refine l1_getI hQ mt_X12_isFresh rfl (o := 201) (ci := 11) (k := 19) (a := 0) (b := 0) rfl rfl rfl rfl rfl ?_
  refine l1_many mt_X12_isFresh (pc' := 11) (L' := [some (.ref 201), some (.int p1), some (.int (c1.1 201 19))]) (st' := [.ref 201]) 2 rfl ?_
  refine l1_getI hQ mt_X12_isFresh rfl (o := 201) (ci := 11) (k := 20) (a := 0) (b := 0) rfl rfl rfl rfl rfl ?_
  refine l1_many mt_X12_isFresh (pc' := bif am_cc .le (c1.1 201 20) 0 then 23 else 19) (L' := [some (.ref 201), some (.int p1), some (.int (c1.1 201 19)), some (.int (c1.1 201 20))]) (st' := []) 3 rfl ?_
  refine l1_bif rfl ?_ ?_
  · refine l1_many mt_X12_isFresh (pc' := 29) (L' := [some (.ref 201), some (.int p1), some (.int (c1.1 201 19)), some (.int (c1.1 201 20)), some (.int 0), some (.int 0)]) (st' := []) 4 rfl ?_
    exact ok_X12_isFresh_29 hQ N p1 N c1 (c1.1 201 19) (c1.1 201 20) 0 0
  · refine l1_many mt_X12_isFresh (pc' := 29) (L' := [some (.ref 201), some (.int p1), some (.int (c1.1 201 19)), some (.int (c1.1 201 20)), some (.int 1), some (.int 0)]) (st' := []) 5 rfl ?_
    exact ok_X12_isFresh_29 hQ N p1 N c1 (c1.1 201 19) (c1.1 201 20) 1 0
theorem ok_X12_isFresh {Q : hS → am_H → Prop} (hQ : l1_em km Q) (N : Nat) (c : hS) (p1 : Int32) : l1_T wI Q am_i_X12_isFresh [.ref 201, .int p1] c (f_X12_isFresh N c p1) := l1_of (en_X12_isFresh hQ N c p1) ⟨rfl, rfl, trivial⟩
set_option maxRecDepth 100000 in
theorem ok_X12_child_89 {Q : hS → am_H → Prop} (hQ : l1_em km Q) (N : Nat) (p1 : Int32) (p2 : Int32) : ∀ (c : hS) (v4 : Int32) (w0 : Int32), l1_G (wN wI) Q am_i_X12_child 89 [some (.ref 201), none, some (.int p2), none, some (.int v4)] [.int w0, .ref 201] c (f_X12_child_89 N p1 p2 c v4 w0) := by
  intro c v4 w0
  rw [f_X12_child_89]
  refine l1_many mt_X12_child (pc' := 90) (L' := [some (.ref 201), none, some (.int p2), none, some (.int v4)]) (st' := [.int 1, .int w0, .ref 201]) 1 rfl ?_
  refine l1_callV hQ mt_X12_child mt_X12_refuses rfl rfl (o := 201) (ci := 11) (As := [.int w0, .int 1]) (rest := []) rfl rfl rfl rfl rfl rfl (st1 := fun x1 => [.int x1]) (fun _ => rfl) (ok_X12_refuses hQ c w0 1) (fun x1 c2 => ?_)
  refine l1_many mt_X12_child (pc' := bif am_cc .eq x1 0 then 100 else 96) (L' := [some (.ref 201), none, some (.int p2), none, some (.int v4)]) (st' := []) 1 rfl ?_
  refine l1_bif rfl ?_ ?_
  · refine l1_many mt_X12_child (pc' := bif am_cc .ne p2 (-1) then 112 else 105) (L' := [some (.ref 201), none, some (.int p2), none, some (.int v4)]) (st' := []) 3 rfl ?_
    refine l1_bin rfl ?_ ?_
    · refine l1_many mt_X12_child (pc' := 106) (L' := [some (.ref 201), none, some (.int p2), none, some (.int v4)]) (st' := [.ref 201]) 1 rfl ?_
      refine l1_getI hQ mt_X12_child rfl (o := 201) (ci := 11) (k := 20) (a := 0) (b := 0) rfl rfl rfl rfl rfl ?_
      refine l1_many mt_X12_child (pc' := 124) (L' := [some (.ref 201), none, some (.int p2), none, some (.int v4)]) (st' := [.int (c2.1 201 20)]) 1 rfl ?_
      exact l1_ret mt_X12_child rfl rfl rfl
    · refine l1_many mt_X12_child (pc' := 116) (L' := [some (.ref 201), none, some (.int p2), none, some (.int v4)]) (st' := [.ref 201, .int v4, .ref 201]) 3 rfl ?_
      refine l1_getI hQ mt_X12_child rfl (o := 201) (ci := 11) (k := 19) (a := 0) (b := 0) rfl rfl rfl rfl rfl ?_
      refine l1_many mt_X12_child (pc' := 121) (L' := [some (.ref 201), none, some (.int p2), none, some (.int v4)]) (st' := [.int ((c2.1 201 19) + p2), .int v4, .ref 201]) 2 rfl ?_
      refine l1_callV hQ mt_X12_child mt_X12_nameAt rfl rfl (o := 201) (ci := 11) (As := [.int v4, .int ((c2.1 201 19) + p2)]) (rest := []) rfl rfl rfl rfl rfl rfl (st1 := fun x3 => [.int x3]) (fun _ => rfl) (ok_X12_nameAt hQ c2 v4 ((c2.1 201 19) + p2)) (fun x3 c4 => ?_)
      exact l1_ret mt_X12_child rfl rfl rfl
  · refine l1_many mt_X12_child (pc' := 124) (L' := [some (.ref 201), none, some (.int p2), none, some (.int v4)]) (st' := [.int 0]) 2 rfl ?_
    exact l1_ret mt_X12_child rfl rfl rfl
set_option maxRecDepth 100000 in
theorem ok_X12_child_145 {Q : hS → am_H → Prop} (hQ : l1_em km Q) (N : Nat) (p1 : Int32) (p2 : Int32) : ∀ (c : hS) (v3 : Int32) (w0 : Int32), l1_G (wN wI) Q am_i_X12_child 145 [none, none, none, some (.int v3)] [.int w0, .ref 201] c (f_X12_child_145 N p1 p2 c v3 w0) := by
  intro c v3 w0
  rw [f_X12_child_145]
  refine l1_many mt_X12_child (pc' := 146) (L' := [none, none, none, some (.int v3)]) (st' := [.int 1, .int w0, .ref 201]) 1 rfl ?_
  refine l1_callV hQ mt_X12_child mt_X12_refuses rfl rfl (o := 201) (ci := 11) (As := [.int w0, .int 1]) (rest := []) rfl rfl rfl rfl rfl rfl (st1 := fun x1 => [.int x1]) (fun _ => rfl) (ok_X12_refuses hQ c w0 1) (fun x1 c2 => ?_)
  refine l1_many mt_X12_child (pc' := bif am_cc .eq x1 0 then 156 else 152) (L' := [none, none, none, some (.int v3)]) (st' := []) 1 rfl ?_
  refine l1_bif rfl ?_ ?_
  · refine l1_many mt_X12_child (pc' := 157) (L' := [none, none, none, some (.int v3)]) (st' := [.int v3]) 1 rfl ?_
    exact l1_ret mt_X12_child rfl rfl rfl
  · refine l1_many mt_X12_child (pc' := 157) (L' := [none, none, none, some (.int v3)]) (st' := [.int 0]) 2 rfl ?_
    exact l1_ret mt_X12_child rfl rfl rfl
set_option maxRecDepth 100000 in
theorem ok_X12_child_39 {Q : hS → am_H → Prop} (hQ : l1_em km Q) (N : Nat) (p1 : Int32) (p2 : Int32) : ∀ n : Nat, ∀ (c : hS) (v3 : Int32) (v4 : Int32), l1_G (wN wI) Q am_i_X12_child 39 [some (.ref 201), some (.int p1), some (.int p2), some (.int v3), some (.int v4)] [] c (f_X12_child_39 N p1 p2 n c v3 v4) := by
  intro n
  induction n with
  | zero => intro c v3 v4; exact l1_none
  | succ n ih =>
    intro c v3 v4
    rw [f_X12_child_39]
    refine l1_many mt_X12_child (pc' := 42) (L' := [some (.ref 201), some (.int p1), some (.int p2), some (.int v3), some (.int v4)]) (st' := [.ref 201, .int v4]) 2 rfl ?_
    refine l1_getI hQ mt_X12_child rfl (o := 201) (ci := 11) (k := 7) (a := 0) (b := 0) rfl rfl rfl rfl rfl ?_
    refine l1_many mt_X12_child (pc' := bif am_cc .ge v4 (c.1 201 7) then 134 else 48) (L' := [some (.ref 201), some (.int p1), some (.int p2), some (.int v3), some (.int v4)]) (st' := []) 1 rfl ?_
    refine l1_bif rfl ?_ ?_
    · refine l1_many mt_X12_child (pc' := bif am_cc .eq p1 (-1) then 144 else 140) (L' := [some (.ref 201), some (.int p1), some (.int p2), some (.int v3), some (.int v4)]) (st' := [.ref 201]) 4 rfl ?_
      refine l1_bif rfl ?_ ?_
      · refine l1_many mt_X12_child (pc' := 145) (L' := [some (.ref 201), some (.int p1), some (.int p2), some (.int v3), some (.int v4)]) (st' := [.int 0, .ref 201]) 1 rfl ?_
        refine l1_weak (m := [false, false, false, true, false]) (L' := [none, none, none, some (.int v3)]) rfl ?_
        exact ok_X12_child_145 hQ N p1 p2 c v3 0
      · refine l1_many mt_X12_child (pc' := 145) (L' := [some (.ref 201), some (.int p1), some (.int p2), some (.int v3), some (.int v4)]) (st' := [.int 1, .ref 201]) 2 rfl ?_
        refine l1_weak (m := [false, false, false, true, false]) (L' := [none, none, none, some (.int v3)]) rfl ?_
        exact ok_X12_child_145 hQ N p1 p2 c v3 1
    · refine l1_many mt_X12_child (pc' := 51) (L' := [some (.ref 201), some (.int p1), some (.int p2), some (.int v3), some (.int v4)]) (st' := [.int v4, .ref 201]) 2 rfl ?_
      refine l1_callV hQ mt_X12_child mt_X12_isFresh rfl rfl (o := 201) (ci := 11) (As := [.int v4]) (rest := []) rfl rfl rfl rfl rfl rfl (st1 := fun x1 => [.int x1]) (fun _ => rfl) (ok_X12_isFresh hQ N c v4) (fun x1 c2 => ?_)
      refine l1_many mt_X12_child (pc' := bif am_cc .ne x1 0 then 60 else 57) (L' := [some (.ref 201), some (.int p1), some (.int p2), some (.int v3), some (.int v4)]) (st' := []) 1 rfl ?_
      refine l1_bin rfl ?_ ?_
      · refine l1_many mt_X12_child (pc' := 39) (L' := [some (.ref 201), some (.int p1), some (.int p2), some (.int v3), some (.int (v4 + 1))]) (st' := []) 3 rfl ?_
        exact ih c2 v3 (v4 + 1)
      · refine l1_many mt_X12_child (pc' := bif am_cc .ne v3 p1 then 125 else 65) (L' := [some (.ref 201), some (.int p1), some (.int p2), some (.int v3), some (.int v4)]) (st' := []) 3 rfl ?_
        refine l1_bin rfl ?_ ?_
        · refine l1_many mt_X12_child (pc' := 72) (L' := [some (.ref 201), some (.int p1), some (.int p2), some (.int v3), some (.int v4)]) (st' := [.ref 201, .long (-1), .long p2.toInt64, .ref 201]) 5 rfl ?_
          refine l1_getI hQ mt_X12_child rfl (o := 201) (ci := 11) (k := 20) (a := 0) (b := 0) rfl rfl rfl rfl rfl ?_
          refine l1_many mt_X12_child (pc' := 78) (L' := [some (.ref 201), some (.int p1), some (.int p2), some (.int v3), some (.int v4)]) (st' := [.long (((c2.1 201 20) - 1).toInt64), .long (-1), .long p2.toInt64, .ref 201]) 3 rfl ?_
          refine l1_callS mt_X12_child mt_X12_in rfl rfl (As := [.long p2.toInt64, .long (-1), .long (((c2.1 201 20) - 1).toInt64)]) (rest := [.ref 201]) rfl rfl rfl (st1 := fun x3 => [.int x3, .ref 201]) (fun _ => rfl) (ok_X12_in hQ c2 p2.toInt64 (-1) (((c2.1 201 20) - 1).toInt64)) (fun x3 c4 => ?_)
          refine l1_many mt_X12_child (pc' := bif am_cc .ne x3 0 then 88 else 84) (L' := [some (.ref 201), some (.int p1), some (.int p2), some (.int v3), some (.int v4)]) (st' := [.ref 201]) 1 rfl ?_
          refine l1_bin rfl ?_ ?_
          · refine l1_many mt_X12_child (pc' := 89) (L' := [some (.ref 201), some (.int p1), some (.int p2), some (.int v3), some (.int v4)]) (st' := [.int 1, .ref 201]) 2 rfl ?_
            refine l1_weak (m := [true, false, true, false, true]) (L' := [some (.ref 201), none, some (.int p2), none, some (.int v4)]) rfl ?_
            exact ok_X12_child_89 hQ N p1 p2 c4 v4 1
          · refine l1_many mt_X12_child (pc' := 89) (L' := [some (.ref 201), some (.int p1), some (.int p2), some (.int v3), some (.int v4)]) (st' := [.int 0, .ref 201]) 1 rfl ?_
            refine l1_weak (m := [true, false, true, false, true]) (L' := [some (.ref 201), none, some (.int p2), none, some (.int v4)]) rfl ?_
            exact ok_X12_child_89 hQ N p1 p2 c4 v4 0
        · refine l1_many mt_X12_child (pc' := 39) (L' := [some (.ref 201), some (.int p1), some (.int p2), some (.int (v3 + 1)), some (.int (v4 + 1))]) (st' := []) 3 rfl ?_
          exact ih c2 (v3 + 1) (v4 + 1)
set_option maxRecDepth 100000 in
theorem ok_X12_child_21 {Q : hS → am_H → Prop} (hQ : l1_em km Q) (N : Nat) (p1 : Int32) (p2 : Int32) : ∀ (c : hS) (w0 : Int32), l1_G (wN wI) Q am_i_X12_child 21 [some (.ref 201), some (.int p1), some (.int p2)] [.int w0, .ref 201] c (f_X12_child_21 N p1 p2 c w0) := by
  intro c w0
  rw [f_X12_child_21]
  refine l1_many mt_X12_child (pc' := 22) (L' := [some (.ref 201), some (.int p1), some (.int p2)]) (st' := [.int 1, .int w0, .ref 201]) 1 rfl ?_
  refine l1_callV hQ mt_X12_child mt_X12_refuses rfl rfl (o := 201) (ci := 11) (As := [.int w0, .int 1]) (rest := []) rfl rfl rfl rfl rfl rfl (st1 := fun x1 => [.int x1]) (fun _ => rfl) (ok_X12_refuses hQ c w0 1) (fun x1 c2 => ?_)
  refine l1_many mt_X12_child (pc' := bif am_cc .eq x1 0 then 30 else 28) (L' := [some (.ref 201), some (.int p1), some (.int p2)]) (st' := []) 1 rfl ?_
  refine l1_bif rfl ?_ ?_
  · refine l1_many mt_X12_child (pc' := 31) (L' := [some (.ref 201), some (.int p1), some (.int p2)]) (st' := [.ref 201]) 1 rfl ?_
    refine l1_callV hQ mt_X12_child mt_X12_takePath rfl rfl (o := 201) (ci := 11) (As := []) (rest := []) rfl rfl rfl rfl rfl rfl (st1 := fun _ => []) (fun _ => rfl) (ok_X12_takePath hQ N c2) (fun _ c3 => ?_)
    refine l1_many mt_X12_child (pc' := 39) (L' := [some (.ref 201), some (.int p1), some (.int p2), some (.int 0), some (.int 0)]) (st' := []) 4 rfl ?_
    exact ok_X12_child_39 hQ N p1 p2 N c3 0 0
  · refine l1_many mt_X12_child (pc' := 29) (L' := [some (.ref 201), some (.int p1), some (.int p2)]) (st' := [.int 0]) 1 rfl ?_
    exact l1_ret mt_X12_child rfl rfl rfl
set_option maxRecDepth 100000 in
theorem ok_X12_child_20 {Q : hS → am_H → Prop} (hQ : l1_em km Q) (N : Nat) (p1 : Int32) (p2 : Int32) : ∀ (c : hS), l1_G (wN wI) Q am_i_X12_child 20 [some (.ref 201), some (.int p1), some (.int p2)] [.ref 201] c (f_X12_child_20 N p1 p2 c) := by
  intro c
  rw [f_X12_child_20]
  refine l1_many mt_X12_child (pc' := 21) (L' := [some (.ref 201), some (.int p1), some (.int p2)]) (st' := [.int 0, .ref 201]) 1 rfl ?_
  exact ok_X12_child_21 hQ N p1 p2 c 0
set_option maxRecDepth 100000 in
theorem en_X12_child {Q : hS → am_H → Prop} (hQ : l1_em km Q) (N : Nat) (c : hS) (p1 : Int32) (p2 : Int32) : l1_G (wN wI) Q am_i_X12_child 0 [some (.ref 201), some (.int p1), some (.int p2)] [] c (f_X12_child N c p1 p2) := by
  rw [f_X12_child]
  refine l1_many mt_X12_child (pc' := 2) (L' := [some (.ref 201), some (.int p1), some (.int p2)]) (st' := [.int 0, .ref 201]) 2 rfl ?_
  refine l1_putI hQ mt_X12_child rfl (o := 201) (ci := 11) (k := 0) (a := 0) rfl rfl rfl rfl rfl rfl (fun c1 => ?_)
  refine l1_many mt_X12_child (pc' := bif am_cc .ne p1 (-1) then 20 else 11) (L' := [some (.ref 201), some (.int p1), some (.int p2)]) (st' := [.ref 201]) 4 rfl ?_
  refine l1_bin rfl ?_ ?_
  · refine l1_many mt_X12_child (pc' := bif am_cc .eq p2 (-1) then 20 else 16) (L' := [some (.ref 201), some (.int p1), some (.int p2)]) (st' := [.ref 201]) 3 rfl ?_
    refine l1_bif rfl ?_ ?_
    · exact ok_X12_child_20 hQ N p1 p2 c1
    · refine l1_many mt_X12_child (pc' := 21) (L' := [some (.ref 201), some (.int p1), some (.int p2)]) (st' := [.int 1, .ref 201]) 2 rfl ?_
      exact ok_X12_child_21 hQ N p1 p2 c1 1
  · exact ok_X12_child_20 hQ N p1 p2 c1
theorem ok_X12_child {Q : hS → am_H → Prop} (hQ : l1_em km Q) (N : Nat) (c : hS) (p1 : Int32) (p2 : Int32) : l1_T wI Q am_i_X12_child [.ref 201, .int p1, .int p2] c (f_X12_child N c p1 p2) := l1_of (en_X12_child hQ N c p1 p2) ⟨rfl, rfl, rfl, trivial⟩
set_option maxRecDepth 100000 in
theorem ok_X12_isRow_41 {Q : hS → am_H → Prop} (hQ : l1_em km Q) (N : Nat) (p1 : Int32) (p2 : Int32) (p3 : Int32) (p4 : Int32) (p5 : Int32) (p6 : Int32) {k3 : hS → Int32 → Option (Int32 × hS)} (hk3 : ∀ c v7, l1_G (wN wI) Q am_i_X12_isRow 3 [some (.ref 201), some (.int p1), some (.int p2), some (.int p3), some (.int p4), some (.int p5), some (.int p6), some (.int v7)] [] c (k3 c v7)) : ∀ (c : hS) (v7 : Int32) (w0 : Int32), l1_G (wN wI) Q am_i_X12_isRow 41 [some (.ref 201), some (.int p1), some (.int p2), some (.int p3), some (.int p4), some (.int p5), some (.int p6), some (.int v7)] [.int w0] c (f_X12_isRow_41 N p1 p2 p3 p4 p5 p6 k3 c v7 w0) := by
  intro c v7 w0
  rw [f_X12_isRow_41]
  refine l1_many mt_X12_isRow (pc' := 44) (L' := [some (.ref 201), some (.int p1), some (.int p2), some (.int p3), some (.int p4), some (.int p5), some (.int p6), some (.int v7), some (.int w0)]) (st' := [.ref 201]) 2 rfl ?_
  refine l1_getR hQ mt_X12_isRow rfl (o := 201) (ci := 11) (k := 3) (a := 0) (b := 0) rfl rfl rfl rfl rfl (q := 203) rfl ?_
  refine l1_many mt_X12_isRow (pc' := 51) (L' := [some (.ref 201), some (.int p1), some (.int p2), some (.int p3), some (.int p4), some (.int p5), some (.int p6), some (.int v7), some (.int w0)]) (st' := [.int (p1 + v7), .ref 203]) 3 rfl ?_
  refine l1_ck (fun hx => ?_)
  refine l1_ald hQ mt_X12_isRow rfl (o := 203) rfl hx ?_
  refine l1_many mt_X12_isRow (pc' := bif am_cc .eq (c.1 203 (p1 + v7).toNatClampNeg) w0 then 68 else 57) (L' := [some (.ref 201), some (.int p1), some (.int p2), some (.int p3), some (.int p4), some (.int p5), some (.int p6), some (.int v7), some (.int w0)]) (st' := []) 2 rfl ?_
  refine l1_bif rfl ?_ ?_
  · refine l1_many mt_X12_isRow (pc' := 3) (L' := [some (.ref 201), some (.int p1), some (.int p2), some (.int p3), some (.int p4), some (.int p5), some (.int p6), some (.int (v7 + 1)), some (.int w0)]) (st' := []) 2 rfl ?_
    refine l1_weak (m := [true, true, true, true, true, true, true, true, false]) (L' := [some (.ref 201), some (.int p1), some (.int p2), some (.int p3), some (.int p4), some (.int p5), some (.int p6), some (.int (v7 + 1))]) rfl ?_
    exact hk3 c (v7 + 1)
  · refine l1_many mt_X12_isRow (pc' := 64) (L' := [some (.ref 201), some (.int p1), some (.int p2), some (.int p3), some (.int p4), some (.int p5), some (.int p6), some (.int v7), some (.int w0)]) (st' := [.int (p1 + v7), .int p6, .ref 201]) 5 rfl ?_
    refine l1_callV hQ mt_X12_isRow mt_X12_fails rfl rfl (o := 201) (ci := 11) (As := [.int p6, .int (p1 + v7)]) (rest := []) rfl rfl rfl rfl rfl rfl (st1 := fun x1 => [.int x1]) (fun _ => rfl) (ok_X12_fails hQ c p6 (p1 + v7)) (fun x1 c2 => ?_)
    refine l1_ck (fun hz => ?_)
    exact l1_retZ mt_X12_isRow rfl rfl rfl hz
set_option maxRecDepth 100000 in
theorem ok_X12_isRow_3 {Q : hS → am_H → Prop} (hQ : l1_em km Q) (N : Nat) (p1 : Int32) (p2 : Int32) (p3 : Int32) (p4 : Int32) (p5 : Int32) (p6 : Int32) : ∀ n : Nat, ∀ (c : hS) (v7 : Int32), l1_G (wN wI) Q am_i_X12_isRow 3 [some (.ref 201), some (.int p1), some (.int p2), some (.int p3), some (.int p4), some (.int p5), some (.int p6), some (.int v7)] [] c (f_X12_isRow_3 N p1 p2 p3 p4 p5 p6 n c v7) := by
  intro n
  induction n with
  | zero => intro c v7; exact l1_none
  | succ n ih =>
    intro c v7
    rw [f_X12_isRow_3]
    refine l1_many mt_X12_isRow (pc' := bif am_cc .ge v7 4 then 74 else 9) (L' := [some (.ref 201), some (.int p1), some (.int p2), some (.int p3), some (.int p4), some (.int p5), some (.int p6), some (.int v7)]) (st' := []) 3 rfl ?_
    refine l1_bif rfl ?_ ?_
    · refine l1_many mt_X12_isRow (pc' := 75) (L' := [some (.ref 201), some (.int p1), some (.int p2), some (.int p3), some (.int p4), some (.int p5), some (.int p6), some (.int v7)]) (st' := [.int 1]) 1 rfl ?_
      exact l1_ret mt_X12_isRow rfl rfl rfl
    · refine l1_many mt_X12_isRow (pc' := bif am_cc .ne v7 0 then 18 else 14) (L' := [some (.ref 201), some (.int p1), some (.int p2), some (.int p3), some (.int p4), some (.int p5), some (.int p6), some (.int v7)]) (st' := []) 2 rfl ?_
      refine l1_bin rfl ?_ ?_
      · refine l1_many mt_X12_isRow (pc' := 41) (L' := [some (.ref 201), some (.int p1), some (.int p2), some (.int p3), some (.int p4), some (.int p5), some (.int p6), some (.int v7)]) (st' := [.int p2]) 2 rfl ?_
        exact ok_X12_isRow_41 hQ N p1 p2 p3 p4 p5 p6 ih c v7 p2
      · refine l1_many mt_X12_isRow (pc' := bif am_cc .ne v7 1 then 28 else 24) (L' := [some (.ref 201), some (.int p1), some (.int p2), some (.int p3), some (.int p4), some (.int p5), some (.int p6), some (.int v7)]) (st' := []) 3 rfl ?_
        refine l1_bin rfl ?_ ?_
        · refine l1_many mt_X12_isRow (pc' := 41) (L' := [some (.ref 201), some (.int p1), some (.int p2), some (.int p3), some (.int p4), some (.int p5), some (.int p6), some (.int v7)]) (st' := [.int p3]) 2 rfl ?_
          exact ok_X12_isRow_41 hQ N p1 p2 p3 p4 p5 p6 ih c v7 p3
        · refine l1_many mt_X12_isRow (pc' := bif am_cc .ne v7 2 then 39 else 34) (L' := [some (.ref 201), some (.int p1), some (.int p2), some (.int p3), some (.int p4), some (.int p5), some (.int p6), some (.int v7)]) (st' := []) 3 rfl ?_
          refine l1_bin rfl ?_ ?_
          · refine l1_many mt_X12_isRow (pc' := 41) (L' := [some (.ref 201), some (.int p1), some (.int p2), some (.int p3), some (.int p4), some (.int p5), some (.int p6), some (.int v7)]) (st' := [.int p4]) 2 rfl ?_
            exact ok_X12_isRow_41 hQ N p1 p2 p3 p4 p5 p6 ih c v7 p4
          · refine l1_many mt_X12_isRow (pc' := 41) (L' := [some (.ref 201), some (.int p1), some (.int p2), some (.int p3), some (.int p4), some (.int p5), some (.int p6), some (.int v7)]) (st' := [.int p5]) 1 rfl ?_
            exact ok_X12_isRow_41 hQ N p1 p2 p3 p4 p5 p6 ih c v7 p5
set_option maxRecDepth 100000 in
theorem en_X12_isRow {Q : hS → am_H → Prop} (hQ : l1_em km Q) (N : Nat) (c : hS) (p1 : Int32) (p2 : Int32) (p3 : Int32) (p4 : Int32) (p5 : Int32) (p6 : Int32) : l1_G (wN wI) Q am_i_X12_isRow 0 [some (.ref 201), some (.int p1), some (.int p2), some (.int p3), some (.int p4), some (.int p5), some (.int p6)] [] c (f_X12_isRow N c p1 p2 p3 p4 p5 p6) := by
  rw [f_X12_isRow]
  refine l1_many mt_X12_isRow (pc' := 3) (L' := [some (.ref 201), some (.int p1), some (.int p2), some (.int p3), some (.int p4), some (.int p5), some (.int p6), some (.int 0)]) (st' := []) 2 rfl ?_
  exact ok_X12_isRow_3 hQ N p1 p2 p3 p4 p5 p6 N c 0
theorem ok_X12_isRow {Q : hS → am_H → Prop} (hQ : l1_em km Q) (N : Nat) (c : hS) (p1 : Int32) (p2 : Int32) (p3 : Int32) (p4 : Int32) (p5 : Int32) (p6 : Int32) : l1_T wI Q am_i_X12_isRow [.ref 201, .int p1, .int p2, .int p3, .int p4, .int p5, .int p6] c (f_X12_isRow N c p1 p2 p3 p4 p5 p6) := l1_of (en_X12_isRow hQ N c p1 p2 p3 p4 p5 p6) ⟨rfl, rfl, rfl, rfl, rfl, rfl, rfl, trivial⟩
set_option maxRecDepth 100000 in
theorem en_X12_reaches {Q : hS → am_H → Prop} (hQ : l1_em km Q) (c : hS) (p1 : Int64) : l1_G (wN wI) Q am_i_X12_reaches 0 [some (.ref 201), some (.long p1)] [] c (f_X12_reaches c p1) := by
  rw [f_X12_reaches]
  refine l1_many mt_X12_reaches (pc' := 2) (L' := [some (.ref 201), some (.long p1)]) (st' := [.ref 201, .long p1]) 2 rfl ?_
  refine l1_getI hQ mt_X12_reaches rfl (o := 201) (ci := 11) (k := 4) (a := 0) (b := 0) rfl rfl rfl rfl rfl ?_
  refine l1_many mt_X12_reaches (pc' := bif am_cc .le (j_cmp p1 ((c.1 201 4).toInt64)) 0 then 22 else 10) (L' := [some (.ref 201), some (.long p1)]) (st' := []) 3 rfl ?_
  refine l1_bif rfl ?_ ?_
  · refine l1_many mt_X12_reaches (pc' := 27) (L' := [some (.ref 201), some (.long p1)]) (st' := [.int 1]) 2 rfl ?_
    exact l1_ret mt_X12_reaches rfl rfl rfl
  · refine l1_many mt_X12_reaches (pc' := 13) (L' := [some (.ref 201), some (.long p1)]) (st' := [.ref 201, .int 1, .ref 201]) 3 rfl ?_
    refine l1_getI hQ mt_X12_reaches rfl (o := 201) (ci := 11) (k := 4) (a := 0) (b := 0) rfl rfl rfl rfl rfl ?_
    refine l1_callV hQ mt_X12_reaches mt_X12_fails rfl rfl (o := 201) (ci := 11) (As := [.int 1, .int (c.1 201 4)]) (rest := []) rfl rfl rfl rfl rfl rfl (st1 := fun x1 => [.int x1]) (fun _ => rfl) (ok_X12_fails hQ c 1 (c.1 201 4)) (fun x1 c2 => ?_)
    refine l1_many mt_X12_reaches (pc' := bif am_cc .eq x1 0 then 26 else 22) (L' := [some (.ref 201), some (.long p1)]) (st' := []) 1 rfl ?_
    refine l1_bif rfl ?_ ?_
    · refine l1_many mt_X12_reaches (pc' := 27) (L' := [some (.ref 201), some (.long p1)]) (st' := [.int 0]) 1 rfl ?_
      exact l1_ret mt_X12_reaches rfl rfl rfl
    · refine l1_many mt_X12_reaches (pc' := 27) (L' := [some (.ref 201), some (.long p1)]) (st' := [.int 1]) 2 rfl ?_
      exact l1_ret mt_X12_reaches rfl rfl rfl
theorem ok_X12_reaches {Q : hS → am_H → Prop} (hQ : l1_em km Q) (c : hS) (p1 : Int64) : l1_T wI Q am_i_X12_reaches [.ref 201, .long p1] c (f_X12_reaches c p1) := l1_of (en_X12_reaches hQ c p1) ⟨rfl, rfl, trivial⟩
set_option maxRecDepth 100000 in
theorem ok_X12_areZeros_2 {Q : hS → am_H → Prop} (hQ : l1_em km Q) (N : Nat) (p1 : Int32) : ∀ n : Nat, ∀ (c : hS) (v2 : Int32), l1_G (wN wI) Q am_i_X12_areZeros 2 [some (.ref 201), none, some (.int v2)] [] c (f_X12_areZeros_2 N p1 n c v2) := by
  intro n
  induction n with
  | zero => intro c v2; exact l1_none
  | succ n ih =>
    intro c v2
    rw [f_X12_areZeros_2]
    refine l1_many mt_X12_areZeros (pc' := 4) (L' := [some (.ref 201), none, some (.int v2)]) (st' := [.ref 201, .int v2]) 2 rfl ?_
    refine l1_getI hQ mt_X12_areZeros rfl (o := 201) (ci := 11) (k := 4) (a := 0) (b := 0) rfl rfl rfl rfl rfl ?_
    refine l1_many mt_X12_areZeros (pc' := bif am_cc .ge v2 (c.1 201 4) then 32 else 10) (L' := [some (.ref 201), none, some (.int v2)]) (st' := []) 1 rfl ?_
    refine l1_bif rfl ?_ ?_
    · refine l1_many mt_X12_areZeros (pc' := 33) (L' := [some (.ref 201), none, some (.int v2)]) (st' := [.int 1]) 1 rfl ?_
      exact l1_ret mt_X12_areZeros rfl rfl rfl
    · refine l1_many mt_X12_areZeros (pc' := 11) (L' := [some (.ref 201), none, some (.int v2)]) (st' := [.ref 201]) 1 rfl ?_
      refine l1_getR hQ mt_X12_areZeros rfl (o := 201) (ci := 11) (k := 3) (a := 0) (b := 0) rfl rfl rfl rfl rfl (q := 203) rfl ?_
      refine l1_many mt_X12_areZeros (pc' := 15) (L' := [some (.ref 201), none, some (.int v2)]) (st' := [.int v2, .ref 203]) 1 rfl ?_
      refine l1_ck (fun hx => ?_)
      refine l1_ald hQ mt_X12_areZeros rfl (o := 203) rfl hx ?_
      refine l1_many mt_X12_areZeros (pc' := bif am_cc .eq (c.1 203 v2.toNatClampNeg) 0 then 26 else 19) (L' := [some (.ref 201), none, some (.int v2)]) (st' := []) 1 rfl ?_
      refine l1_bif rfl ?_ ?_
      · refine l1_many mt_X12_areZeros (pc' := 2) (L' := [some (.ref 201), none, some (.int (v2 + 1))]) (st' := []) 2 rfl ?_
        exact ih c (v2 + 1)
      · refine l1_many mt_X12_areZeros (pc' := 22) (L' := [some (.ref 201), none, some (.int v2)]) (st' := [.int v2, .int 2, .ref 201]) 3 rfl ?_
        refine l1_callV hQ mt_X12_areZeros mt_X12_fails rfl rfl (o := 201) (ci := 11) (As := [.int 2, .int v2]) (rest := []) rfl rfl rfl rfl rfl rfl (st1 := fun x1 => [.int x1]) (fun _ => rfl) (ok_X12_fails hQ c 2 v2) (fun x1 c2 => ?_)
        refine l1_ck (fun hz => ?_)
        exact l1_retZ mt_X12_areZeros rfl rfl rfl hz
set_option maxRecDepth 100000 in
theorem en_X12_areZeros {Q : hS → am_H → Prop} (hQ : l1_em km Q) (N : Nat) (c : hS) (p1 : Int32) : l1_G (wN wI) Q am_i_X12_areZeros 0 [some (.ref 201), some (.int p1)] [] c (f_X12_areZeros N c p1) := by
  rw [f_X12_areZeros]
  refine l1_many mt_X12_areZeros (pc' := 2) (L' := [some (.ref 201), some (.int p1), some (.int p1)]) (st' := []) 2 rfl ?_
  refine l1_weak (m := [true, false, true]) (L' := [some (.ref 201), none, some (.int p1)]) rfl ?_
  exact ok_X12_areZeros_2 hQ N p1 N c p1
theorem ok_X12_areZeros {Q : hS → am_H → Prop} (hQ : l1_em km Q) (N : Nat) (c : hS) (p1 : Int32) : l1_T wI Q am_i_X12_areZeros [.ref 201, .int p1] c (f_X12_areZeros N c p1) := l1_of (en_X12_areZeros hQ N c p1) ⟨rfl, rfl, trivial⟩
set_option maxRecDepth 100000 in
theorem ok_X12_comes_43 {Q : hS → am_H → Prop} (hQ : l1_em km Q) (N : Nat) (p1 : Int32) : ∀ (c : hS), l1_G (wN wI) Q am_i_X12_comes 43 [some (.ref 201)] [] c (f_X12_comes_43 N p1 c) := by
  intro c
  rw [f_X12_comes_43]
  refine l1_many mt_X12_comes (pc' := 48) (L' := [some (.ref 201)]) (st' := [.ref 201, .int 17, .ref 201, .ref 201]) 4 rfl ?_
  refine l1_getI hQ mt_X12_comes rfl (o := 201) (ci := 11) (k := 8) (a := 0) (b := 0) rfl rfl rfl rfl rfl ?_
  refine l1_callV hQ mt_X12_comes mt_X12_stand rfl rfl (o := 201) (ci := 11) (As := [.int 17, .int (c.1 201 8)]) (rest := [.ref 201]) rfl rfl rfl rfl rfl rfl (st1 := fun x1 => [.int x1, .ref 201]) (fun _ => rfl) (ok_X12_stand hQ N c 17 (c.1 201 8)) (fun x1 c2 => ?_)
  refine l1_putI hQ mt_X12_comes rfl (o := 201) (ci := 11) (k := 8) (a := 0) rfl rfl rfl rfl rfl rfl (fun c3 => ?_)
  refine l1_many mt_X12_comes (pc' := 58) (L' := [some (.ref 201)]) (st' := [.int 1]) 1 rfl ?_
  exact l1_ret mt_X12_comes rfl rfl rfl
set_option maxRecDepth 100000 in
theorem en_X12_comes {Q : hS → am_H → Prop} (hQ : l1_em km Q) (N : Nat) (c : hS) (p1 : Int32) : l1_G (wN wI) Q am_i_X12_comes 0 [some (.ref 201), some (.int p1)] [] c (f_X12_comes N c p1) := by
  rw [f_X12_comes]
  refine l1_many mt_X12_comes (pc' := 4) (L' := [some (.ref 201), some (.int p1)]) (st' := [.ref 201, .int 17, .ref 201]) 3 rfl ?_
  refine l1_getI hQ mt_X12_comes rfl (o := 201) (ci := 11) (k := 8) (a := 0) (b := 0) rfl rfl rfl rfl rfl ?_
  refine l1_callV hQ mt_X12_comes mt_X12_isInTheWay rfl rfl (o := 201) (ci := 11) (As := [.int 17, .int (c.1 201 8)]) (rest := []) rfl rfl rfl rfl rfl rfl (st1 := fun x1 => [.int x1]) (fun _ => rfl) (ok_X12_isInTheWay hQ N c 17 (c.1 201 8)) (fun x1 c2 => ?_)
  refine l1_many mt_X12_comes (pc' := bif am_cc .ne x1 0 then 35 else 13) (L' := [some (.ref 201), some (.int p1)]) (st' := []) 1 rfl ?_
  refine l1_bin rfl ?_ ?_
  · refine l1_many mt_X12_comes (pc' := 14) (L' := [some (.ref 201), some (.int p1)]) (st' := [.ref 201]) 1 rfl ?_
    refine l1_getI hQ mt_X12_comes rfl (o := 201) (ci := 11) (k := 8) (a := 0) (b := 0) rfl rfl rfl rfl rfl ?_
    refine l1_many mt_X12_comes (pc' := bif am_cc .ne (c2.1 201 8) 16 then 43 else 22) (L' := [some (.ref 201), some (.int p1)]) (st' := []) 2 rfl ?_
    refine l1_bin rfl ?_ ?_
    · refine l1_many mt_X12_comes (pc' := 26) (L' := [some (.ref 201), some (.int p1)]) (st' := [.ref 201, .int 17, .ref 201]) 3 rfl ?_
      refine l1_getI hQ mt_X12_comes rfl (o := 201) (ci := 11) (k := 8) (a := 0) (b := 0) rfl rfl rfl rfl rfl ?_
      refine l1_callV hQ mt_X12_comes mt_X12_seek rfl rfl (o := 201) (ci := 11) (As := [.int 17, .int (c2.1 201 8)]) (rest := []) rfl rfl rfl rfl rfl rfl (st1 := fun x5 => [.int x5]) (fun _ => rfl) (ok_X12_seek hQ N c2 17 (c2.1 201 8)) (fun x5 c6 => ?_)
      refine l1_many mt_X12_comes (pc' := bif am_cc .ge x5 0 then 43 else 35) (L' := [some (.ref 201), some (.int p1)]) (st' := []) 1 rfl ?_
      refine l1_bif rfl ?_ ?_
      · refine l1_weak (m := [true, false]) (L' := [some (.ref 201)]) rfl ?_
        exact ok_X12_comes_43 hQ N p1 c6
      · refine l1_many mt_X12_comes (pc' := 39) (L' := [some (.ref 201), some (.int p1)]) (st' := [.int p1, .int 11, .ref 201]) 3 rfl ?_
        refine l1_callV hQ mt_X12_comes mt_X12_fails rfl rfl (o := 201) (ci := 11) (As := [.int 11, .int p1]) (rest := []) rfl rfl rfl rfl rfl rfl (st1 := fun x7 => [.int x7]) (fun _ => rfl) (ok_X12_fails hQ c6 11 p1) (fun x7 c8 => ?_)
        refine l1_ck (fun hz => ?_)
        exact l1_retZ mt_X12_comes rfl rfl rfl hz
    · refine l1_weak (m := [true, false]) (L' := [some (.ref 201)]) rfl ?_
      exact ok_X12_comes_43 hQ N p1 c2
  · refine l1_many mt_X12_comes (pc' := 39) (L' := [some (.ref 201), some (.int p1)]) (st' := [.int p1, .int 11, .ref 201]) 3 rfl ?_
    refine l1_callV hQ mt_X12_comes mt_X12_fails rfl rfl (o := 201) (ci := 11) (As := [.int 11, .int p1]) (rest := []) rfl rfl rfl rfl rfl rfl (st1 := fun x3 => [.int x3]) (fun _ => rfl) (ok_X12_fails hQ c2 11 p1) (fun x3 c4 => ?_)
    refine l1_ck (fun hz => ?_)
    exact l1_retZ mt_X12_comes rfl rfl rfl hz
theorem ok_X12_comes {Q : hS → am_H → Prop} (hQ : l1_em km Q) (N : Nat) (c : hS) (p1 : Int32) : l1_T wI Q am_i_X12_comes [.ref 201, .int p1] c (f_X12_comes N c p1) := l1_of (en_X12_comes hQ N c p1) ⟨rfl, rfl, trivial⟩
set_option maxRecDepth 100000 in
theorem ok_X12_takeBytes_7 {Q : hS → am_H → Prop} (hQ : l1_em km Q) (N : Nat) (p1 : Int32) (p2 : Int32) : ∀ n : Nat, ∀ (c : hS) (v3 : Int32), l1_G (wN wV) Q am_i_X12_takeBytes 7 [some (.ref 201), some (.int p1), some (.int p2), some (.int v3)] [] c (f_X12_takeBytes_7 N p1 p2 n c v3) := by
  intro n
  induction n with
  | zero => intro c v3; exact l1_none
  | succ n ih =>
    intro c v3
    rw [f_X12_takeBytes_7]
    refine l1_many mt_X12_takeBytes (pc' := bif am_cc .ge v3 p2 then 32 else 12) (L' := [some (.ref 201), some (.int p1), some (.int p2), some (.int v3)]) (st' := []) 3 rfl ?_
    refine l1_bif rfl ?_ ?_
    · exact l1_ret mt_X12_takeBytes rfl rfl rfl
    · refine l1_many mt_X12_takeBytes (pc' := 13) (L' := [some (.ref 201), some (.int p1), some (.int p2), some (.int v3)]) (st' := [.ref 201]) 1 rfl ?_
      refine l1_getR hQ mt_X12_takeBytes rfl (o := 201) (ci := 11) (k := 17) (a := 0) (b := 0) rfl rfl rfl rfl rfl (q := 210) rfl ?_
      refine l1_many mt_X12_takeBytes (pc' := 18) (L' := [some (.ref 201), some (.int p1), some (.int p2), some (.int v3)]) (st' := [.ref 201, .int v3, .ref 210]) 2 rfl ?_
      refine l1_getR hQ mt_X12_takeBytes rfl (o := 201) (ci := 11) (k := 3) (a := 0) (b := 0) rfl rfl rfl rfl rfl (q := 203) rfl ?_
      refine l1_many mt_X12_takeBytes (pc' := 24) (L' := [some (.ref 201), some (.int p1), some (.int p2), some (.int v3)]) (st' := [.int (p1 + v3), .ref 203, .int v3, .ref 210]) 3 rfl ?_
      refine l1_ck (fun hx => ?_)
      refine l1_ald hQ mt_X12_takeBytes rfl (o := 203) rfl hx ?_
      refine l1_ck (fun hx => ?_)
      refine l1_ast hQ mt_X12_takeBytes rfl (o := 210) rfl hx (fun c1 => ?_)
      refine l1_many mt_X12_takeBytes (pc' := 7) (L' := [some (.ref 201), some (.int p1), some (.int p2), some (.int (v3 + 1))]) (st' := []) 2 rfl ?_
      exact ih c1 (v3 + 1)
set_option maxRecDepth 100000 in
theorem en_X12_takeBytes {Q : hS → am_H → Prop} (hQ : l1_em km Q) (N : Nat) (c : hS) (p1 : Int32) (p2 : Int32) : l1_G (wN wV) Q am_i_X12_takeBytes 0 [some (.ref 201), some (.int p1), some (.int p2)] [] c (f_X12_takeBytes N c p1 p2) := by
  rw [f_X12_takeBytes]
  refine l1_many mt_X12_takeBytes (pc' := 2) (L' := [some (.ref 201), some (.int p1), some (.int p2)]) (st' := [.int p2, .ref 201]) 2 rfl ?_
  refine l1_putI hQ mt_X12_takeBytes rfl (o := 201) (ci := 11) (k := 16) (a := 0) rfl rfl rfl rfl rfl rfl (fun c1 => ?_)
  refine l1_many mt_X12_takeBytes (pc' := 7) (L' := [some (.ref 201), some (.int p1), some (.int p2), some (.int 0)]) (st' := []) 2 rfl ?_
  exact ok_X12_takeBytes_7 hQ N p1 p2 N c1 0
theorem ok_X12_takeBytes {Q : hS → am_H → Prop} (hQ : l1_em km Q) (N : Nat) (c : hS) (p1 : Int32) (p2 : Int32) : l1_T wV Q am_i_X12_takeBytes [.ref 201, .int p1, .int p2] c (f_X12_takeBytes N c p1 p2) := l1_of (en_X12_takeBytes hQ N c p1 p2) ⟨rfl, rfl, rfl, trivial⟩
set_option maxRecDepth 100000 in
theorem ok_X12_readOctal_7 {Q : hS → am_H → Prop} (hQ : l1_em km Q) (N : Nat) (p1 : Int32) (p2 : Int32) : ∀ n : Nat, ∀ (c : hS) (v3 : Int32), l1_G (wN wI) Q am_i_X12_readOctal 7 [some (.ref 201), some (.int p1), some (.int p2), some (.int v3)] [] c (f_X12_readOctal_7 N p1 p2 n c v3) := by
  intro n
  induction n with
  | zero => intro c v3; exact l1_none
  | succ n ih =>
    intro c v3
    rw [f_X12_readOctal_7]
    refine l1_many mt_X12_readOctal (pc' := bif am_cc .ge v3 (p2 - 1) then 77 else 14) (L' := [some (.ref 201), some (.int p1), some (.int p2), some (.int v3)]) (st' := []) 5 rfl ?_
    refine l1_bif rfl ?_ ?_
    · refine l1_many mt_X12_readOctal (pc' := 78) (L' := [some (.ref 201), some (.int p1), some (.int p2), some (.int v3)]) (st' := [.ref 201]) 1 rfl ?_
      refine l1_getR hQ mt_X12_readOctal rfl (o := 201) (ci := 11) (k := 3) (a := 0) (b := 0) rfl rfl rfl rfl rfl (q := 203) rfl ?_
      refine l1_many mt_X12_readOctal (pc' := 86) (L' := [some (.ref 201), some (.int p1), some (.int p2), some (.int v3)]) (st' := [.int ((p1 + p2) - 1), .ref 203]) 5 rfl ?_
      refine l1_ck (fun hx => ?_)
      refine l1_ald hQ mt_X12_readOctal rfl (o := 203) rfl hx ?_
      refine l1_many mt_X12_readOctal (pc' := bif am_cc .eq (c.1 203 ((p1 + p2) - 1).toNatClampNeg) 0 then 104 else 90) (L' := [some (.ref 201), some (.int p1), some (.int p2), some (.int v3)]) (st' := []) 1 rfl ?_
      refine l1_bif rfl ?_ ?_
      · refine l1_many mt_X12_readOctal (pc' := 109) (L' := [some (.ref 201), some (.int p1), some (.int p2), some (.int v3)]) (st' := [.int 1]) 2 rfl ?_
        exact l1_ret mt_X12_readOctal rfl rfl rfl
      · refine l1_many mt_X12_readOctal (pc' := 98) (L' := [some (.ref 201), some (.int p1), some (.int p2), some (.int v3)]) (st' := [.int ((p1 + p2) - 1), .int 6, .ref 201]) 7 rfl ?_
        refine l1_callV hQ mt_X12_readOctal mt_X12_fails rfl rfl (o := 201) (ci := 11) (As := [.int 6, .int ((p1 + p2) - 1)]) (rest := []) rfl rfl rfl rfl rfl rfl (st1 := fun x1 => [.int x1]) (fun _ => rfl) (ok_X12_fails hQ c 6 ((p1 + p2) - 1)) (fun x1 c2 => ?_)
        refine l1_many mt_X12_readOctal (pc' := bif am_cc .eq x1 0 then 108 else 104) (L' := [some (.ref 201), some (.int p1), some (.int p2), some (.int v3)]) (st' := []) 1 rfl ?_
        refine l1_bif rfl ?_ ?_
        · refine l1_many mt_X12_readOctal (pc' := 109) (L' := [some (.ref 201), some (.int p1), some (.int p2), some (.int v3)]) (st' := [.int 0]) 1 rfl ?_
          exact l1_ret mt_X12_readOctal rfl rfl rfl
        · refine l1_many mt_X12_readOctal (pc' := 109) (L' := [some (.ref 201), some (.int p1), some (.int p2), some (.int v3)]) (st' := [.int 1]) 2 rfl ?_
          exact l1_ret mt_X12_readOctal rfl rfl rfl
    · refine l1_many mt_X12_readOctal (pc' := 15) (L' := [some (.ref 201), some (.int p1), some (.int p2), some (.int v3)]) (st' := [.ref 201]) 1 rfl ?_
      refine l1_getR hQ mt_X12_readOctal rfl (o := 201) (ci := 11) (k := 3) (a := 0) (b := 0) rfl rfl rfl rfl rfl (q := 203) rfl ?_
      refine l1_many mt_X12_readOctal (pc' := 21) (L' := [some (.ref 201), some (.int p1), some (.int p2), some (.int v3)]) (st' := [.int (p1 + v3), .ref 203]) 3 rfl ?_
      refine l1_ck (fun hx => ?_)
      refine l1_ald hQ mt_X12_readOctal rfl (o := 203) rfl hx ?_
      refine l1_many mt_X12_readOctal (pc' := 29) (L' := [some (.ref 201), some (.int p1), some (.int p2), some (.int v3)]) (st' := [.long 55, .long 48, .long ((c.1 203 (p1 + v3).toNatClampNeg).toInt64)]) 3 rfl ?_
      refine l1_callS mt_X12_readOctal mt_X12_in rfl rfl (As := [.long ((c.1 203 (p1 + v3).toNatClampNeg).toInt64), .long 48, .long 55]) (rest := []) rfl rfl rfl (st1 := fun x3 => [.int x3]) (fun _ => rfl) (ok_X12_in hQ c ((c.1 203 (p1 + v3).toNatClampNeg).toInt64) 48 55) (fun x3 c4 => ?_)
      refine l1_many mt_X12_readOctal (pc' := bif am_cc .ne x3 0 then 45 else 35) (L' := [some (.ref 201), some (.int p1), some (.int p2), some (.int v3)]) (st' := []) 1 rfl ?_
      refine l1_bin rfl ?_ ?_
      · refine l1_many mt_X12_readOctal (pc' := 41) (L' := [some (.ref 201), some (.int p1), some (.int p2), some (.int v3)]) (st' := [.int (p1 + v3), .int 6, .ref 201]) 5 rfl ?_
        refine l1_callV hQ mt_X12_readOctal mt_X12_fails rfl rfl (o := 201) (ci := 11) (As := [.int 6, .int (p1 + v3)]) (rest := []) rfl rfl rfl rfl rfl rfl (st1 := fun x6 => [.int x6]) (fun _ => rfl) (ok_X12_fails hQ c4 6 (p1 + v3)) (fun x6 c7 => ?_)
        refine l1_ck (fun hz => ?_)
        exact l1_retZ mt_X12_readOctal rfl rfl rfl hz
      · refine l1_many mt_X12_readOctal (pc' := 50) (L' := [some (.ref 201), some (.int p1), some (.int p2), some (.int v3)]) (st' := [.ref 201, .long 8, .ref 201]) 3 rfl ?_
        refine l1_getJ hQ mt_X12_readOctal rfl (o := 201) (ci := 11) (k := 21) (a := 0) (b := 0) rfl rfl rfl rfl rfl ?_
        refine l1_many mt_X12_readOctal (pc' := 55) (L' := [some (.ref 201), some (.int p1), some (.int p2), some (.int v3)]) (st' := [.ref 201, .long (8 * (c4.2.1 201 21)), .ref 201]) 2 rfl ?_
        refine l1_getR hQ mt_X12_readOctal rfl (o := 201) (ci := 11) (k := 3) (a := 0) (b := 0) rfl rfl rfl rfl rfl (q := 203) rfl ?_
        refine l1_many mt_X12_readOctal (pc' := 61) (L' := [some (.ref 201), some (.int p1), some (.int p2), some (.int v3)]) (st' := [.int (p1 + v3), .ref 203, .long (8 * (c4.2.1 201 21)), .ref 201]) 3 rfl ?_
        refine l1_ck (fun hx => ?_)
        refine l1_ald hQ mt_X12_readOctal rfl (o := 203) rfl hx ?_
        refine l1_many mt_X12_readOctal (pc' := 68) (L' := [some (.ref 201), some (.int p1), some (.int p2), some (.int v3)]) (st' := [.long (((8 * (c4.2.1 201 21)) + ((c4.1 203 (p1 + v3).toNatClampNeg).toInt64)) - 48), .ref 201]) 4 rfl ?_
        refine l1_putJ hQ mt_X12_readOctal rfl (o := 201) (ci := 11) (k := 21) (a := 0) rfl rfl rfl rfl rfl rfl (fun c5 => ?_)
        refine l1_many mt_X12_readOctal (pc' := 7) (L' := [some (.ref 201), some (.int p1), some (.int p2), some (.int (v3 + 1))]) (st' := []) 2 rfl ?_
        exact ih c5 (v3 + 1)
set_option maxRecDepth 100000 in
theorem en_X12_readOctal {Q : hS → am_H → Prop} (hQ : l1_em km Q) (N : Nat) (c : hS) (p1 : Int32) (p2 : Int32) : l1_G (wN wI) Q am_i_X12_readOctal 0 [some (.ref 201), some (.int p1), some (.int p2)] [] c (f_X12_readOctal N c p1 p2) := by
  rw [f_X12_readOctal]
  refine l1_many mt_X12_readOctal (pc' := 2) (L' := [some (.ref 201), some (.int p1), some (.int p2)]) (st' := [.long 0, .ref 201]) 2 rfl ?_
  refine l1_putJ hQ mt_X12_readOctal rfl (o := 201) (ci := 11) (k := 21) (a := 0) rfl rfl rfl rfl rfl rfl (fun c1 => ?_)
  refine l1_many mt_X12_readOctal (pc' := 7) (L' := [some (.ref 201), some (.int p1), some (.int p2), some (.int 0)]) (st' := []) 2 rfl ?_
  exact ok_X12_readOctal_7 hQ N p1 p2 N c1 0
theorem ok_X12_readOctal {Q : hS → am_H → Prop} (hQ : l1_em km Q) (N : Nat) (c : hS) (p1 : Int32) (p2 : Int32) : l1_T wI Q am_i_X12_readOctal [.ref 201, .int p1, .int p2] c (f_X12_readOctal N c p1 p2) := l1_of (en_X12_readOctal hQ N c p1 p2) ⟨rfl, rfl, rfl, trivial⟩
set_option maxRecDepth 100000 in
theorem ok_X12_readSum_65 {Q : hS → am_H → Prop} (hQ : l1_em km Q) (N : Nat) (p1 : Int32) : ∀ (c : hS) (v3 : Int32), l1_G (wN wI) Q am_i_X12_readSum 65 [some (.ref 201), some (.int p1), none, some (.int v3)] [] c (f_X12_readSum_65 N p1 c v3) := by
  intro c v3
  rw [f_X12_readSum_65]
  refine l1_many mt_X12_readSum (pc' := 74) (L' := [some (.ref 201), some (.int p1), none, some (.int v3)]) (st' := [.int ((p1 + 148) + v3), .int 3, .ref 201]) 7 rfl ?_
  refine l1_callV hQ mt_X12_readSum mt_X12_fails rfl rfl (o := 201) (ci := 11) (As := [.int 3, .int ((p1 + 148) + v3)]) (rest := []) rfl rfl rfl rfl rfl rfl (st1 := fun x1 => [.int x1]) (fun _ => rfl) (ok_X12_fails hQ c 3 ((p1 + 148) + v3)) (fun x1 c2 => ?_)
  refine l1_ck (fun hz => ?_)
  exact l1_retZ mt_X12_readSum rfl rfl rfl hz
set_option maxRecDepth 100000 in
theorem ok_X12_readSum_78 {Q : hS → am_H → Prop} (hQ : l1_em km Q) (N : Nat) (p1 : Int32) {k4 : hS → Int32 → Int32 → Option (Int32 × hS)} (hk4 : ∀ c v2 v3, l1_G (wN wI) Q am_i_X12_readSum 4 [some (.ref 201), some (.int p1), some (.int v2), some (.int v3)] [] c (k4 c v2 v3)) : ∀ (c : hS) (v2 : Int32) (v3 : Int32) (v4 : Int32), l1_G (wN wI) Q am_i_X12_readSum 78 [some (.ref 201), some (.int p1), some (.int v2), some (.int v3), some (.int v4)] [] c (f_X12_readSum_78 N p1 k4 c v2 v3 v4) := by
  intro c v2 v3 v4
  rw [f_X12_readSum_78]
  refine l1_many mt_X12_readSum (pc' := bif am_cc .ge v3 6 then 97 else 84) (L' := [some (.ref 201), some (.int p1), some (.int v2), some (.int v3), some (.int v4)]) (st' := []) 3 rfl ?_
  refine l1_bif rfl ?_ ?_
  · refine l1_many mt_X12_readSum (pc' := 4) (L' := [some (.ref 201), some (.int p1), some (.int v2), some (.int (v3 + 1)), some (.int v4)]) (st' := []) 4 rfl ?_
    refine l1_weak (m := [true, true, true, true, false]) (L' := [some (.ref 201), some (.int p1), some (.int v2), some (.int (v3 + 1))]) rfl ?_
    exact hk4 c v2 (v3 + 1)
  · refine l1_many mt_X12_readSum (pc' := 4) (L' := [some (.ref 201), some (.int p1), some (.int (((8 * v2) + v4) - 48)), some (.int (v3 + 1)), some (.int v4)]) (st' := []) 11 rfl ?_
    refine l1_weak (m := [true, true, true, true, false]) (L' := [some (.ref 201), some (.int p1), some (.int (((8 * v2) + v4) - 48)), some (.int (v3 + 1))]) rfl ?_
    exact hk4 c (((8 * v2) + v4) - 48) (v3 + 1)
set_option maxRecDepth 100000 in
theorem ok_X12_readSum_62 {Q : hS → am_H → Prop} (hQ : l1_em km Q) (N : Nat) (p1 : Int32) {k4 : hS → Int32 → Int32 → Option (Int32 × hS)} (hk4 : ∀ c v2 v3, l1_G (wN wI) Q am_i_X12_readSum 4 [some (.ref 201), some (.int p1), some (.int v2), some (.int v3)] [] c (k4 c v2 v3)) : ∀ (c : hS) (v2 : Int32) (v3 : Int32) (v4 : Int32) (w0 : Int32) (w1 : Int32), l1_G (wN wI) Q am_i_X12_readSum 62 [some (.ref 201), some (.int p1), some (.int v2), some (.int v3), some (.int v4)] [.int w0, .int w1] c (f_X12_readSum_62 N p1 k4 c v2 v3 v4 w0 w1) := by
  intro c v2 v3 v4 w0 w1
  rw [f_X12_readSum_62]
  refine l1_many mt_X12_readSum (pc' := bif am_cc .eq w1 w0 then 78 else 65) (L' := [some (.ref 201), some (.int p1), some (.int v2), some (.int v3), some (.int v4)]) (st' := []) 1 rfl ?_
  refine l1_bif rfl ?_ ?_
  · exact ok_X12_readSum_78 hQ N p1 hk4 c v2 v3 v4
  · refine l1_weak (m := [true, true, false, true, false]) (L' := [some (.ref 201), some (.int p1), none, some (.int v3)]) rfl ?_
    exact ok_X12_readSum_65 hQ N p1 c v3
set_option maxRecDepth 100000 in
theorem ok_X12_readSum_112 {Q : hS → am_H → Prop} (hQ : l1_em km Q) (N : Nat) (p1 : Int32) : ∀ n : Nat, ∀ (c : hS) (v2 : Int32) (v3 : Int32) (v4 : Int32), l1_G (wN wI) Q am_i_X12_readSum 112 [some (.ref 201), some (.int p1), some (.int v2), some (.int v3), some (.int v4)] [] c (f_X12_readSum_112 N p1 n c v2 v3 v4) := by
  intro n
  induction n with
  | zero => intro c v2 v3 v4; exact l1_none
  | succ n ih =>
    intro c v2 v3 v4
    rw [f_X12_readSum_112]
    refine l1_many mt_X12_readSum (pc' := bif am_cc .ge v4 512 then 157 else 120) (L' := [some (.ref 201), some (.int p1), some (.int v2), some (.int v3), some (.int v4)]) (st' := []) 3 rfl ?_
    refine l1_bif rfl ?_ ?_
    · refine l1_many mt_X12_readSum (pc' := bif am_cc .eq v3 v2 then 175 else 162) (L' := [some (.ref 201), some (.int p1), some (.int v2), some (.int v3), some (.int v4)]) (st' := []) 3 rfl ?_
      refine l1_bif rfl ?_ ?_
      · refine l1_many mt_X12_readSum (pc' := 180) (L' := [some (.ref 201), some (.int p1), some (.int v2), some (.int v3), some (.int v4)]) (st' := [.int 1]) 2 rfl ?_
        exact l1_ret mt_X12_readSum rfl rfl rfl
      · refine l1_many mt_X12_readSum (pc' := 169) (L' := [some (.ref 201), some (.int p1), some (.int v2), some (.int v3), some (.int v4)]) (st' := [.int (p1 + 148), .int 4, .ref 201]) 5 rfl ?_
        refine l1_callV hQ mt_X12_readSum mt_X12_fails rfl rfl (o := 201) (ci := 11) (As := [.int 4, .int (p1 + 148)]) (rest := []) rfl rfl rfl rfl rfl rfl (st1 := fun x1 => [.int x1]) (fun _ => rfl) (ok_X12_fails hQ c 4 (p1 + 148)) (fun x1 c2 => ?_)
        refine l1_many mt_X12_readSum (pc' := bif am_cc .eq x1 0 then 179 else 175) (L' := [some (.ref 201), some (.int p1), some (.int v2), some (.int v3), some (.int v4)]) (st' := []) 1 rfl ?_
        refine l1_bif rfl ?_ ?_
        · refine l1_many mt_X12_readSum (pc' := 180) (L' := [some (.ref 201), some (.int p1), some (.int v2), some (.int v3), some (.int v4)]) (st' := [.int 0]) 1 rfl ?_
          exact l1_ret mt_X12_readSum rfl rfl rfl
        · refine l1_many mt_X12_readSum (pc' := 180) (L' := [some (.ref 201), some (.int p1), some (.int v2), some (.int v3), some (.int v4)]) (st' := [.int 1]) 2 rfl ?_
          exact l1_ret mt_X12_readSum rfl rfl rfl
    · refine l1_many mt_X12_readSum (pc' := 130) (L' := [some (.ref 201), some (.int p1), some (.int v2), some (.int v3), some (.int v4)]) (st' := [.long 155, .long 148, .long v4.toInt64, .int v3]) 5 rfl ?_
      refine l1_callS mt_X12_readSum mt_X12_in rfl rfl (As := [.long v4.toInt64, .long 148, .long 155]) (rest := [.int v3]) rfl rfl rfl (st1 := fun x3 => [.int x3, .int v3]) (fun _ => rfl) (ok_X12_in hQ c v4.toInt64 148 155) (fun x3 c4 => ?_)
      refine l1_many mt_X12_readSum (pc' := bif am_cc .eq x3 0 then 140 else 136) (L' := [some (.ref 201), some (.int p1), some (.int v2), some (.int v3), some (.int v4)]) (st' := [.int v3]) 1 rfl ?_
      refine l1_bif rfl ?_ ?_
      · refine l1_many mt_X12_readSum (pc' := 141) (L' := [some (.ref 201), some (.int p1), some (.int v2), some (.int v3), some (.int v4)]) (st' := [.ref 201, .int v3]) 1 rfl ?_
        refine l1_getR hQ mt_X12_readSum rfl (o := 201) (ci := 11) (k := 3) (a := 0) (b := 0) rfl rfl rfl rfl rfl (q := 203) rfl ?_
        refine l1_many mt_X12_readSum (pc' := 148) (L' := [some (.ref 201), some (.int p1), some (.int v2), some (.int v3), some (.int v4)]) (st' := [.int (p1 + v4), .ref 203, .int v3]) 3 rfl ?_
        refine l1_ck (fun hx => ?_)
        refine l1_ald hQ mt_X12_readSum rfl (o := 203) rfl hx ?_
        refine l1_many mt_X12_readSum (pc' := 112) (L' := [some (.ref 201), some (.int p1), some (.int v2), some (.int (v3 + (c4.1 203 (p1 + v4).toNatClampNeg))), some (.int (v4 + 1))]) (st' := []) 4 rfl ?_
        exact ih c4 v2 (v3 + (c4.1 203 (p1 + v4).toNatClampNeg)) (v4 + 1)
      · refine l1_many mt_X12_readSum (pc' := 112) (L' := [some (.ref 201), some (.int p1), some (.int v2), some (.int (v3 + 0)), some (.int (v4 + 1))]) (st' := []) 6 rfl ?_
        exact ih c4 v2 (v3 + 0) (v4 + 1)
set_option maxRecDepth 100000 in
theorem ok_X12_readSum_4 {Q : hS → am_H → Prop} (hQ : l1_em km Q) (N : Nat) (p1 : Int32) : ∀ n : Nat, ∀ (c : hS) (v2 : Int32) (v3 : Int32), l1_G (wN wI) Q am_i_X12_readSum 4 [some (.ref 201), some (.int p1), some (.int v2), some (.int v3)] [] c (f_X12_readSum_4 N p1 n c v2 v3) := by
  intro n
  induction n with
  | zero => intro c v2 v3; exact l1_none
  | succ n ih =>
    intro c v2 v3
    rw [f_X12_readSum_4]
    refine l1_many mt_X12_readSum (pc' := bif am_cc .ge v3 8 then 105 else 10) (L' := [some (.ref 201), some (.int p1), some (.int v2), some (.int v3)]) (st' := []) 3 rfl ?_
    refine l1_bif rfl ?_ ?_
    · refine l1_many mt_X12_readSum (pc' := 112) (L' := [some (.ref 201), some (.int p1), some (.int v2), some (.int 256), some (.int 0)]) (st' := []) 4 rfl ?_
      exact ok_X12_readSum_112 hQ N p1 N c v2 256 0
    · refine l1_many mt_X12_readSum (pc' := 11) (L' := [some (.ref 201), some (.int p1), some (.int v2), some (.int v3)]) (st' := [.ref 201]) 1 rfl ?_
      refine l1_getR hQ mt_X12_readSum rfl (o := 201) (ci := 11) (k := 3) (a := 0) (b := 0) rfl rfl rfl rfl rfl (q := 203) rfl ?_
      refine l1_many mt_X12_readSum (pc' := 21) (L' := [some (.ref 201), some (.int p1), some (.int v2), some (.int v3)]) (st' := [.int ((p1 + 148) + v3), .ref 203]) 5 rfl ?_
      refine l1_ck (fun hx => ?_)
      refine l1_ald hQ mt_X12_readSum rfl (o := 203) rfl hx ?_
      refine l1_many mt_X12_readSum (pc' := bif am_cc .ge v3 6 then 48 else 30) (L' := [some (.ref 201), some (.int p1), some (.int v2), some (.int v3), some (.int (c.1 203 ((p1 + 148) + v3).toNatClampNeg))]) (st' := []) 4 rfl ?_
      refine l1_bif rfl ?_ ?_
      · refine l1_many mt_X12_readSum (pc' := bif am_cc .ne v3 6 then 60 else 56) (L' := [some (.ref 201), some (.int p1), some (.int v2), some (.int v3), some (.int (c.1 203 ((p1 + 148) + v3).toNatClampNeg))]) (st' := [.int (c.1 203 ((p1 + 148) + v3).toNatClampNeg)]) 4 rfl ?_
        refine l1_bin rfl ?_ ?_
        · refine l1_many mt_X12_readSum (pc' := 62) (L' := [some (.ref 201), some (.int p1), some (.int v2), some (.int v3), some (.int (c.1 203 ((p1 + 148) + v3).toNatClampNeg))]) (st' := [.int 0, .int (c.1 203 ((p1 + 148) + v3).toNatClampNeg)]) 2 rfl ?_
          exact ok_X12_readSum_62 hQ N p1 ih c v2 v3 (c.1 203 ((p1 + 148) + v3).toNatClampNeg) 0 (c.1 203 ((p1 + 148) + v3).toNatClampNeg)
        · refine l1_many mt_X12_readSum (pc' := 62) (L' := [some (.ref 201), some (.int p1), some (.int v2), some (.int v3), some (.int (c.1 203 ((p1 + 148) + v3).toNatClampNeg))]) (st' := [.int 32, .int (c.1 203 ((p1 + 148) + v3).toNatClampNeg)]) 1 rfl ?_
          exact ok_X12_readSum_62 hQ N p1 ih c v2 v3 (c.1 203 ((p1 + 148) + v3).toNatClampNeg) 32 (c.1 203 ((p1 + 148) + v3).toNatClampNeg)
      · refine l1_many mt_X12_readSum (pc' := 39) (L' := [some (.ref 201), some (.int p1), some (.int v2), some (.int v3), some (.int (c.1 203 ((p1 + 148) + v3).toNatClampNeg))]) (st' := [.long 55, .long 48, .long ((c.1 203 ((p1 + 148) + v3).toNatClampNeg).toInt64)]) 4 rfl ?_
        refine l1_callS mt_X12_readSum mt_X12_in rfl rfl (As := [.long ((c.1 203 ((p1 + 148) + v3).toNatClampNeg).toInt64), .long 48, .long 55]) (rest := []) rfl rfl rfl (st1 := fun x1 => [.int x1]) (fun _ => rfl) (ok_X12_in hQ c ((c.1 203 ((p1 + 148) + v3).toNatClampNeg).toInt64) 48 55) (fun x1 c2 => ?_)
        refine l1_many mt_X12_readSum (pc' := bif am_cc .ne x1 0 then 78 else 45) (L' := [some (.ref 201), some (.int p1), some (.int v2), some (.int v3), some (.int (c.1 203 ((p1 + 148) + v3).toNatClampNeg))]) (st' := []) 1 rfl ?_
        refine l1_bin rfl ?_ ?_
        · refine l1_many mt_X12_readSum (pc' := 65) (L' := [some (.ref 201), some (.int p1), some (.int v2), some (.int v3), some (.int (c.1 203 ((p1 + 148) + v3).toNatClampNeg))]) (st' := []) 1 rfl ?_
          refine l1_weak (m := [true, true, false, true, false]) (L' := [some (.ref 201), some (.int p1), none, some (.int v3)]) rfl ?_
          exact ok_X12_readSum_65 hQ N p1 c2 v3
        · exact ok_X12_readSum_78 hQ N p1 ih c2 v2 v3 (c.1 203 ((p1 + 148) + v3).toNatClampNeg)
set_option maxRecDepth 100000 in
theorem en_X12_readSum {Q : hS → am_H → Prop} (hQ : l1_em km Q) (N : Nat) (c : hS) (p1 : Int32) : l1_G (wN wI) Q am_i_X12_readSum 0 [some (.ref 201), some (.int p1)] [] c (f_X12_readSum N c p1) := by
  rw [f_X12_readSum]
  refine l1_many mt_X12_readSum (pc' := 4) (L' := [some (.ref 201), some (.int p1), some (.int 0), some (.int 0)]) (st' := []) 4 rfl ?_
  exact ok_X12_readSum_4 hQ N p1 N c 0 0
theorem ok_X12_readSum {Q : hS → am_H → Prop} (hQ : l1_em km Q) (N : Nat) (c : hS) (p1 : Int32) : l1_T wI Q am_i_X12_readSum [.ref 201, .int p1] c (f_X12_readSum N c p1) := l1_of (en_X12_readSum hQ N c p1) ⟨rfl, rfl, trivial⟩
set_option maxRecDepth 100000 in
theorem ok_X12_readMark_68 {Q : hS → am_H → Prop} (hQ : l1_em km Q) (N : Nat) (p1 : Int32) {k2 : hS → Int32 → Option (Int32 × hS)} (hk2 : ∀ c v2, l1_G (wN wI) Q am_i_X12_readMark 2 [some (.ref 201), some (.int p1), some (.int v2)] [] c (k2 c v2)) : ∀ (c : hS) (v2 : Int32) (w0 : Int32), l1_G (wN wI) Q am_i_X12_readMark 68 [some (.ref 201), some (.int p1), some (.int v2)] [.int w0] c (f_X12_readMark_68 N p1 k2 c v2 w0) := by
  intro c v2 w0
  rw [f_X12_readMark_68]
  refine l1_many mt_X12_readMark (pc' := 70) (L' := [some (.ref 201), some (.int p1), some (.int v2), some (.int w0)]) (st' := [.ref 201]) 2 rfl ?_
  refine l1_getR hQ mt_X12_readMark rfl (o := 201) (ci := 11) (k := 3) (a := 0) (b := 0) rfl rfl rfl rfl rfl (q := 203) rfl ?_
  refine l1_many mt_X12_readMark (pc' := 76) (L' := [some (.ref 201), some (.int p1), some (.int v2), some (.int w0)]) (st' := [.int (p1 + v2), .ref 203]) 3 rfl ?_
  refine l1_ck (fun hx => ?_)
  refine l1_ald hQ mt_X12_readMark rfl (o := 203) rfl hx ?_
  refine l1_many mt_X12_readMark (pc' := bif am_cc .eq (c.1 203 (p1 + v2).toNatClampNeg) w0 then 90 else 81) (L' := [some (.ref 201), some (.int p1), some (.int v2), some (.int w0)]) (st' := []) 2 rfl ?_
  refine l1_bif rfl ?_ ?_
  · refine l1_many mt_X12_readMark (pc' := 2) (L' := [some (.ref 201), some (.int p1), some (.int (v2 + 1)), some (.int w0)]) (st' := []) 2 rfl ?_
    refine l1_weak (m := [true, true, true, false]) (L' := [some (.ref 201), some (.int p1), some (.int (v2 + 1))]) rfl ?_
    exact hk2 c (v2 + 1)
  · refine l1_many mt_X12_readMark (pc' := 86) (L' := [some (.ref 201), some (.int p1), some (.int v2), some (.int w0)]) (st' := [.int (p1 + v2), .int 5, .ref 201]) 5 rfl ?_
    refine l1_callV hQ mt_X12_readMark mt_X12_fails rfl rfl (o := 201) (ci := 11) (As := [.int 5, .int (p1 + v2)]) (rest := []) rfl rfl rfl rfl rfl rfl (st1 := fun x1 => [.int x1]) (fun _ => rfl) (ok_X12_fails hQ c 5 (p1 + v2)) (fun x1 c2 => ?_)
    refine l1_ck (fun hz => ?_)
    exact l1_retZ mt_X12_readMark rfl rfl rfl hz
set_option maxRecDepth 100000 in
theorem ok_X12_readMark_2 {Q : hS → am_H → Prop} (hQ : l1_em km Q) (N : Nat) (p1 : Int32) : ∀ n : Nat, ∀ (c : hS) (v2 : Int32), l1_G (wN wI) Q am_i_X12_readMark 2 [some (.ref 201), some (.int p1), some (.int v2)] [] c (f_X12_readMark_2 N p1 n c v2) := by
  intro n
  induction n with
  | zero => intro c v2; exact l1_none
  | succ n ih =>
    intro c v2
    rw [f_X12_readMark_2]
    refine l1_many mt_X12_readMark (pc' := bif am_cc .ge v2 8 then 96 else 8) (L' := [some (.ref 201), some (.int p1), some (.int v2)]) (st' := []) 3 rfl ?_
    refine l1_bif rfl ?_ ?_
    · refine l1_many mt_X12_readMark (pc' := 97) (L' := [some (.ref 201), some (.int p1), some (.int v2)]) (st' := [.int 1]) 1 rfl ?_
      exact l1_ret mt_X12_readMark rfl rfl rfl
    · refine l1_many mt_X12_readMark (pc' := bif am_cc .ne v2 0 then 17 else 12) (L' := [some (.ref 201), some (.int p1), some (.int v2)]) (st' := []) 2 rfl ?_
      refine l1_bin rfl ?_ ?_
      · refine l1_many mt_X12_readMark (pc' := 68) (L' := [some (.ref 201), some (.int p1), some (.int v2)]) (st' := [.int 117]) 2 rfl ?_
        exact ok_X12_readMark_68 hQ N p1 ih c v2 117
      · refine l1_many mt_X12_readMark (pc' := bif am_cc .ne v2 1 then 27 else 22) (L' := [some (.ref 201), some (.int p1), some (.int v2)]) (st' := []) 3 rfl ?_
        refine l1_bin rfl ?_ ?_
        · refine l1_many mt_X12_readMark (pc' := 68) (L' := [some (.ref 201), some (.int p1), some (.int v2)]) (st' := [.int 115]) 2 rfl ?_
          exact ok_X12_readMark_68 hQ N p1 ih c v2 115
        · refine l1_many mt_X12_readMark (pc' := bif am_cc .ne v2 2 then 37 else 32) (L' := [some (.ref 201), some (.int p1), some (.int v2)]) (st' := []) 3 rfl ?_
          refine l1_bin rfl ?_ ?_
          · refine l1_many mt_X12_readMark (pc' := 68) (L' := [some (.ref 201), some (.int p1), some (.int v2)]) (st' := [.int 116]) 2 rfl ?_
            exact ok_X12_readMark_68 hQ N p1 ih c v2 116
          · refine l1_many mt_X12_readMark (pc' := bif am_cc .ne v2 3 then 47 else 42) (L' := [some (.ref 201), some (.int p1), some (.int v2)]) (st' := []) 3 rfl ?_
            refine l1_bin rfl ?_ ?_
            · refine l1_many mt_X12_readMark (pc' := 68) (L' := [some (.ref 201), some (.int p1), some (.int v2)]) (st' := [.int 97]) 2 rfl ?_
              exact ok_X12_readMark_68 hQ N p1 ih c v2 97
            · refine l1_many mt_X12_readMark (pc' := bif am_cc .ne v2 4 then 57 else 52) (L' := [some (.ref 201), some (.int p1), some (.int v2)]) (st' := []) 3 rfl ?_
              refine l1_bin rfl ?_ ?_
              · refine l1_many mt_X12_readMark (pc' := 68) (L' := [some (.ref 201), some (.int p1), some (.int v2)]) (st' := [.int 114]) 2 rfl ?_
                exact ok_X12_readMark_68 hQ N p1 ih c v2 114
              · refine l1_many mt_X12_readMark (pc' := bif am_cc .ne v2 5 then 66 else 62) (L' := [some (.ref 201), some (.int p1), some (.int v2)]) (st' := []) 3 rfl ?_
                refine l1_bin rfl ?_ ?_
                · refine l1_many mt_X12_readMark (pc' := 68) (L' := [some (.ref 201), some (.int p1), some (.int v2)]) (st' := [.int 0]) 2 rfl ?_
                  exact ok_X12_readMark_68 hQ N p1 ih c v2 0
                · refine l1_many mt_X12_readMark (pc' := 68) (L' := [some (.ref 201), some (.int p1), some (.int v2)]) (st' := [.int 48]) 1 rfl ?_
                  exact ok_X12_readMark_68 hQ N p1 ih c v2 48
set_option maxRecDepth 100000 in
theorem en_X12_readMark {Q : hS → am_H → Prop} (hQ : l1_em km Q) (N : Nat) (c : hS) (p1 : Int32) : l1_G (wN wI) Q am_i_X12_readMark 0 [some (.ref 201), some (.int p1)] [] c (f_X12_readMark N c p1) := by
  rw [f_X12_readMark]
  refine l1_many mt_X12_readMark (pc' := 2) (L' := [some (.ref 201), some (.int p1), some (.int 0)]) (st' := []) 2 rfl ?_
  exact ok_X12_readMark_2 hQ N p1 N c 0
theorem ok_X12_readMark {Q : hS → am_H → Prop} (hQ : l1_em km Q) (N : Nat) (c : hS) (p1 : Int32) : l1_T wI Q am_i_X12_readMark [.ref 201, .int p1] c (f_X12_readMark N c p1) := l1_of (en_X12_readMark hQ N c p1) ⟨rfl, rfl, trivial⟩
set_option maxRecDepth 100000 in
theorem ok_X12_addName_2 {Q : hS → am_H → Prop} (hQ : l1_em km Q) (N : Nat) (p1 : Int32) (p2 : Int32) : ∀ n : Nat, ∀ (c : hS) (v3 : Int32), l1_G (wN wV) Q am_i_X12_addName 2 [some (.ref 201), some (.int p1), some (.int p2), some (.int v3)] [] c (f_X12_addName_2 N p1 p2 n c v3) := by
  intro n
  induction n with
  | zero => intro c v3; exact l1_none
  | succ n ih =>
    intro c v3
    rw [f_X12_addName_2]
    refine l1_many mt_X12_addName (pc' := bif am_cc .ge v3 p2 then 51 else 7) (L' := [some (.ref 201), some (.int p1), some (.int p2), some (.int v3)]) (st' := []) 3 rfl ?_
    refine l1_bif rfl ?_ ?_
    · exact l1_ret mt_X12_addName rfl rfl rfl
    · refine l1_many mt_X12_addName (pc' := 8) (L' := [some (.ref 201), some (.int p1), some (.int p2), some (.int v3)]) (st' := [.ref 201]) 1 rfl ?_
      refine l1_getR hQ mt_X12_addName rfl (o := 201) (ci := 11) (k := 3) (a := 0) (b := 0) rfl rfl rfl rfl rfl (q := 203) rfl ?_
      refine l1_many mt_X12_addName (pc' := 14) (L' := [some (.ref 201), some (.int p1), some (.int p2), some (.int v3)]) (st' := [.int (p1 + v3), .ref 203]) 3 rfl ?_
      refine l1_ck (fun hx => ?_)
      refine l1_ald hQ mt_X12_addName rfl (o := 203) rfl hx ?_
      refine l1_many mt_X12_addName (pc' := bif am_cc .eq (c.1 203 (p1 + v3).toNatClampNeg) 0 then 51 else 18) (L' := [some (.ref 201), some (.int p1), some (.int p2), some (.int v3)]) (st' := []) 1 rfl ?_
      refine l1_bif rfl ?_ ?_
      · exact l1_ret mt_X12_addName rfl rfl rfl
      · refine l1_many mt_X12_addName (pc' := 19) (L' := [some (.ref 201), some (.int p1), some (.int p2), some (.int v3)]) (st' := [.ref 201]) 1 rfl ?_
        refine l1_getR hQ mt_X12_addName rfl (o := 201) (ci := 11) (k := 15) (a := 0) (b := 0) rfl rfl rfl rfl rfl (q := 209) rfl ?_
        refine l1_many mt_X12_addName (pc' := 23) (L' := [some (.ref 201), some (.int p1), some (.int p2), some (.int v3)]) (st' := [.ref 201, .ref 209]) 1 rfl ?_
        refine l1_getI hQ mt_X12_addName rfl (o := 201) (ci := 11) (k := 14) (a := 0) (b := 0) rfl rfl rfl rfl rfl ?_
        refine l1_many mt_X12_addName (pc' := 27) (L' := [some (.ref 201), some (.int p1), some (.int p2), some (.int v3)]) (st' := [.ref 201, .int (c.1 201 14), .ref 209]) 1 rfl ?_
        refine l1_getR hQ mt_X12_addName rfl (o := 201) (ci := 11) (k := 3) (a := 0) (b := 0) rfl rfl rfl rfl rfl (q := 203) rfl ?_
        refine l1_many mt_X12_addName (pc' := 33) (L' := [some (.ref 201), some (.int p1), some (.int p2), some (.int v3)]) (st' := [.int (p1 + v3), .ref 203, .int (c.1 201 14), .ref 209]) 3 rfl ?_
        refine l1_ck (fun hx => ?_)
        refine l1_ald hQ mt_X12_addName rfl (o := 203) rfl hx ?_
        refine l1_ck (fun hx => ?_)
        refine l1_ast hQ mt_X12_addName rfl (o := 209) rfl hx (fun c1 => ?_)
        refine l1_many mt_X12_addName (pc' := 37) (L' := [some (.ref 201), some (.int p1), some (.int p2), some (.int v3)]) (st' := [.ref 201, .ref 201]) 2 rfl ?_
        refine l1_getI hQ mt_X12_addName rfl (o := 201) (ci := 11) (k := 14) (a := 0) (b := 0) rfl rfl rfl rfl rfl ?_
        refine l1_many mt_X12_addName (pc' := 42) (L' := [some (.ref 201), some (.int p1), some (.int p2), some (.int v3)]) (st' := [.int ((c1.1 201 14) + 1), .ref 201]) 2 rfl ?_
        refine l1_putI hQ mt_X12_addName rfl (o := 201) (ci := 11) (k := 14) (a := 0) rfl rfl rfl rfl rfl rfl (fun c2 => ?_)
        refine l1_many mt_X12_addName (pc' := 2) (L' := [some (.ref 201), some (.int p1), some (.int p2), some (.int (v3 + 1))]) (st' := []) 2 rfl ?_
        exact ih c2 (v3 + 1)
set_option maxRecDepth 100000 in
theorem en_X12_addName {Q : hS → am_H → Prop} (hQ : l1_em km Q) (N : Nat) (c : hS) (p1 : Int32) (p2 : Int32) : l1_G (wN wV) Q am_i_X12_addName 0 [some (.ref 201), some (.int p1), some (.int p2)] [] c (f_X12_addName N c p1 p2) := by
  rw [f_X12_addName]
  refine l1_many mt_X12_addName (pc' := 2) (L' := [some (.ref 201), some (.int p1), some (.int p2), some (.int 0)]) (st' := []) 2 rfl ?_
  exact ok_X12_addName_2 hQ N p1 p2 N c 0
theorem ok_X12_addName {Q : hS → am_H → Prop} (hQ : l1_em km Q) (N : Nat) (c : hS) (p1 : Int32) (p2 : Int32) : l1_T wV Q am_i_X12_addName [.ref 201, .int p1, .int p2] c (f_X12_addName N c p1 p2) := l1_of (en_X12_addName hQ N c p1 p2) ⟨rfl, rfl, rfl, trivial⟩
set_option maxRecDepth 100000 in
theorem ok_X12_readBlockHead_277 {Q : hS → am_H → Prop} (hQ : l1_em km Q) (N : Nat) (p1 : Int32) : ∀ (c : hS) (v2 : Int64), l1_G (wN wI) Q am_i_X12_readBlockHead 277 [some (.ref 201), some (.int p1), some (.long v2)] [] c (f_X12_readBlockHead_277 N p1 c v2) := by
  intro c v2
  rw [f_X12_readBlockHead_277]
  refine l1_many mt_X12_readBlockHead (pc' := 280) (L' := [some (.ref 201), some (.int p1), some (.long v2)]) (st' := [.int v2.toInt32, .ref 201]) 3 rfl ?_
  refine l1_putI hQ mt_X12_readBlockHead rfl (o := 201) (ci := 11) (k := 16) (a := 0) rfl rfl rfl rfl rfl rfl (fun c1 => ?_)
  refine l1_many mt_X12_readBlockHead (pc' := 284) (L' := [some (.ref 201), some (.int p1), some (.long v2)]) (st' := [.ref 201]) 1 rfl ?_
  refine l1_callV hQ mt_X12_readBlockHead mt_X12_isName rfl rfl (o := 201) (ci := 11) (As := []) (rest := []) rfl rfl rfl rfl rfl rfl (st1 := fun x2 => [.int x2]) (fun _ => rfl) (ok_X12_isName hQ N c1) (fun x2 c3 => ?_)
  refine l1_many mt_X12_readBlockHead (pc' := bif am_cc .ne x2 0 then 300 else 290) (L' := [some (.ref 201), some (.int p1), some (.long v2)]) (st' := []) 1 rfl ?_
  refine l1_bin rfl ?_ ?_
  · refine l1_many mt_X12_readBlockHead (pc' := 294) (L' := [some (.ref 201), some (.int p1), some (.long v2)]) (st' := [.int p1, .int 10, .ref 201]) 3 rfl ?_
    refine l1_callV hQ mt_X12_readBlockHead mt_X12_fails rfl rfl (o := 201) (ci := 11) (As := [.int 10, .int p1]) (rest := []) rfl rfl rfl rfl rfl rfl (st1 := fun x4 => [.int x4]) (fun _ => rfl) (ok_X12_fails hQ c3 10 p1) (fun x4 c5 => ?_)
    refine l1_many mt_X12_readBlockHead (pc' := bif am_cc .eq x4 0 then 304 else 300) (L' := [some (.ref 201), some (.int p1), some (.long v2)]) (st' := []) 1 rfl ?_
    refine l1_bif rfl ?_ ?_
    · refine l1_many mt_X12_readBlockHead (pc' := 305) (L' := [some (.ref 201), some (.int p1), some (.long v2)]) (st' := [.int 0]) 1 rfl ?_
      exact l1_ret mt_X12_readBlockHead rfl rfl rfl
    · refine l1_many mt_X12_readBlockHead (pc' := 305) (L' := [some (.ref 201), some (.int p1), some (.long v2)]) (st' := [.int 1]) 2 rfl ?_
      exact l1_ret mt_X12_readBlockHead rfl rfl rfl
  · refine l1_many mt_X12_readBlockHead (pc' := 305) (L' := [some (.ref 201), some (.int p1), some (.long v2)]) (st' := [.int 1]) 2 rfl ?_
    exact l1_ret mt_X12_readBlockHead rfl rfl rfl
set_option maxRecDepth 100000 in
theorem ok_X12_readBlockHead_230 {Q : hS → am_H → Prop} (hQ : l1_em km Q) (N : Nat) (p1 : Int32) : ∀ (c : hS) (v2 : Int64), l1_G (wN wI) Q am_i_X12_readBlockHead 230 [some (.ref 201), some (.int p1), some (.long v2)] [] c (f_X12_readBlockHead_230 N p1 c v2) := by
  intro c v2
  rw [f_X12_readBlockHead_230]
  refine l1_many mt_X12_readBlockHead (pc' := 234) (L' := [some (.ref 201), some (.int p1), some (.long v2)]) (st' := [.int 100, .int p1, .ref 201]) 3 rfl ?_
  refine l1_callV hQ mt_X12_readBlockHead mt_X12_addName rfl rfl (o := 201) (ci := 11) (As := [.int p1, .int 100]) (rest := []) rfl rfl rfl rfl rfl rfl (st1 := fun _ => []) (fun _ => rfl) (ok_X12_addName hQ N c p1 100) (fun _ c1 => ?_)
  refine l1_many mt_X12_readBlockHead (pc' := 238) (L' := [some (.ref 201), some (.int p1), some (.long v2)]) (st' := [.ref 201]) 1 rfl ?_
  refine l1_getI hQ mt_X12_readBlockHead rfl (o := 201) (ci := 11) (k := 18) (a := 0) (b := 0) rfl rfl rfl rfl rfl ?_
  refine l1_many mt_X12_readBlockHead (pc' := bif am_cc .eq (c1.1 201 18) 0 then 277 else 244) (L' := [some (.ref 201), some (.int p1), some (.long v2)]) (st' := []) 1 rfl ?_
  refine l1_bif rfl ?_ ?_
  · exact ok_X12_readBlockHead_277 hQ N p1 c1 v2
  · refine l1_many mt_X12_readBlockHead (pc' := 245) (L' := [some (.ref 201), some (.int p1), some (.long v2)]) (st' := [.ref 201]) 1 rfl ?_
    refine l1_getI hQ mt_X12_readBlockHead rfl (o := 201) (ci := 11) (k := 14) (a := 0) (b := 0) rfl rfl rfl rfl rfl ?_
    refine l1_many mt_X12_readBlockHead (pc' := bif am_cc .le (c1.1 201 14) 0 then 277 else 251) (L' := [some (.ref 201), some (.int p1), some (.long v2)]) (st' := []) 1 rfl ?_
    refine l1_bif rfl ?_ ?_
    · exact ok_X12_readBlockHead_277 hQ N p1 c1 v2
    · refine l1_many mt_X12_readBlockHead (pc' := 252) (L' := [some (.ref 201), some (.int p1), some (.long v2)]) (st' := [.ref 201]) 1 rfl ?_
      refine l1_getR hQ mt_X12_readBlockHead rfl (o := 201) (ci := 11) (k := 15) (a := 0) (b := 0) rfl rfl rfl rfl rfl (q := 209) rfl ?_
      refine l1_many mt_X12_readBlockHead (pc' := 256) (L' := [some (.ref 201), some (.int p1), some (.long v2)]) (st' := [.ref 201, .ref 209]) 1 rfl ?_
      refine l1_getI hQ mt_X12_readBlockHead rfl (o := 201) (ci := 11) (k := 14) (a := 0) (b := 0) rfl rfl rfl rfl rfl ?_
      refine l1_many mt_X12_readBlockHead (pc' := 261) (L' := [some (.ref 201), some (.int p1), some (.long v2)]) (st' := [.int ((c1.1 201 14) - 1), .ref 209]) 2 rfl ?_
      refine l1_ck (fun hx => ?_)
      refine l1_ald hQ mt_X12_readBlockHead rfl (o := 209) rfl hx ?_
      refine l1_many mt_X12_readBlockHead (pc' := bif am_cc .ne (c1.1 209 ((c1.1 201 14) - 1).toNatClampNeg) 47 then 277 else 267) (L' := [some (.ref 201), some (.int p1), some (.long v2)]) (st' := []) 2 rfl ?_
      refine l1_bin rfl ?_ ?_
      · refine l1_many mt_X12_readBlockHead (pc' := 269) (L' := [some (.ref 201), some (.int p1), some (.long v2)]) (st' := [.ref 201, .ref 201]) 2 rfl ?_
        refine l1_getI hQ mt_X12_readBlockHead rfl (o := 201) (ci := 11) (k := 14) (a := 0) (b := 0) rfl rfl rfl rfl rfl ?_
        refine l1_many mt_X12_readBlockHead (pc' := 274) (L' := [some (.ref 201), some (.int p1), some (.long v2)]) (st' := [.int ((c1.1 201 14) - 1), .ref 201]) 2 rfl ?_
        refine l1_putI hQ mt_X12_readBlockHead rfl (o := 201) (ci := 11) (k := 14) (a := 0) rfl rfl rfl rfl rfl rfl (fun c2 => ?_)
        exact ok_X12_readBlockHead_277 hQ N p1 c2 v2
      · exact ok_X12_readBlockHead_277 hQ N p1 c1 v2
set_option maxRecDepth 100000 in
theorem ok_X12_readBlockHead_169 {Q : hS → am_H → Prop} (hQ : l1_em km Q) (N : Nat) (p1 : Int32) : ∀ (c : hS) (v2 : Int64) (w0 : Int32) (w1 : Int64), l1_G (wN wI) Q am_i_X12_readBlockHead 169 [some (.ref 201), some (.int p1), some (.long v2)] [.int w0, .long w1] c (f_X12_readBlockHead_169 N p1 c v2 w0 w1) := by
  intro c v2 w0 w1
  rw [f_X12_readBlockHead_169]
  refine l1_many mt_X12_readBlockHead (pc' := bif am_cc .le (j_cmp w1 w0.toInt64) 0 then 185 else 174) (L' := [some (.ref 201), some (.int p1), some (.long v2)]) (st' := []) 3 rfl ?_
  refine l1_bif rfl ?_ ?_
  · refine l1_many mt_X12_readBlockHead (pc' := 187) (L' := [some (.ref 201), some (.int p1), some (.long v2)]) (st' := [.int 0, .ref 201]) 2 rfl ?_
    refine l1_putI hQ mt_X12_readBlockHead rfl (o := 201) (ci := 11) (k := 14) (a := 0) rfl rfl rfl rfl rfl rfl (fun c1 => ?_)
    refine l1_many mt_X12_readBlockHead (pc' := 199) (L' := [some (.ref 201), some (.int p1), some (.long v2)]) (st' := [.int 155, .int (p1 + 345), .ref 201]) 5 rfl ?_
    refine l1_callV hQ mt_X12_readBlockHead mt_X12_addName rfl rfl (o := 201) (ci := 11) (As := [.int (p1 + 345), .int 155]) (rest := []) rfl rfl rfl rfl rfl rfl (st1 := fun _ => []) (fun _ => rfl) (ok_X12_addName hQ N c1 (p1 + 345) 155) (fun _ c2 => ?_)
    refine l1_many mt_X12_readBlockHead (pc' := 203) (L' := [some (.ref 201), some (.int p1), some (.long v2)]) (st' := [.ref 201]) 1 rfl ?_
    refine l1_getI hQ mt_X12_readBlockHead rfl (o := 201) (ci := 11) (k := 14) (a := 0) (b := 0) rfl rfl rfl rfl rfl ?_
    refine l1_many mt_X12_readBlockHead (pc' := bif am_cc .le (c2.1 201 14) 0 then 230 else 209) (L' := [some (.ref 201), some (.int p1), some (.long v2)]) (st' := []) 1 rfl ?_
    refine l1_bif rfl ?_ ?_
    · exact ok_X12_readBlockHead_230 hQ N p1 c2 v2
    · refine l1_many mt_X12_readBlockHead (pc' := 210) (L' := [some (.ref 201), some (.int p1), some (.long v2)]) (st' := [.ref 201]) 1 rfl ?_
      refine l1_getR hQ mt_X12_readBlockHead rfl (o := 201) (ci := 11) (k := 15) (a := 0) (b := 0) rfl rfl rfl rfl rfl (q := 209) rfl ?_
      refine l1_many mt_X12_readBlockHead (pc' := 214) (L' := [some (.ref 201), some (.int p1), some (.long v2)]) (st' := [.ref 201, .ref 209]) 1 rfl ?_
      refine l1_getI hQ mt_X12_readBlockHead rfl (o := 201) (ci := 11) (k := 14) (a := 0) (b := 0) rfl rfl rfl rfl rfl ?_
      refine l1_many mt_X12_readBlockHead (pc' := 219) (L' := [some (.ref 201), some (.int p1), some (.long v2)]) (st' := [.int 47, .int (c2.1 201 14), .ref 209]) 1 rfl ?_
      refine l1_ck (fun hx => ?_)
      refine l1_ast hQ mt_X12_readBlockHead rfl (o := 209) rfl hx (fun c3 => ?_)
      refine l1_many mt_X12_readBlockHead (pc' := 222) (L' := [some (.ref 201), some (.int p1), some (.long v2)]) (st' := [.ref 201, .ref 201]) 2 rfl ?_
      refine l1_getI hQ mt_X12_readBlockHead rfl (o := 201) (ci := 11) (k := 14) (a := 0) (b := 0) rfl rfl rfl rfl rfl ?_
      refine l1_many mt_X12_readBlockHead (pc' := 227) (L' := [some (.ref 201), some (.int p1), some (.long v2)]) (st' := [.int ((c3.1 201 14) + 1), .ref 201]) 2 rfl ?_
      refine l1_putI hQ mt_X12_readBlockHead rfl (o := 201) (ci := 11) (k := 14) (a := 0) rfl rfl rfl rfl rfl rfl (fun c4 => ?_)
      exact ok_X12_readBlockHead_230 hQ N p1 c4 v2
  · refine l1_many mt_X12_readBlockHead (pc' := 181) (L' := [some (.ref 201), some (.int p1), some (.long v2)]) (st' := [.int (p1 + 124), .int 7, .ref 201]) 5 rfl ?_
    refine l1_callV hQ mt_X12_readBlockHead mt_X12_fails rfl rfl (o := 201) (ci := 11) (As := [.int 7, .int (p1 + 124)]) (rest := []) rfl rfl rfl rfl rfl rfl (st1 := fun x5 => [.int x5]) (fun _ => rfl) (ok_X12_fails hQ c 7 (p1 + 124)) (fun x5 c6 => ?_)
    refine l1_ck (fun hz => ?_)
    exact l1_retZ mt_X12_readBlockHead rfl rfl rfl hz
set_option maxRecDepth 100000 in
theorem ok_X12_readBlockHead_151 {Q : hS → am_H → Prop} (hQ : l1_em km Q) (N : Nat) (p1 : Int32) : ∀ (c : hS) (v2 : Int64) (w0 : Int32), l1_G (wN wI) Q am_i_X12_readBlockHead 151 [some (.ref 201), some (.int p1), some (.long v2)] [.int w0, .ref 201] c (f_X12_readBlockHead_151 N p1 c v2 w0) := by
  intro c v2 w0
  rw [f_X12_readBlockHead_151]
  refine l1_ck (fun hz => ?_)
  refine l1_putI hQ mt_X12_readBlockHead rfl (o := 201) (ci := 11) (k := 18) (a := 0) rfl rfl rfl rfl rfl (l1_fz (ci := 11) (j := 18) rfl hz) (fun c1 => ?_)
  refine l1_many mt_X12_readBlockHead (pc' := 156) (L' := [some (.ref 201), some (.int p1), some (.long v2)]) (st' := [.ref 201, .long v2]) 2 rfl ?_
  refine l1_getI hQ mt_X12_readBlockHead rfl (o := 201) (ci := 11) (k := 18) (a := 0) (b := 0) rfl rfl rfl rfl rfl ?_
  refine l1_many mt_X12_readBlockHead (pc' := bif am_cc .eq (c1.1 201 18) 0 then 166 else 162) (L' := [some (.ref 201), some (.int p1), some (.long v2)]) (st' := [.long v2]) 1 rfl ?_
  refine l1_bif rfl ?_ ?_
  · refine l1_many mt_X12_readBlockHead (pc' := 169) (L' := [some (.ref 201), some (.int p1), some (.long v2)]) (st' := [.int 400, .long v2]) 1 rfl ?_
    exact ok_X12_readBlockHead_169 hQ N p1 c1 v2 400 v2
  · refine l1_many mt_X12_readBlockHead (pc' := 169) (L' := [some (.ref 201), some (.int p1), some (.long v2)]) (st' := [.int 0, .long v2]) 2 rfl ?_
    exact ok_X12_readBlockHead_169 hQ N p1 c1 v2 0 v2
set_option maxRecDepth 100000 in
theorem ok_X12_readBlockHead_138 {Q : hS → am_H → Prop} (hQ : l1_em km Q) (N : Nat) (p1 : Int32) : ∀ (c : hS) (v2 : Int64) (v4 : Int32), l1_G (wN wI) Q am_i_X12_readBlockHead 138 [some (.ref 201), some (.int p1), some (.long v2), none, some (.int v4)] [] c (f_X12_readBlockHead_138 N p1 c v2 v4) := by
  intro c v2 v4
  rw [f_X12_readBlockHead_138]
  refine l1_many mt_X12_readBlockHead (pc' := bif am_cc .ne v4 53 then 150 else 146) (L' := [some (.ref 201), some (.int p1), some (.long v2), none, some (.int v4)]) (st' := [.ref 201]) 4 rfl ?_
  refine l1_bin rfl ?_ ?_
  · refine l1_many mt_X12_readBlockHead (pc' := 151) (L' := [some (.ref 201), some (.int p1), some (.long v2), none, some (.int v4)]) (st' := [.int 1, .ref 201]) 2 rfl ?_
    refine l1_weak (m := [true, true, true, false, false]) (L' := [some (.ref 201), some (.int p1), some (.long v2)]) rfl ?_
    exact ok_X12_readBlockHead_151 hQ N p1 c v2 1
  · refine l1_many mt_X12_readBlockHead (pc' := 151) (L' := [some (.ref 201), some (.int p1), some (.long v2), none, some (.int v4)]) (st' := [.int 0, .ref 201]) 1 rfl ?_
    refine l1_weak (m := [true, true, true, false, false]) (L' := [some (.ref 201), some (.int p1), some (.long v2)]) rfl ?_
    exact ok_X12_readBlockHead_151 hQ N p1 c v2 0
set_option maxRecDepth 100000 in
theorem en_X12_readBlockHead {Q : hS → am_H → Prop} (hQ : l1_em km Q) (N : Nat) (c : hS) (p1 : Int32) : l1_G (wN wI) Q am_i_X12_readBlockHead 0 [some (.ref 201), some (.int p1)] [] c (f_X12_readBlockHead N c p1) := by
  rw [f_X12_readBlockHead]
  refine l1_many mt_X12_readBlockHead (pc' := 2) (L' := [some (.ref 201), some (.int p1)]) (st' := [.int p1, .ref 201]) 2 rfl ?_
  refine l1_callV hQ mt_X12_readBlockHead mt_X12_readSum rfl rfl (o := 201) (ci := 11) (As := [.int p1]) (rest := []) rfl rfl rfl rfl rfl rfl (st1 := fun x1 => [.int x1]) (fun _ => rfl) (ok_X12_readSum hQ N c p1) (fun x1 c2 => ?_)
  refine l1_many mt_X12_readBlockHead (pc' := bif am_cc .eq x1 0 then 72 else 8) (L' := [some (.ref 201), some (.int p1)]) (st' := []) 1 rfl ?_
  refine l1_bif rfl ?_ ?_
  · refine l1_many mt_X12_readBlockHead (pc' := 73) (L' := [some (.ref 201), some (.int p1)]) (st' := [.int 0]) 1 rfl ?_
    exact l1_ret mt_X12_readBlockHead rfl rfl rfl
  · refine l1_many mt_X12_readBlockHead (pc' := 14) (L' := [some (.ref 201), some (.int p1)]) (st' := [.int (p1 + 257), .ref 201]) 4 rfl ?_
    refine l1_callV hQ mt_X12_readBlockHead mt_X12_readMark rfl rfl (o := 201) (ci := 11) (As := [.int (p1 + 257)]) (rest := []) rfl rfl rfl rfl rfl rfl (st1 := fun x3 => [.int x3]) (fun _ => rfl) (ok_X12_readMark hQ N c2 (p1 + 257)) (fun x3 c4 => ?_)
    refine l1_many mt_X12_readBlockHead (pc' := bif am_cc .eq x3 0 then 72 else 20) (L' := [some (.ref 201), some (.int p1)]) (st' := []) 1 rfl ?_
    refine l1_bif rfl ?_ ?_
    · refine l1_many mt_X12_readBlockHead (pc' := 73) (L' := [some (.ref 201), some (.int p1)]) (st' := [.int 0]) 1 rfl ?_
      exact l1_ret mt_X12_readBlockHead rfl rfl rfl
    · refine l1_many mt_X12_readBlockHead (pc' := 27) (L' := [some (.ref 201), some (.int p1)]) (st' := [.int 8, .int (p1 + 100), .ref 201]) 5 rfl ?_
      refine l1_callV hQ mt_X12_readBlockHead mt_X12_readOctal rfl rfl (o := 201) (ci := 11) (As := [.int (p1 + 100), .int 8]) (rest := []) rfl rfl rfl rfl rfl rfl (st1 := fun x5 => [.int x5]) (fun _ => rfl) (ok_X12_readOctal hQ N c4 (p1 + 100) 8) (fun x5 c6 => ?_)
      refine l1_many mt_X12_readBlockHead (pc' := bif am_cc .eq x5 0 then 72 else 33) (L' := [some (.ref 201), some (.int p1)]) (st' := []) 1 rfl ?_
      refine l1_bif rfl ?_ ?_
      · refine l1_many mt_X12_readBlockHead (pc' := 73) (L' := [some (.ref 201), some (.int p1)]) (st' := [.int 0]) 1 rfl ?_
        exact l1_ret mt_X12_readBlockHead rfl rfl rfl
      · refine l1_many mt_X12_readBlockHead (pc' := 40) (L' := [some (.ref 201), some (.int p1)]) (st' := [.int 8, .int (p1 + 108), .ref 201]) 5 rfl ?_
        refine l1_callV hQ mt_X12_readBlockHead mt_X12_readOctal rfl rfl (o := 201) (ci := 11) (As := [.int (p1 + 108), .int 8]) (rest := []) rfl rfl rfl rfl rfl rfl (st1 := fun x7 => [.int x7]) (fun _ => rfl) (ok_X12_readOctal hQ N c6 (p1 + 108) 8) (fun x7 c8 => ?_)
        refine l1_many mt_X12_readBlockHead (pc' := bif am_cc .eq x7 0 then 72 else 46) (L' := [some (.ref 201), some (.int p1)]) (st' := []) 1 rfl ?_
        refine l1_bif rfl ?_ ?_
        · refine l1_many mt_X12_readBlockHead (pc' := 73) (L' := [some (.ref 201), some (.int p1)]) (st' := [.int 0]) 1 rfl ?_
          exact l1_ret mt_X12_readBlockHead rfl rfl rfl
        · refine l1_many mt_X12_readBlockHead (pc' := 53) (L' := [some (.ref 201), some (.int p1)]) (st' := [.int 8, .int (p1 + 116), .ref 201]) 5 rfl ?_
          refine l1_callV hQ mt_X12_readBlockHead mt_X12_readOctal rfl rfl (o := 201) (ci := 11) (As := [.int (p1 + 116), .int 8]) (rest := []) rfl rfl rfl rfl rfl rfl (st1 := fun x9 => [.int x9]) (fun _ => rfl) (ok_X12_readOctal hQ N c8 (p1 + 116) 8) (fun x9 c10 => ?_)
          refine l1_many mt_X12_readBlockHead (pc' := bif am_cc .eq x9 0 then 72 else 59) (L' := [some (.ref 201), some (.int p1)]) (st' := []) 1 rfl ?_
          refine l1_bif rfl ?_ ?_
          · refine l1_many mt_X12_readBlockHead (pc' := 73) (L' := [some (.ref 201), some (.int p1)]) (st' := [.int 0]) 1 rfl ?_
            exact l1_ret mt_X12_readBlockHead rfl rfl rfl
          · refine l1_many mt_X12_readBlockHead (pc' := 66) (L' := [some (.ref 201), some (.int p1)]) (st' := [.int 12, .int (p1 + 124), .ref 201]) 5 rfl ?_
            refine l1_callV hQ mt_X12_readBlockHead mt_X12_readOctal rfl rfl (o := 201) (ci := 11) (As := [.int (p1 + 124), .int 12]) (rest := []) rfl rfl rfl rfl rfl rfl (st1 := fun x11 => [.int x11]) (fun _ => rfl) (ok_X12_readOctal hQ N c10 (p1 + 124) 12) (fun x11 c12 => ?_)
            refine l1_many mt_X12_readBlockHead (pc' := bif am_cc .ne x11 0 then 74 else 72) (L' := [some (.ref 201), some (.int p1)]) (st' := []) 1 rfl ?_
            refine l1_bin rfl ?_ ?_
            · refine l1_many mt_X12_readBlockHead (pc' := 73) (L' := [some (.ref 201), some (.int p1)]) (st' := [.int 0]) 1 rfl ?_
              exact l1_ret mt_X12_readBlockHead rfl rfl rfl
            · refine l1_many mt_X12_readBlockHead (pc' := 75) (L' := [some (.ref 201), some (.int p1)]) (st' := [.ref 201]) 1 rfl ?_
              refine l1_getJ hQ mt_X12_readBlockHead rfl (o := 201) (ci := 11) (k := 21) (a := 0) (b := 0) rfl rfl rfl rfl rfl ?_
              refine l1_many mt_X12_readBlockHead (pc' := 87) (L' := [some (.ref 201), some (.int p1), some (.long (c12.2.1 201 21))]) (st' := [.int 12, .int (p1 + 136), .ref 201]) 6 rfl ?_
              refine l1_callV hQ mt_X12_readBlockHead mt_X12_readOctal rfl rfl (o := 201) (ci := 11) (As := [.int (p1 + 136), .int 12]) (rest := []) rfl rfl rfl rfl rfl rfl (st1 := fun x13 => [.int x13]) (fun _ => rfl) (ok_X12_readOctal hQ N c12 (p1 + 136) 12) (fun x13 c14 => ?_)
              refine l1_many mt_X12_readBlockHead (pc' := bif am_cc .ne x13 0 then 95 else 93) (L' := [some (.ref 201), some (.int p1), some (.long (c12.2.1 201 21))]) (st' := []) 1 rfl ?_
              refine l1_bin rfl ?_ ?_
              · refine l1_many mt_X12_readBlockHead (pc' := 94) (L' := [some (.ref 201), some (.int p1), some (.long (c12.2.1 201 21))]) (st' := [.int 0]) 1 rfl ?_
                exact l1_ret mt_X12_readBlockHead rfl rfl rfl
              · refine l1_many mt_X12_readBlockHead (pc' := 96) (L' := [some (.ref 201), some (.int p1), some (.long (c12.2.1 201 21))]) (st' := [.ref 201]) 1 rfl ?_
                refine l1_getR hQ mt_X12_readBlockHead rfl (o := 201) (ci := 11) (k := 3) (a := 0) (b := 0) rfl rfl rfl rfl rfl (q := 203) rfl ?_
                refine l1_many mt_X12_readBlockHead (pc' := 104) (L' := [some (.ref 201), some (.int p1), some (.long (c12.2.1 201 21))]) (st' := [.int (p1 + 156), .ref 203]) 3 rfl ?_
                refine l1_ck (fun hx => ?_)
                refine l1_ald hQ mt_X12_readBlockHead rfl (o := 203) rfl hx ?_
                refine l1_many mt_X12_readBlockHead (pc' := bif am_cc .eq (c14.1 203 (p1 + 156).toNatClampNeg) 48 then 138 else 114) (L' := [some (.ref 201), some (.int p1), some (.long (c12.2.1 201 21)), none, some (.int (c14.1 203 (p1 + 156).toNatClampNeg))]) (st' := []) 4 rfl ?_
                refine l1_bif rfl ?_ ?_
                · exact ok_X12_readBlockHead_138 hQ N p1 c14 (c12.2.1 201 21) (c14.1 203 (p1 + 156).toNatClampNeg)
                · refine l1_many mt_X12_readBlockHead (pc' := bif am_cc .eq (c14.1 203 (p1 + 156).toNatClampNeg) 0 then 138 else 119) (L' := [some (.ref 201), some (.int p1), some (.long (c12.2.1 201 21)), none, some (.int (c14.1 203 (p1 + 156).toNatClampNeg))]) (st' := []) 2 rfl ?_
                  refine l1_bif rfl ?_ ?_
                  · exact ok_X12_readBlockHead_138 hQ N p1 c14 (c12.2.1 201 21) (c14.1 203 (p1 + 156).toNatClampNeg)
                  · refine l1_many mt_X12_readBlockHead (pc' := bif am_cc .eq (c14.1 203 (p1 + 156).toNatClampNeg) 53 then 138 else 126) (L' := [some (.ref 201), some (.int p1), some (.long (c12.2.1 201 21)), none, some (.int (c14.1 203 (p1 + 156).toNatClampNeg))]) (st' := []) 3 rfl ?_
                    refine l1_bif rfl ?_ ?_
                    · exact ok_X12_readBlockHead_138 hQ N p1 c14 (c12.2.1 201 21) (c14.1 203 (p1 + 156).toNatClampNeg)
                    · refine l1_many mt_X12_readBlockHead (pc' := 134) (L' := [some (.ref 201), some (.int p1), some (.long (c12.2.1 201 21)), none, some (.int (c14.1 203 (p1 + 156).toNatClampNeg))]) (st' := [.int (p1 + 156), .int 8, .ref 201]) 5 rfl ?_
                      refine l1_callV hQ mt_X12_readBlockHead mt_X12_fails rfl rfl (o := 201) (ci := 11) (As := [.int 8, .int (p1 + 156)]) (rest := []) rfl rfl rfl rfl rfl rfl (st1 := fun x15 => [.int x15]) (fun _ => rfl) (ok_X12_fails hQ c14 8 (p1 + 156)) (fun x15 c16 => ?_)
                      refine l1_ck (fun hz => ?_)
                      exact l1_retZ mt_X12_readBlockHead rfl rfl rfl hz
theorem ok_X12_readBlockHead {Q : hS → am_H → Prop} (hQ : l1_em km Q) (N : Nat) (c : hS) (p1 : Int32) : l1_T wI Q am_i_X12_readBlockHead [.ref 201, .int p1] c (f_X12_readBlockHead N c p1) := l1_of (en_X12_readBlockHead hQ N c p1) ⟨rfl, rfl, trivial⟩
end
section
/-! THAT THE MACHINE FOLLOWS THEM, printed by gen_l1.py -/
set_option maxRecDepth 100000 in
theorem ok_X12_isBlank_4 {Q : hS → am_H → Prop} (hQ : l1_em km Q) (N : Nat) (p1 : Int32) : ∀ n : Nat, ∀ (c : hS) (v2 : Int32) (v3 : Int32), l1_G (wN wI) Q am_i_X12_isBlank 4 [some (.ref 201), some (.int p1), some (.int v2), some (.int v3)] [] c (f_X12_isBlank_4 N p1 n c v2 v3) := by
  intro n
  induction n with
  | zero => intro c v2 v3; exact l1_none
  | succ n ih =>
    intro c v2 v3
    rw [f_X12_isBlank_4]
    refine l1_many mt_X12_isBlank (pc' := bif am_cc .ge v3 512 then 38 else 11) (L' := [some (.ref 201), some (.int p1), some (.int v2), some (.int v3)]) (st' := []) 3 rfl ?_
    refine l1_bif rfl ?_ ?_
    · refine l1_many mt_X12_isBlank (pc' := 39) (L' := [some (.ref 201), some (.int p1), some (.int v2), some (.int v3)]) (st' := [.int v2]) 1 rfl ?_
      refine l1_ck (fun hz => ?_)
      exact l1_retZ mt_X12_isBlank rfl rfl rfl hz
    · refine l1_many mt_X12_isBlank (pc' := bif am_cc .eq v2 0 then 30 else 15) (L' := [some (.ref 201), some (.int p1), some (.int v2), some (.int v3)]) (st' := []) 2 rfl ?_
      refine l1_bif rfl ?_ ?_
      · refine l1_many mt_X12_isBlank (pc' := 4) (L' := [some (.ref 201), some (.int p1), some (.int 0), some (.int (v3 + 1))]) (st' := []) 4 rfl ?_
        exact ih c 0 (v3 + 1)
      · refine l1_many mt_X12_isBlank (pc' := 16) (L' := [some (.ref 201), some (.int p1), some (.int v2), some (.int v3)]) (st' := [.ref 201]) 1 rfl ?_
        refine l1_getR hQ mt_X12_isBlank rfl (o := 201) (ci := 11) (k := 3) (a := 0) (b := 0) rfl rfl rfl rfl rfl (q := 203) rfl ?_
        refine l1_many mt_X12_isBlank (pc' := 22) (L' := [some (.ref 201), some (.int p1), some (.int v2), some (.int v3)]) (st' := [.int (p1 + v3), .ref 203]) 3 rfl ?_
        refine l1_ck (fun hx => ?_)
        refine l1_ald hQ mt_X12_isBlank rfl (o := 203) rfl hx ?_
        refine l1_many mt_X12_isBlank (pc' := bif am_cc .ne (c.1 203 (p1 + v3).toNatClampNeg) 0 then 30 else 26) (L' := [some (.ref 201), some (.int p1), some (.int v2), some (.int v3)]) (st' := []) 1 rfl ?_
        refine l1_bin rfl ?_ ?_
        · refine l1_many mt_X12_isBlank (pc' := 4) (L' := [some (.ref 201), some (.int p1), some (.int 1), some (.int (v3 + 1))]) (st' := []) 5 rfl ?_
          exact ih c 1 (v3 + 1)
        · refine l1_many mt_X12_isBlank (pc' := 4) (L' := [some (.ref 201), some (.int p1), some (.int 0), some (.int (v3 + 1))]) (st' := []) 4 rfl ?_
          exact ih c 0 (v3 + 1)
set_option maxRecDepth 100000 in
theorem en_X12_isBlank {Q : hS → am_H → Prop} (hQ : l1_em km Q) (N : Nat) (c : hS) (p1 : Int32) : l1_G (wN wI) Q am_i_X12_isBlank 0 [some (.ref 201), some (.int p1)] [] c (f_X12_isBlank N c p1) := by
  rw [f_X12_isBlank]
  refine l1_many mt_X12_isBlank (pc' := 4) (L' := [some (.ref 201), some (.int p1), some (.int 1), some (.int 0)]) (st' := []) 4 rfl ?_
  exact ok_X12_isBlank_4 hQ N p1 N c 1 0
theorem ok_X12_isBlank {Q : hS → am_H → Prop} (hQ : l1_em km Q) (N : Nat) (c : hS) (p1 : Int32) : l1_T wI Q am_i_X12_isBlank [.ref 201, .int p1] c (f_X12_isBlank N c p1) := l1_of (en_X12_isBlank hQ N c p1) ⟨rfl, rfl, trivial⟩
set_option maxRecDepth 100000 in
theorem ok_X12_readBlocks_2 {Q : hS → am_H → Prop} (hQ : l1_em km Q) (N : Nat) : ∀ n : Nat, ∀ (c : hS) (v1 : Int32), l1_G (wN wI) Q am_i_X12_readBlocks 2 [some (.ref 201), some (.int v1)] [] c (f_X12_readBlocks_2 N n c v1) := by
  intro n
  induction n with
  | zero => intro c v1; exact l1_none
  | succ n ih =>
    intro c v1
    rw [f_X12_readBlocks_2]
    refine l1_many mt_X12_readBlocks (pc' := 9) (L' := [some (.ref 201), some (.int v1)]) (st' := [.long ((v1 + 512).toInt64), .ref 201]) 5 rfl ?_
    refine l1_callV hQ mt_X12_readBlocks mt_X12_reaches rfl rfl (o := 201) (ci := 11) (As := [.long ((v1 + 512).toInt64)]) (rest := []) rfl rfl rfl rfl rfl rfl (st1 := fun x1 => [.int x1]) (fun _ => rfl) (ok_X12_reaches hQ c ((v1 + 512).toInt64)) (fun x1 c2 => ?_)
    refine l1_many mt_X12_readBlocks (pc' := bif am_cc .ne x1 0 then 17 else 15) (L' := [some (.ref 201), some (.int v1)]) (st' := []) 1 rfl ?_
    refine l1_bin rfl ?_ ?_
    · refine l1_many mt_X12_readBlocks (pc' := 16) (L' := [some (.ref 201), some (.int v1)]) (st' := [.int 0]) 1 rfl ?_
      exact l1_ret mt_X12_readBlocks rfl rfl rfl
    · refine l1_many mt_X12_readBlocks (pc' := 19) (L' := [some (.ref 201), some (.int v1)]) (st' := [.int v1, .ref 201]) 2 rfl ?_
      refine l1_callV hQ mt_X12_readBlocks mt_X12_isBlank rfl rfl (o := 201) (ci := 11) (As := [.int v1]) (rest := []) rfl rfl rfl rfl rfl rfl (st1 := fun x3 => [.int x3]) (fun _ => rfl) (ok_X12_isBlank hQ N c2 v1) (fun x3 c4 => ?_)
      refine l1_many mt_X12_readBlocks (pc' := bif am_cc .eq x3 0 then 56 else 25) (L' := [some (.ref 201), some (.int v1)]) (st' := []) 1 rfl ?_
      refine l1_bif rfl ?_ ?_
      · refine l1_many mt_X12_readBlocks (pc' := 58) (L' := [some (.ref 201), some (.int v1)]) (st' := [.int v1, .ref 201]) 2 rfl ?_
        refine l1_callV hQ mt_X12_readBlocks mt_X12_readBlockHead rfl rfl (o := 201) (ci := 11) (As := [.int v1]) (rest := []) rfl rfl rfl rfl rfl rfl (st1 := fun x5 => [.int x5]) (fun _ => rfl) (ok_X12_readBlockHead hQ N c4 v1) (fun x5 c6 => ?_)
        refine l1_many mt_X12_readBlocks (pc' := bif am_cc .ne x5 0 then 66 else 64) (L' := [some (.ref 201), some (.int v1)]) (st' := []) 1 rfl ?_
        refine l1_bin rfl ?_ ?_
        · refine l1_many mt_X12_readBlocks (pc' := 65) (L' := [some (.ref 201), some (.int v1)]) (st' := [.int 0]) 1 rfl ?_
          exact l1_ret mt_X12_readBlocks rfl rfl rfl
        · refine l1_many mt_X12_readBlocks (pc' := 72) (L' := [some (.ref 201), some (.int v1)]) (st' := [.ref 201, .int (v1 + 512)]) 4 rfl ?_
          refine l1_getI hQ mt_X12_readBlocks rfl (o := 201) (ci := 11) (k := 16) (a := 0) (b := 0) rfl rfl rfl rfl rfl ?_
          refine l1_many mt_X12_readBlocks (pc' := 92) (L' := [some (.ref 201), some (.int v1), some (.int ((v1 + 512) + ((((c6.1 201 16) + 511) / 512) * 512)))]) (st' := [.long (((v1 + 512) + ((((c6.1 201 16) + 511) / 512) * 512)).toInt64), .ref 201]) 11 rfl ?_
          refine l1_callV hQ mt_X12_readBlocks mt_X12_reaches rfl rfl (o := 201) (ci := 11) (As := [.long (((v1 + 512) + ((((c6.1 201 16) + 511) / 512) * 512)).toInt64)]) (rest := []) rfl rfl rfl rfl rfl rfl (st1 := fun x7 => [.int x7]) (fun _ => rfl) (ok_X12_reaches hQ c6 (((v1 + 512) + ((((c6.1 201 16) + 511) / 512) * 512)).toInt64)) (fun x7 c8 => ?_)
          refine l1_many mt_X12_readBlocks (pc' := bif am_cc .ne x7 0 then 100 else 98) (L' := [some (.ref 201), some (.int v1), some (.int ((v1 + 512) + ((((c6.1 201 16) + 511) / 512) * 512)))]) (st' := []) 1 rfl ?_
          refine l1_bin rfl ?_ ?_
          · refine l1_many mt_X12_readBlocks (pc' := 99) (L' := [some (.ref 201), some (.int v1), some (.int ((v1 + 512) + ((((c6.1 201 16) + 511) / 512) * 512)))]) (st' := [.int 0]) 1 rfl ?_
            exact l1_ret mt_X12_readBlocks rfl rfl rfl
          · refine l1_many mt_X12_readBlocks (pc' := 107) (L' := [some (.ref 201), some (.int v1), some (.int ((v1 + 512) + ((((c6.1 201 16) + 511) / 512) * 512)))]) (st' := [.ref 201, .int (v1 + 512), .ref 201]) 5 rfl ?_
            refine l1_getI hQ mt_X12_readBlocks rfl (o := 201) (ci := 11) (k := 16) (a := 0) (b := 0) rfl rfl rfl rfl rfl ?_
            refine l1_callV hQ mt_X12_readBlocks mt_X12_takeBytes rfl rfl (o := 201) (ci := 11) (As := [.int (v1 + 512), .int (c8.1 201 16)]) (rest := []) rfl rfl rfl rfl rfl rfl (st1 := fun _ => []) (fun _ => rfl) (ok_X12_takeBytes hQ N c8 (v1 + 512) (c8.1 201 16)) (fun _ c9 => ?_)
            refine l1_many mt_X12_readBlocks (pc' := 115) (L' := [some (.ref 201), some (.int v1), some (.int ((v1 + 512) + ((((c6.1 201 16) + 511) / 512) * 512)))]) (st' := [.int v1, .ref 201]) 2 rfl ?_
            refine l1_callV hQ mt_X12_readBlocks mt_X12_comes rfl rfl (o := 201) (ci := 11) (As := [.int v1]) (rest := []) rfl rfl rfl rfl rfl rfl (st1 := fun x10 => [.int x10]) (fun _ => rfl) (ok_X12_comes hQ N c9 v1) (fun x10 c11 => ?_)
            refine l1_many mt_X12_readBlocks (pc' := bif am_cc .ne x10 0 then 123 else 121) (L' := [some (.ref 201), some (.int v1), some (.int ((v1 + 512) + ((((c6.1 201 16) + 511) / 512) * 512)))]) (st' := []) 1 rfl ?_
            refine l1_bin rfl ?_ ?_
            · refine l1_many mt_X12_readBlocks (pc' := 122) (L' := [some (.ref 201), some (.int v1), some (.int ((v1 + 512) + ((((c6.1 201 16) + 511) / 512) * 512)))]) (st' := [.int 0]) 1 rfl ?_
              exact l1_ret mt_X12_readBlocks rfl rfl rfl
            · refine l1_many mt_X12_readBlocks (pc' := 2) (L' := [some (.ref 201), some (.int ((v1 + 512) + ((((c6.1 201 16) + 511) / 512) * 512))), some (.int ((v1 + 512) + ((((c6.1 201 16) + 511) / 512) * 512)))]) (st' := []) 3 rfl ?_
              refine l1_weak (m := [true, true, false]) (L' := [some (.ref 201), some (.int ((v1 + 512) + ((((c6.1 201 16) + 511) / 512) * 512)))]) rfl ?_
              exact ih c11 ((v1 + 512) + ((((c6.1 201 16) + 511) / 512) * 512))
      · refine l1_many mt_X12_readBlocks (pc' := 32) (L' := [some (.ref 201), some (.int v1)]) (st' := [.long ((v1 + 1024).toInt64), .ref 201]) 5 rfl ?_
        refine l1_callV hQ mt_X12_readBlocks mt_X12_reaches rfl rfl (o := 201) (ci := 11) (As := [.long ((v1 + 1024).toInt64)]) (rest := []) rfl rfl rfl rfl rfl rfl (st1 := fun x12 => [.int x12]) (fun _ => rfl) (ok_X12_reaches hQ c4 ((v1 + 1024).toInt64)) (fun x12 c13 => ?_)
        refine l1_many mt_X12_readBlocks (pc' := bif am_cc .eq x12 0 then 54 else 38) (L' := [some (.ref 201), some (.int v1)]) (st' := []) 1 rfl ?_
        refine l1_bif rfl ?_ ?_
        · refine l1_many mt_X12_readBlocks (pc' := 55) (L' := [some (.ref 201), some (.int v1)]) (st' := [.int 0]) 1 rfl ?_
          exact l1_ret mt_X12_readBlocks rfl rfl rfl
        · refine l1_many mt_X12_readBlocks (pc' := 44) (L' := [some (.ref 201), some (.int v1)]) (st' := [.int (v1 + 512), .ref 201]) 4 rfl ?_
          refine l1_callV hQ mt_X12_readBlocks mt_X12_areZeros rfl rfl (o := 201) (ci := 11) (As := [.int (v1 + 512)]) (rest := []) rfl rfl rfl rfl rfl rfl (st1 := fun x14 => [.int x14]) (fun _ => rfl) (ok_X12_areZeros hQ N c13 (v1 + 512)) (fun x14 c15 => ?_)
          refine l1_many mt_X12_readBlocks (pc' := bif am_cc .eq x14 0 then 54 else 50) (L' := [some (.ref 201), some (.int v1)]) (st' := []) 1 rfl ?_
          refine l1_bif rfl ?_ ?_
          · refine l1_many mt_X12_readBlocks (pc' := 55) (L' := [some (.ref 201), some (.int v1)]) (st' := [.int 0]) 1 rfl ?_
            exact l1_ret mt_X12_readBlocks rfl rfl rfl
          · refine l1_many mt_X12_readBlocks (pc' := 55) (L' := [some (.ref 201), some (.int v1)]) (st' := [.int 1]) 2 rfl ?_
            exact l1_ret mt_X12_readBlocks rfl rfl rfl
set_option maxRecDepth 100000 in
theorem en_X12_readBlocks {Q : hS → am_H → Prop} (hQ : l1_em km Q) (N : Nat) (c : hS) : l1_G (wN wI) Q am_i_X12_readBlocks 0 [some (.ref 201)] [] c (f_X12_readBlocks N c) := by
  rw [f_X12_readBlocks]
  refine l1_many mt_X12_readBlocks (pc' := 2) (L' := [some (.ref 201), some (.int 0)]) (st' := []) 2 rfl ?_
  exact ok_X12_readBlocks_2 hQ N N c 0
theorem ok_X12_readBlocks {Q : hS → am_H → Prop} (hQ : l1_em km Q) (N : Nat) (c : hS) : l1_T wI Q am_i_X12_readBlocks [.ref 201] c (f_X12_readBlocks N c) := l1_of (en_X12_readBlocks hQ N c) ⟨rfl, trivial⟩
set_option maxRecDepth 100000 in
theorem en_X12_digitOf {Q : hS → am_H → Prop} (hQ : l1_em km Q) (c : hS) (p0 : Int32) : l1_G (wN wI) Q am_i_X12_digitOf 0 [some (.int p0)] [] c (f_X12_digitOf c p0) := by
  rw [f_X12_digitOf]
  refine l1_many mt_X12_digitOf (pc' := 8) (L' := [some (.int p0)]) (st' := [.long 57, .long 48, .long p0.toInt64]) 4 rfl ?_
  refine l1_callS mt_X12_digitOf mt_X12_in rfl rfl (As := [.long p0.toInt64, .long 48, .long 57]) (rest := []) rfl rfl rfl (st1 := fun x1 => [.int x1]) (fun _ => rfl) (ok_X12_in hQ c p0.toInt64 48 57) (fun x1 c2 => ?_)
  refine l1_many mt_X12_digitOf (pc' := bif am_cc .eq x1 0 then 21 else 14) (L' := [some (.int p0)]) (st' := []) 1 rfl ?_
  refine l1_bif rfl ?_ ?_
  · refine l1_many mt_X12_digitOf (pc' := 29) (L' := [some (.int p0)]) (st' := [.long 102, .long 97, .long p0.toInt64]) 4 rfl ?_
    refine l1_callS mt_X12_digitOf mt_X12_in rfl rfl (As := [.long p0.toInt64, .long 97, .long 102]) (rest := []) rfl rfl rfl (st1 := fun x3 => [.int x3]) (fun _ => rfl) (ok_X12_in hQ c2 p0.toInt64 97 102) (fun x3 c4 => ?_)
    refine l1_many mt_X12_digitOf (pc' := bif am_cc .eq x3 0 then 42 else 35) (L' := [some (.int p0)]) (st' := []) 1 rfl ?_
    refine l1_bif rfl ?_ ?_
    · refine l1_many mt_X12_digitOf (pc' := 50) (L' := [some (.int p0)]) (st' := [.long 70, .long 65, .long p0.toInt64]) 4 rfl ?_
      refine l1_callS mt_X12_digitOf mt_X12_in rfl rfl (As := [.long p0.toInt64, .long 65, .long 70]) (rest := []) rfl rfl rfl (st1 := fun x5 => [.int x5]) (fun _ => rfl) (ok_X12_in hQ c4 p0.toInt64 65 70) (fun x5 c6 => ?_)
      refine l1_many mt_X12_digitOf (pc' := bif am_cc .eq x5 0 then 63 else 56) (L' := [some (.int p0)]) (st' := []) 1 rfl ?_
      refine l1_bif rfl ?_ ?_
      · refine l1_many mt_X12_digitOf (pc' := 64) (L' := [some (.int p0)]) (st' := [.int (-1)]) 1 rfl ?_
        exact l1_ret mt_X12_digitOf rfl rfl rfl
      · refine l1_many mt_X12_digitOf (pc' := 64) (L' := [some (.int p0)]) (st' := [.int (p0 - 55)]) 4 rfl ?_
        exact l1_ret mt_X12_digitOf rfl rfl rfl
    · refine l1_many mt_X12_digitOf (pc' := 64) (L' := [some (.int p0)]) (st' := [.int (p0 - 87)]) 4 rfl ?_
      exact l1_ret mt_X12_digitOf rfl rfl rfl
  · refine l1_many mt_X12_digitOf (pc' := 64) (L' := [some (.int p0)]) (st' := [.int (p0 - 48)]) 4 rfl ?_
    exact l1_ret mt_X12_digitOf rfl rfl rfl
theorem ok_X12_digitOf {Q : hS → am_H → Prop} (hQ : l1_em km Q) (c : hS) (p0 : Int32) : l1_T wI Q am_i_X12_digitOf [.int p0] c (f_X12_digitOf c p0) := l1_of (en_X12_digitOf hQ c p0) ⟨rfl, trivial⟩
set_option maxRecDepth 100000 in
theorem ok_X12_hexAt_5 {Q : hS → am_H → Prop} (hQ : l1_em km Q) (N : Nat) (p1 : Int32) : ∀ n : Nat, ∀ (c : hS) (v2 : Int64) (v4 : Int32), l1_G (wN wL) Q am_i_X12_hexAt 5 [some (.ref 201), some (.int p1), some (.long v2), none, some (.int v4)] [] c (f_X12_hexAt_5 N p1 n c v2 v4) := by
  intro n
  induction n with
  | zero => intro c v2 v4; exact l1_none
  | succ n ih =>
    intro c v2 v4
    rw [f_X12_hexAt_5]
    refine l1_many mt_X12_hexAt (pc' := bif am_cc .ge v4 8 then 38 else 12) (L' := [some (.ref 201), some (.int p1), some (.long v2), none, some (.int v4)]) (st' := []) 3 rfl ?_
    refine l1_bif rfl ?_ ?_
    · refine l1_many mt_X12_hexAt (pc' := 39) (L' := [some (.ref 201), some (.int p1), some (.long v2), none, some (.int v4)]) (st' := [.long v2]) 1 rfl ?_
      exact l1_ret mt_X12_hexAt rfl rfl rfl
    · refine l1_many mt_X12_hexAt (pc' := 18) (L' := [some (.ref 201), some (.int p1), some (.long v2), none, some (.int v4)]) (st' := [.ref 201, .long (16 * v2)]) 4 rfl ?_
      refine l1_getR hQ mt_X12_hexAt rfl (o := 201) (ci := 11) (k := 3) (a := 0) (b := 0) rfl rfl rfl rfl rfl (q := 203) rfl ?_
      refine l1_many mt_X12_hexAt (pc' := 25) (L' := [some (.ref 201), some (.int p1), some (.long v2), none, some (.int v4)]) (st' := [.int (p1 + v4), .ref 203, .long (16 * v2)]) 3 rfl ?_
      refine l1_ck (fun hx => ?_)
      refine l1_ald hQ mt_X12_hexAt rfl (o := 203) rfl hx ?_
      refine l1_callS mt_X12_hexAt mt_X12_digitOf rfl rfl (As := [.int (c.1 203 (p1 + v4).toNatClampNeg)]) (rest := [.long (16 * v2)]) rfl rfl rfl (st1 := fun x1 => [.int x1, .long (16 * v2)]) (fun _ => rfl) (ok_X12_digitOf hQ c (c.1 203 (p1 + v4).toNatClampNeg)) (fun x1 c2 => ?_)
      refine l1_many mt_X12_hexAt (pc' := 5) (L' := [some (.ref 201), some (.int p1), some (.long ((16 * v2) + x1.toInt64)), none, some (.int (v4 + 1))]) (st' := []) 5 rfl ?_
      exact ih c2 ((16 * v2) + x1.toInt64) (v4 + 1)
set_option maxRecDepth 100000 in
theorem en_X12_hexAt {Q : hS → am_H → Prop} (hQ : l1_em km Q) (N : Nat) (c : hS) (p1 : Int32) : l1_G (wN wL) Q am_i_X12_hexAt 0 [some (.ref 201), some (.int p1)] [] c (f_X12_hexAt N c p1) := by
  rw [f_X12_hexAt]
  refine l1_many mt_X12_hexAt (pc' := 5) (L' := [some (.ref 201), some (.int p1), some (.long 0), none, some (.int 0)]) (st' := []) 4 rfl ?_
  exact ok_X12_hexAt_5 hQ N p1 N c 0 0
theorem ok_X12_hexAt {Q : hS → am_H → Prop} (hQ : l1_em km Q) (N : Nat) (c : hS) (p1 : Int32) : l1_T wL Q am_i_X12_hexAt [.ref 201, .int p1] c (f_X12_hexAt N c p1) := l1_of (en_X12_hexAt hQ N c p1) ⟨rfl, rfl, trivial⟩
set_option maxRecDepth 100000 in
theorem ok_X12_readDigitsHead_49 {Q : hS → am_H → Prop} (hQ : l1_em km Q) (N : Nat) (p1 : Int32) {k16 : hS → Int32 → Option (Int32 × hS)} (hk16 : ∀ c v2, l1_G (wN wI) Q am_i_X12_readDigitsHead 16 [some (.ref 201), some (.int p1), some (.int v2)] [] c (k16 c v2)) : ∀ (c : hS) (v2 : Int32) (w0 : Int32), l1_G (wN wI) Q am_i_X12_readDigitsHead 49 [some (.ref 201), some (.int p1), some (.int v2)] [.int w0] c (f_X12_readDigitsHead_49 N p1 k16 c v2 w0) := by
  intro c v2 w0
  rw [f_X12_readDigitsHead_49]
  refine l1_many mt_X12_readDigitsHead (pc' := 51) (L' := [some (.ref 201), some (.int p1), some (.int v2), some (.int w0)]) (st' := [.ref 201]) 2 rfl ?_
  refine l1_getR hQ mt_X12_readDigitsHead rfl (o := 201) (ci := 11) (k := 3) (a := 0) (b := 0) rfl rfl rfl rfl rfl (q := 203) rfl ?_
  refine l1_many mt_X12_readDigitsHead (pc' := 57) (L' := [some (.ref 201), some (.int p1), some (.int v2), some (.int w0)]) (st' := [.int (p1 + v2), .ref 203]) 3 rfl ?_
  refine l1_ck (fun hx => ?_)
  refine l1_ald hQ mt_X12_readDigitsHead rfl (o := 203) rfl hx ?_
  refine l1_many mt_X12_readDigitsHead (pc' := bif am_cc .eq (c.1 203 (p1 + v2).toNatClampNeg) w0 then 71 else 62) (L' := [some (.ref 201), some (.int p1), some (.int v2), some (.int w0)]) (st' := []) 2 rfl ?_
  refine l1_bif rfl ?_ ?_
  · refine l1_many mt_X12_readDigitsHead (pc' := 16) (L' := [some (.ref 201), some (.int p1), some (.int (v2 + 1)), some (.int w0)]) (st' := []) 2 rfl ?_
    refine l1_weak (m := [true, true, true, false, false]) (L' := [some (.ref 201), some (.int p1), some (.int (v2 + 1))]) rfl ?_
    exact hk16 c (v2 + 1)
  · refine l1_many mt_X12_readDigitsHead (pc' := 67) (L' := [some (.ref 201), some (.int p1), some (.int v2), some (.int w0)]) (st' := [.int (p1 + v2), .int 3, .ref 201]) 5 rfl ?_
    refine l1_callV hQ mt_X12_readDigitsHead mt_X12_fails rfl rfl (o := 201) (ci := 11) (As := [.int 3, .int (p1 + v2)]) (rest := []) rfl rfl rfl rfl rfl rfl (st1 := fun x1 => [.int x1]) (fun _ => rfl) (ok_X12_fails hQ c 3 (p1 + v2)) (fun x1 c2 => ?_)
    refine l1_ck (fun hz => ?_)
    exact l1_retZ mt_X12_readDigitsHead rfl rfl rfl hz
set_option maxRecDepth 100000 in
theorem ok_X12_readDigitsHead_32 {Q : hS → am_H → Prop} (hQ : l1_em km Q) (N : Nat) (p1 : Int32) {k16 : hS → Int32 → Option (Int32 × hS)} (hk16 : ∀ c v2, l1_G (wN wI) Q am_i_X12_readDigitsHead 16 [some (.ref 201), some (.int p1), some (.int v2)] [] c (k16 c v2)) : ∀ (c : hS) (v2 : Int32), l1_G (wN wI) Q am_i_X12_readDigitsHead 32 [some (.ref 201), some (.int p1), some (.int v2)] [] c (f_X12_readDigitsHead_32 N p1 k16 c v2) := by
  intro c v2
  rw [f_X12_readDigitsHead_32]
  refine l1_many mt_X12_readDigitsHead (pc' := 49) (L' := [some (.ref 201), some (.int p1), some (.int v2)]) (st' := [.int 55]) 2 rfl ?_
  exact ok_X12_readDigitsHead_49 hQ N p1 hk16 c v2 55
set_option maxRecDepth 100000 in
theorem ok_X12_readDigitsHead_207 {Q : hS → am_H → Prop} (hQ : l1_em km Q) (N : Nat) (p1 : Int32) : ∀ n : Nat, ∀ (c : hS) (v4 : Int32), l1_G (wN wI) Q am_i_X12_readDigitsHead 207 [some (.ref 201), some (.int p1), none, none, some (.int v4)] [] c (f_X12_readDigitsHead_207 N p1 n c v4) := by
  intro n
  induction n with
  | zero => intro c v4; exact l1_none
  | succ n ih =>
    intro c v4
    rw [f_X12_readDigitsHead_207]
    refine l1_many mt_X12_readDigitsHead (pc' := 210) (L' := [some (.ref 201), some (.int p1), none, none, some (.int v4)]) (st' := [.ref 201, .int v4]) 2 rfl ?_
    refine l1_getI hQ mt_X12_readDigitsHead rfl (o := 201) (ci := 11) (k := 14) (a := 0) (b := 0) rfl rfl rfl rfl rfl ?_
    refine l1_many mt_X12_readDigitsHead (pc' := bif am_cc .ge v4 (c.1 201 14) then 241 else 216) (L' := [some (.ref 201), some (.int p1), none, none, some (.int v4)]) (st' := []) 1 rfl ?_
    refine l1_bif rfl ?_ ?_
    · refine l1_many mt_X12_readDigitsHead (pc' := 242) (L' := [some (.ref 201), some (.int p1), none, none, some (.int v4)]) (st' := [.int 1]) 1 rfl ?_
      exact l1_ret mt_X12_readDigitsHead rfl rfl rfl
    · refine l1_many mt_X12_readDigitsHead (pc' := 217) (L' := [some (.ref 201), some (.int p1), none, none, some (.int v4)]) (st' := [.ref 201]) 1 rfl ?_
      refine l1_getR hQ mt_X12_readDigitsHead rfl (o := 201) (ci := 11) (k := 15) (a := 0) (b := 0) rfl rfl rfl rfl rfl (q := 209) rfl ?_
      refine l1_many mt_X12_readDigitsHead (pc' := 223) (L' := [some (.ref 201), some (.int p1), none, none, some (.int v4)]) (st' := [.ref 201, .int v4, .ref 209]) 2 rfl ?_
      refine l1_getR hQ mt_X12_readDigitsHead rfl (o := 201) (ci := 11) (k := 3) (a := 0) (b := 0) rfl rfl rfl rfl rfl (q := 203) rfl ?_
      refine l1_many mt_X12_readDigitsHead (pc' := 233) (L' := [some (.ref 201), some (.int p1), none, none, some (.int v4)]) (st' := [.int ((p1 + 110) + v4), .ref 203, .int v4, .ref 209]) 5 rfl ?_
      refine l1_ck (fun hx => ?_)
      refine l1_ald hQ mt_X12_readDigitsHead rfl (o := 203) rfl hx ?_
      refine l1_ck (fun hx => ?_)
      refine l1_ast hQ mt_X12_readDigitsHead rfl (o := 209) rfl hx (fun c1 => ?_)
      refine l1_many mt_X12_readDigitsHead (pc' := 207) (L' := [some (.ref 201), some (.int p1), none, none, some (.int (v4 + 1))]) (st' := []) 2 rfl ?_
      exact ih c1 (v4 + 1)
set_option maxRecDepth 100000 in
theorem ok_X12_readDigitsHead_80 {Q : hS → am_H → Prop} (hQ : l1_em km Q) (N : Nat) (p1 : Int32) : ∀ n : Nat, ∀ (c : hS) (v2 : Int32), l1_G (wN wI) Q am_i_X12_readDigitsHead 80 [some (.ref 201), some (.int p1), some (.int v2)] [] c (f_X12_readDigitsHead_80 N p1 n c v2) := by
  intro n
  induction n with
  | zero => intro c v2; exact l1_none
  | succ n ih =>
    intro c v2
    rw [f_X12_readDigitsHead_80]
    refine l1_many mt_X12_readDigitsHead (pc' := bif am_cc .ge v2 110 then 116 else 86) (L' := [some (.ref 201), some (.int p1), some (.int v2)]) (st' := []) 3 rfl ?_
    refine l1_bif rfl ?_ ?_
    · refine l1_many mt_X12_readDigitsHead (pc' := 121) (L' := [some (.ref 201), some (.int p1), some (.int v2)]) (st' := [.int (p1 + 94), .ref 201]) 4 rfl ?_
      refine l1_callV hQ mt_X12_readDigitsHead mt_X12_hexAt rfl rfl (o := 201) (ci := 11) (As := [.int (p1 + 94)]) (rest := []) rfl rfl rfl rfl rfl rfl (st1 := fun x1 => [.long x1]) (fun _ => rfl) (ok_X12_hexAt hQ N c (p1 + 94)) (fun x1 c2 => ?_)
      refine l1_many mt_X12_readDigitsHead (pc' := 130) (L' := [some (.ref 201), some (.int p1), some (.long x1)]) (st' := [.long 100, .long 1, .long x1]) 4 rfl ?_
      refine l1_callS mt_X12_readDigitsHead mt_X12_in rfl rfl (As := [.long x1, .long 1, .long 100]) (rest := []) rfl rfl rfl (st1 := fun x3 => [.int x3]) (fun _ => rfl) (ok_X12_in hQ c2 x1 1 100) (fun x3 c4 => ?_)
      refine l1_many mt_X12_readDigitsHead (pc' := bif am_cc .ne x3 0 then 147 else 136) (L' := [some (.ref 201), some (.int p1), some (.long x1)]) (st' := []) 1 rfl ?_
      refine l1_bin rfl ?_ ?_
      · refine l1_many mt_X12_readDigitsHead (pc' := 143) (L' := [some (.ref 201), some (.int p1), some (.long x1)]) (st' := [.int (p1 + 94), .int 10, .ref 201]) 5 rfl ?_
        refine l1_callV hQ mt_X12_readDigitsHead mt_X12_fails rfl rfl (o := 201) (ci := 11) (As := [.int 10, .int (p1 + 94)]) (rest := []) rfl rfl rfl rfl rfl rfl (st1 := fun x10 => [.int x10]) (fun _ => rfl) (ok_X12_fails hQ c4 10 (p1 + 94)) (fun x10 c11 => ?_)
        refine l1_ck (fun hz => ?_)
        exact l1_retZ mt_X12_readDigitsHead rfl rfl rfl hz
      · refine l1_many mt_X12_readDigitsHead (pc' := 155) (L' := [some (.ref 201), some (.int p1), some (.long x1)]) (st' := [.long (((p1 + 110).toInt64) + x1), .ref 201]) 7 rfl ?_
        refine l1_callV hQ mt_X12_readDigitsHead mt_X12_reaches rfl rfl (o := 201) (ci := 11) (As := [.long (((p1 + 110).toInt64) + x1)]) (rest := []) rfl rfl rfl rfl rfl rfl (st1 := fun x5 => [.int x5]) (fun _ => rfl) (ok_X12_reaches hQ c4 (((p1 + 110).toInt64) + x1)) (fun x5 c6 => ?_)
        refine l1_many mt_X12_readDigitsHead (pc' := bif am_cc .ne x5 0 then 163 else 161) (L' := [some (.ref 201), some (.int p1), some (.long x1)]) (st' := []) 1 rfl ?_
        refine l1_bin rfl ?_ ?_
        · refine l1_many mt_X12_readDigitsHead (pc' := 162) (L' := [some (.ref 201), some (.int p1), some (.long x1)]) (st' := [.int 0]) 1 rfl ?_
          exact l1_ret mt_X12_readDigitsHead rfl rfl rfl
        · refine l1_many mt_X12_readDigitsHead (pc' := 168) (L' := [some (.ref 201), some (.int p1), some (.long x1)]) (st' := [.int (x1.toInt32 - 1), .ref 201]) 5 rfl ?_
          refine l1_putI hQ mt_X12_readDigitsHead rfl (o := 201) (ci := 11) (k := 14) (a := 0) rfl rfl rfl rfl rfl rfl (fun c7 => ?_)
          refine l1_many mt_X12_readDigitsHead (pc' := 172) (L' := [some (.ref 201), some (.int p1), some (.long x1)]) (st' := [.ref 201]) 1 rfl ?_
          refine l1_getR hQ mt_X12_readDigitsHead rfl (o := 201) (ci := 11) (k := 3) (a := 0) (b := 0) rfl rfl rfl rfl rfl (q := 203) rfl ?_
          refine l1_many mt_X12_readDigitsHead (pc' := 180) (L' := [some (.ref 201), some (.int p1), some (.long x1)]) (st' := [.ref 201, .int (p1 + 110), .ref 203]) 4 rfl ?_
          refine l1_getI hQ mt_X12_readDigitsHead rfl (o := 201) (ci := 11) (k := 14) (a := 0) (b := 0) rfl rfl rfl rfl rfl ?_
          refine l1_many mt_X12_readDigitsHead (pc' := 184) (L' := [some (.ref 201), some (.int p1), some (.long x1)]) (st' := [.int ((p1 + 110) + (c7.1 201 14)), .ref 203]) 1 rfl ?_
          refine l1_ck (fun hx => ?_)
          refine l1_ald hQ mt_X12_readDigitsHead rfl (o := 203) rfl hx ?_
          refine l1_many mt_X12_readDigitsHead (pc' := bif am_cc .eq (c7.1 203 ((p1 + 110) + (c7.1 201 14)).toNatClampNeg) 0 then 204 else 188) (L' := [some (.ref 201), some (.int p1), some (.long x1)]) (st' := []) 1 rfl ?_
          refine l1_bif rfl ?_ ?_
          · refine l1_many mt_X12_readDigitsHead (pc' := 207) (L' := [some (.ref 201), some (.int p1), some (.long x1), none, some (.int 0)]) (st' := []) 2 rfl ?_
            refine l1_weak (m := [true, true, false, false, true]) (L' := [some (.ref 201), some (.int p1), none, none, some (.int 0)]) rfl ?_
            exact ok_X12_readDigitsHead_207 hQ N p1 N c7 0
          · refine l1_many mt_X12_readDigitsHead (pc' := 196) (L' := [some (.ref 201), some (.int p1), some (.long x1)]) (st' := [.ref 201, .int (p1 + 110), .int 10, .ref 201]) 6 rfl ?_
            refine l1_getI hQ mt_X12_readDigitsHead rfl (o := 201) (ci := 11) (k := 14) (a := 0) (b := 0) rfl rfl rfl rfl rfl ?_
            refine l1_many mt_X12_readDigitsHead (pc' := 200) (L' := [some (.ref 201), some (.int p1), some (.long x1)]) (st' := [.int ((p1 + 110) + (c7.1 201 14)), .int 10, .ref 201]) 1 rfl ?_
            refine l1_callV hQ mt_X12_readDigitsHead mt_X12_fails rfl rfl (o := 201) (ci := 11) (As := [.int 10, .int ((p1 + 110) + (c7.1 201 14))]) (rest := []) rfl rfl rfl rfl rfl rfl (st1 := fun x8 => [.int x8]) (fun _ => rfl) (ok_X12_fails hQ c7 10 ((p1 + 110) + (c7.1 201 14))) (fun x8 c9 => ?_)
            refine l1_ck (fun hz => ?_)
            exact l1_retZ mt_X12_readDigitsHead rfl rfl rfl hz
    · refine l1_many mt_X12_readDigitsHead (pc' := 87) (L' := [some (.ref 201), some (.int p1), some (.int v2)]) (st' := [.ref 201]) 1 rfl ?_
      refine l1_getR hQ mt_X12_readDigitsHead rfl (o := 201) (ci := 11) (k := 3) (a := 0) (b := 0) rfl rfl rfl rfl rfl (q := 203) rfl ?_
      refine l1_many mt_X12_readDigitsHead (pc' := 93) (L' := [some (.ref 201), some (.int p1), some (.int v2)]) (st' := [.int (p1 + v2), .ref 203]) 3 rfl ?_
      refine l1_ck (fun hx => ?_)
      refine l1_ald hQ mt_X12_readDigitsHead rfl (o := 203) rfl hx ?_
      refine l1_callS mt_X12_readDigitsHead mt_X12_digitOf rfl rfl (As := [.int (c.1 203 (p1 + v2).toNatClampNeg)]) (rest := []) rfl rfl rfl (st1 := fun x12 => [.int x12]) (fun _ => rfl) (ok_X12_digitOf hQ c (c.1 203 (p1 + v2).toNatClampNeg)) (fun x12 c13 => ?_)
      refine l1_many mt_X12_readDigitsHead (pc' := bif am_cc .ge x12 0 then 110 else 100) (L' := [some (.ref 201), some (.int p1), some (.int v2)]) (st' := []) 1 rfl ?_
      refine l1_bif rfl ?_ ?_
      · refine l1_many mt_X12_readDigitsHead (pc' := 80) (L' := [some (.ref 201), some (.int p1), some (.int (v2 + 1))]) (st' := []) 2 rfl ?_
        exact ih c13 (v2 + 1)
      · refine l1_many mt_X12_readDigitsHead (pc' := 106) (L' := [some (.ref 201), some (.int p1), some (.int v2)]) (st' := [.int (p1 + v2), .int 6, .ref 201]) 5 rfl ?_
        refine l1_callV hQ mt_X12_readDigitsHead mt_X12_fails rfl rfl (o := 201) (ci := 11) (As := [.int 6, .int (p1 + v2)]) (rest := []) rfl rfl rfl rfl rfl rfl (st1 := fun x14 => [.int x14]) (fun _ => rfl) (ok_X12_fails hQ c13 6 (p1 + v2)) (fun x14 c15 => ?_)
        refine l1_ck (fun hz => ?_)
        exact l1_retZ mt_X12_readDigitsHead rfl rfl rfl hz
set_option maxRecDepth 100000 in
theorem ok_X12_readDigitsHead_16 {Q : hS → am_H → Prop} (hQ : l1_em km Q) (N : Nat) (p1 : Int32) : ∀ n : Nat, ∀ (c : hS) (v2 : Int32), l1_G (wN wI) Q am_i_X12_readDigitsHead 16 [some (.ref 201), some (.int p1), some (.int v2)] [] c (f_X12_readDigitsHead_16 N p1 n c v2) := by
  intro n
  induction n with
  | zero => intro c v2; exact l1_none
  | succ n ih =>
    intro c v2
    rw [f_X12_readDigitsHead_16]
    refine l1_many mt_X12_readDigitsHead (pc' := bif am_cc .ge v2 6 then 77 else 22) (L' := [some (.ref 201), some (.int p1), some (.int v2)]) (st' := []) 3 rfl ?_
    refine l1_bif rfl ?_ ?_
    · refine l1_many mt_X12_readDigitsHead (pc' := 80) (L' := [some (.ref 201), some (.int p1), some (.int 6)]) (st' := []) 2 rfl ?_
      exact ok_X12_readDigitsHead_80 hQ N p1 N c 6
    · refine l1_many mt_X12_readDigitsHead (pc' := bif am_cc .eq v2 1 then 32 else 27) (L' := [some (.ref 201), some (.int p1), some (.int v2)]) (st' := []) 3 rfl ?_
      refine l1_bif rfl ?_ ?_
      · exact ok_X12_readDigitsHead_32 hQ N p1 ih c v2
      · refine l1_many mt_X12_readDigitsHead (pc' := bif am_cc .ne v2 3 then 37 else 32) (L' := [some (.ref 201), some (.int p1), some (.int v2)]) (st' := []) 3 rfl ?_
        refine l1_bin rfl ?_ ?_
        · exact ok_X12_readDigitsHead_32 hQ N p1 ih c v2
        · refine l1_many mt_X12_readDigitsHead (pc' := bif am_cc .ne v2 5 then 47 else 42) (L' := [some (.ref 201), some (.int p1), some (.int v2)]) (st' := []) 3 rfl ?_
          refine l1_bin rfl ?_ ?_
          · refine l1_many mt_X12_readDigitsHead (pc' := 49) (L' := [some (.ref 201), some (.int p1), some (.int v2)]) (st' := [.int 49]) 2 rfl ?_
            exact ok_X12_readDigitsHead_49 hQ N p1 ih c v2 49
          · refine l1_many mt_X12_readDigitsHead (pc' := 49) (L' := [some (.ref 201), some (.int p1), some (.int v2)]) (st' := [.int 48]) 1 rfl ?_
            exact ok_X12_readDigitsHead_49 hQ N p1 ih c v2 48
set_option maxRecDepth 100000 in
theorem en_X12_readDigitsHead {Q : hS → am_H → Prop} (hQ : l1_em km Q) (N : Nat) (c : hS) (p1 : Int32) : l1_G (wN wI) Q am_i_X12_readDigitsHead 0 [some (.ref 201), some (.int p1)] [] c (f_X12_readDigitsHead N c p1) := by
  rw [f_X12_readDigitsHead]
  refine l1_many mt_X12_readDigitsHead (pc' := 6) (L' := [some (.ref 201), some (.int p1)]) (st' := [.long ((p1 + 110).toInt64), .ref 201]) 5 rfl ?_
  refine l1_callV hQ mt_X12_readDigitsHead mt_X12_reaches rfl rfl (o := 201) (ci := 11) (As := [.long ((p1 + 110).toInt64)]) (rest := []) rfl rfl rfl rfl rfl rfl (st1 := fun x1 => [.int x1]) (fun _ => rfl) (ok_X12_reaches hQ c ((p1 + 110).toInt64)) (fun x1 c2 => ?_)
  refine l1_many mt_X12_readDigitsHead (pc' := bif am_cc .ne x1 0 then 14 else 12) (L' := [some (.ref 201), some (.int p1)]) (st' := []) 1 rfl ?_
  refine l1_bin rfl ?_ ?_
  · refine l1_many mt_X12_readDigitsHead (pc' := 13) (L' := [some (.ref 201), some (.int p1)]) (st' := [.int 0]) 1 rfl ?_
    exact l1_ret mt_X12_readDigitsHead rfl rfl rfl
  · refine l1_many mt_X12_readDigitsHead (pc' := 16) (L' := [some (.ref 201), some (.int p1), some (.int 0)]) (st' := []) 2 rfl ?_
    exact ok_X12_readDigitsHead_16 hQ N p1 N c2 0
theorem ok_X12_readDigitsHead {Q : hS → am_H → Prop} (hQ : l1_em km Q) (N : Nat) (c : hS) (p1 : Int32) : l1_T wI Q am_i_X12_readDigitsHead [.ref 201, .int p1] c (f_X12_readDigitsHead N c p1) := l1_of (en_X12_readDigitsHead hQ N c p1) ⟨rfl, rfl, trivial⟩
set_option maxRecDepth 100000 in
theorem en_X12_trailerAt {Q : hS → am_H → Prop} (hQ : l1_em km Q) (c : hS) (p0 : Int32) : l1_G (wN wI) Q am_i_X12_trailerAt 0 [some (.int p0)] [] c (f_X12_trailerAt c p0) := by
  rw [f_X12_trailerAt]
  refine l1_many mt_X12_trailerAt (pc' := bif am_cc .ne p0 0 then 9 else 4) (L' := [some (.int p0)]) (st' := []) 2 rfl ?_
  refine l1_bin rfl ?_ ?_
  · refine l1_many mt_X12_trailerAt (pc' := 67) (L' := [some (.int p0)]) (st' := [.int 84]) 2 rfl ?_
    exact l1_ret mt_X12_trailerAt rfl rfl rfl
  · refine l1_many mt_X12_trailerAt (pc' := bif am_cc .eq p0 1 then 20 else 14) (L' := [some (.int p0)]) (st' := []) 3 rfl ?_
    refine l1_bif rfl ?_ ?_
    · refine l1_many mt_X12_trailerAt (pc' := 67) (L' := [some (.int p0)]) (st' := [.int 82]) 2 rfl ?_
      exact l1_ret mt_X12_trailerAt rfl rfl rfl
    · refine l1_many mt_X12_trailerAt (pc' := bif am_cc .ne p0 6 then 25 else 20) (L' := [some (.int p0)]) (st' := []) 3 rfl ?_
      refine l1_bin rfl ?_ ?_
      · refine l1_many mt_X12_trailerAt (pc' := 67) (L' := [some (.int p0)]) (st' := [.int 82]) 2 rfl ?_
        exact l1_ret mt_X12_trailerAt rfl rfl rfl
      · refine l1_many mt_X12_trailerAt (pc' := bif am_cc .ne p0 2 then 35 else 30) (L' := [some (.int p0)]) (st' := []) 3 rfl ?_
        refine l1_bin rfl ?_ ?_
        · refine l1_many mt_X12_trailerAt (pc' := 67) (L' := [some (.int p0)]) (st' := [.int 65]) 2 rfl ?_
          exact l1_ret mt_X12_trailerAt rfl rfl rfl
        · refine l1_many mt_X12_trailerAt (pc' := bif am_cc .ne p0 3 then 45 else 40) (L' := [some (.int p0)]) (st' := []) 3 rfl ?_
          refine l1_bin rfl ?_ ?_
          · refine l1_many mt_X12_trailerAt (pc' := 67) (L' := [some (.int p0)]) (st' := [.int 73]) 2 rfl ?_
            exact l1_ret mt_X12_trailerAt rfl rfl rfl
          · refine l1_many mt_X12_trailerAt (pc' := bif am_cc .ne p0 4 then 55 else 50) (L' := [some (.int p0)]) (st' := []) 3 rfl ?_
            refine l1_bin rfl ?_ ?_
            · refine l1_many mt_X12_trailerAt (pc' := 67) (L' := [some (.int p0)]) (st' := [.int 76]) 2 rfl ?_
              exact l1_ret mt_X12_trailerAt rfl rfl rfl
            · refine l1_many mt_X12_trailerAt (pc' := bif am_cc .ne p0 5 then 65 else 60) (L' := [some (.int p0)]) (st' := []) 3 rfl ?_
              refine l1_bin rfl ?_ ?_
              · refine l1_many mt_X12_trailerAt (pc' := 67) (L' := [some (.int p0)]) (st' := [.int 69]) 2 rfl ?_
                exact l1_ret mt_X12_trailerAt rfl rfl rfl
              · refine l1_many mt_X12_trailerAt (pc' := 67) (L' := [some (.int p0)]) (st' := [.int 33]) 1 rfl ?_
                exact l1_ret mt_X12_trailerAt rfl rfl rfl
theorem ok_X12_trailerAt {Q : hS → am_H → Prop} (hQ : l1_em km Q) (c : hS) (p0 : Int32) : l1_T wI Q am_i_X12_trailerAt [.int p0] c (f_X12_trailerAt c p0) := l1_of (en_X12_trailerAt hQ c p0) ⟨rfl, trivial⟩
set_option maxRecDepth 100000 in
theorem ok_X12_isTrailer_17 {Q : hS → am_H → Prop} (hQ : l1_em km Q) (N : Nat) : ∀ n : Nat, ∀ (c : hS) (v1 : Int32) (v2 : Int32), l1_G (wN wI) Q am_i_X12_isTrailer 17 [some (.ref 201), some (.int v1), some (.int v2)] [] c (f_X12_isTrailer_17 N n c v1 v2) := by
  intro n
  induction n with
  | zero => intro c v1 v2; exact l1_none
  | succ n ih =>
    intro c v1 v2
    rw [f_X12_isTrailer_17]
    refine l1_many mt_X12_isTrailer (pc' := bif am_cc .ge v2 10 then 52 else 23) (L' := [some (.ref 201), some (.int v1), some (.int v2)]) (st' := []) 3 rfl ?_
    refine l1_bif rfl ?_ ?_
    · refine l1_many mt_X12_isTrailer (pc' := 53) (L' := [some (.ref 201), some (.int v1), some (.int v2)]) (st' := [.int v1]) 1 rfl ?_
      refine l1_ck (fun hz => ?_)
      exact l1_retZ mt_X12_isTrailer rfl rfl rfl hz
    · refine l1_many mt_X12_isTrailer (pc' := bif am_cc .eq v1 0 then 52 else 27) (L' := [some (.ref 201), some (.int v1), some (.int v2)]) (st' := []) 2 rfl ?_
      refine l1_bif rfl ?_ ?_
      · refine l1_many mt_X12_isTrailer (pc' := 53) (L' := [some (.ref 201), some (.int v1), some (.int v2)]) (st' := [.int v1]) 1 rfl ?_
        refine l1_ck (fun hz => ?_)
        exact l1_retZ mt_X12_isTrailer rfl rfl rfl hz
      · refine l1_many mt_X12_isTrailer (pc' := 28) (L' := [some (.ref 201), some (.int v1), some (.int v2)]) (st' := [.ref 201]) 1 rfl ?_
        refine l1_getR hQ mt_X12_isTrailer rfl (o := 201) (ci := 11) (k := 15) (a := 0) (b := 0) rfl rfl rfl rfl rfl (q := 209) rfl ?_
        refine l1_many mt_X12_isTrailer (pc' := 32) (L' := [some (.ref 201), some (.int v1), some (.int v2)]) (st' := [.int v2, .ref 209]) 1 rfl ?_
        refine l1_ck (fun hx => ?_)
        refine l1_ald hQ mt_X12_isTrailer rfl (o := 209) rfl hx ?_
        refine l1_many mt_X12_isTrailer (pc' := 34) (L' := [some (.ref 201), some (.int v1), some (.int v2)]) (st' := [.int v2, .int (c.1 209 v2.toNatClampNeg)]) 1 rfl ?_
        refine l1_callS mt_X12_isTrailer mt_X12_trailerAt rfl rfl (As := [.int v2]) (rest := [.int (c.1 209 v2.toNatClampNeg)]) rfl rfl rfl (st1 := fun x1 => [.int x1, .int (c.1 209 v2.toNatClampNeg)]) (fun _ => rfl) (ok_X12_trailerAt hQ c v2) (fun x1 c2 => ?_)
        refine l1_many mt_X12_isTrailer (pc' := bif am_cc .ne (c.1 209 v2.toNatClampNeg) x1 then 44 else 40) (L' := [some (.ref 201), some (.int v1), some (.int v2)]) (st' := []) 1 rfl ?_
        refine l1_bin rfl ?_ ?_
        · refine l1_many mt_X12_isTrailer (pc' := 17) (L' := [some (.ref 201), some (.int 1), some (.int (v2 + 1))]) (st' := []) 5 rfl ?_
          exact ih c2 1 (v2 + 1)
        · refine l1_many mt_X12_isTrailer (pc' := 17) (L' := [some (.ref 201), some (.int 0), some (.int (v2 + 1))]) (st' := []) 4 rfl ?_
          exact ih c2 0 (v2 + 1)
set_option maxRecDepth 100000 in
theorem en_X12_isTrailer {Q : hS → am_H → Prop} (hQ : l1_em km Q) (N : Nat) (c : hS) : l1_G (wN wI) Q am_i_X12_isTrailer 0 [some (.ref 201)] [] c (f_X12_isTrailer N c) := by
  rw [f_X12_isTrailer]
  refine l1_many mt_X12_isTrailer (pc' := 1) (L' := [some (.ref 201)]) (st' := [.ref 201]) 1 rfl ?_
  refine l1_getI hQ mt_X12_isTrailer rfl (o := 201) (ci := 11) (k := 14) (a := 0) (b := 0) rfl rfl rfl rfl rfl ?_
  refine l1_many mt_X12_isTrailer (pc' := bif am_cc .ne (c.1 201 14) 10 then 13 else 9) (L' := [some (.ref 201)]) (st' := []) 2 rfl ?_
  refine l1_bin rfl ?_ ?_
  · refine l1_many mt_X12_isTrailer (pc' := 17) (L' := [some (.ref 201), some (.int 1), some (.int 0)]) (st' := []) 5 rfl ?_
    exact ok_X12_isTrailer_17 hQ N N c 1 0
  · refine l1_many mt_X12_isTrailer (pc' := 17) (L' := [some (.ref 201), some (.int 0), some (.int 0)]) (st' := []) 4 rfl ?_
    exact ok_X12_isTrailer_17 hQ N N c 0 0
theorem ok_X12_isTrailer {Q : hS → am_H → Prop} (hQ : l1_em km Q) (N : Nat) (c : hS) : l1_T wI Q am_i_X12_isTrailer [.ref 201] c (f_X12_isTrailer N c) := l1_of (en_X12_isTrailer hQ N c) ⟨rfl, trivial⟩
set_option maxRecDepth 100000 in
theorem en_X12_upToFour {Q : hS → am_H → Prop} (hQ : l1_em km Q) (c : hS) (p0 : Int32) : l1_G (wN wI) Q am_i_X12_upToFour 0 [some (.int p0)] [] c (f_X12_upToFour c p0) := by
  rw [f_X12_upToFour]
  refine l1_many mt_X12_upToFour (pc' := 7) (L' := [some (.int p0)]) (st' := [.int (((p0 + 3) / 4) * 4)]) 7 rfl ?_
  exact l1_ret mt_X12_upToFour rfl rfl rfl
theorem ok_X12_upToFour {Q : hS → am_H → Prop} (hQ : l1_em km Q) (c : hS) (p0 : Int32) : l1_T wI Q am_i_X12_upToFour [.int p0] c (f_X12_upToFour c p0) := l1_of (en_X12_upToFour hQ c p0) ⟨rfl, trivial⟩
set_option maxRecDepth 100000 in
theorem ok_X12_readDigits_160 {Q : hS → am_H → Prop} (hQ : l1_em km Q) (N : Nat) {k2 : hS → Int32 → Option (Int32 × hS)} (hk2 : ∀ c v1, l1_G (wN wI) Q am_i_X12_readDigits 2 [some (.ref 201), some (.int v1)] [] c (k2 c v1)) : ∀ (c : hS) (v1 : Int32) (v2 : Int64) (v4 : Int32) (w0 : Int64) (w1 : Int64), l1_G (wN wI) Q am_i_X12_readDigits 160 [some (.ref 201), some (.int v1), some (.long v2), none, some (.int v4)] [.long w0, .long w1] c (f_X12_readDigits_160 N k2 c v1 v2 v4 w0 w1) := by
  intro c v1 v2 v4 w0 w1
  rw [f_X12_readDigits_160]
  refine l1_many mt_X12_readDigits (pc' := bif am_cc .le (j_cmp w1 w0) 0 then 175 else 164) (L' := [some (.ref 201), some (.int v1), some (.long v2), none, some (.int v4)]) (st' := []) 2 rfl ?_
  refine l1_bif rfl ?_ ?_
  · refine l1_many mt_X12_readDigits (pc' := 176) (L' := [some (.ref 201), some (.int v1), some (.long v2), none, some (.int v4)]) (st' := [.ref 201]) 1 rfl ?_
    refine l1_callV hQ mt_X12_readDigits mt_X12_isName rfl rfl (o := 201) (ci := 11) (As := []) (rest := []) rfl rfl rfl rfl rfl rfl (st1 := fun x1 => [.int x1]) (fun _ => rfl) (ok_X12_isName hQ N c) (fun x1 c2 => ?_)
    refine l1_many mt_X12_readDigits (pc' := bif am_cc .ne x1 0 then 193 else 182) (L' := [some (.ref 201), some (.int v1), some (.long v2), none, some (.int v4)]) (st' := []) 1 rfl ?_
    refine l1_bin rfl ?_ ?_
    · refine l1_many mt_X12_readDigits (pc' := 189) (L' := [some (.ref 201), some (.int v1), some (.long v2), none, some (.int v4)]) (st' := [.int (v1 + 110), .int 10, .ref 201]) 5 rfl ?_
      refine l1_callV hQ mt_X12_readDigits mt_X12_fails rfl rfl (o := 201) (ci := 11) (As := [.int 10, .int (v1 + 110)]) (rest := []) rfl rfl rfl rfl rfl rfl (st1 := fun x12 => [.int x12]) (fun _ => rfl) (ok_X12_fails hQ c2 10 (v1 + 110)) (fun x12 c13 => ?_)
      refine l1_ck (fun hz => ?_)
      exact l1_retZ mt_X12_readDigits rfl rfl rfl hz
    · refine l1_many mt_X12_readDigits (pc' := 195) (L' := [some (.ref 201), some (.int v1), some (.long v2), none, some (.int v4)]) (st' := [.int v4]) 1 rfl ?_
      refine l1_callS mt_X12_readDigits mt_X12_upToFour rfl rfl (As := [.int v4]) (rest := []) rfl rfl rfl (st1 := fun x3 => [.int x3]) (fun _ => rfl) (ok_X12_upToFour hQ c2 v4) (fun x3 c4 => ?_)
      refine l1_many mt_X12_readDigits (pc' := 205) (L' := [some (.ref 201), some (.int v1), some (.long v2), none, some (.int v4), none, some (.int x3)]) (st' := [.int (x3 + v2.toInt32)]) 5 rfl ?_
      refine l1_callS mt_X12_readDigits mt_X12_upToFour rfl rfl (As := [.int (x3 + v2.toInt32)]) (rest := []) rfl rfl rfl (st1 := fun x5 => [.int x5]) (fun _ => rfl) (ok_X12_upToFour hQ c4 (x3 + v2.toInt32)) (fun x5 c6 => ?_)
      refine l1_many mt_X12_readDigits (pc' := 214) (L' := [some (.ref 201), some (.int v1), some (.long v2), none, some (.int v4), none, some (.int x3), some (.int x5)]) (st' := [.long x5.toInt64, .ref 201]) 4 rfl ?_
      refine l1_callV hQ mt_X12_readDigits mt_X12_reaches rfl rfl (o := 201) (ci := 11) (As := [.long x5.toInt64]) (rest := []) rfl rfl rfl rfl rfl rfl (st1 := fun x7 => [.int x7]) (fun _ => rfl) (ok_X12_reaches hQ c6 x5.toInt64) (fun x7 c8 => ?_)
      refine l1_many mt_X12_readDigits (pc' := bif am_cc .ne x7 0 then 222 else 220) (L' := [some (.ref 201), some (.int v1), some (.long v2), none, some (.int v4), none, some (.int x3), some (.int x5)]) (st' := []) 1 rfl ?_
      refine l1_bin rfl ?_ ?_
      · refine l1_many mt_X12_readDigits (pc' := 221) (L' := [some (.ref 201), some (.int v1), some (.long v2), none, some (.int v4), none, some (.int x3), some (.int x5)]) (st' := [.int 0]) 1 rfl ?_
        exact l1_ret mt_X12_readDigits rfl rfl rfl
      · refine l1_many mt_X12_readDigits (pc' := 227) (L' := [some (.ref 201), some (.int v1), some (.long v2), none, some (.int v4), none, some (.int x3), some (.int x5)]) (st' := [.int v2.toInt32, .int x3, .ref 201]) 4 rfl ?_
        refine l1_callV hQ mt_X12_readDigits mt_X12_takeBytes rfl rfl (o := 201) (ci := 11) (As := [.int x3, .int v2.toInt32]) (rest := []) rfl rfl rfl rfl rfl rfl (st1 := fun _ => []) (fun _ => rfl) (ok_X12_takeBytes hQ N c8 x3 v2.toInt32) (fun _ c9 => ?_)
        refine l1_many mt_X12_readDigits (pc' := 232) (L' := [some (.ref 201), some (.int v1), some (.long v2), none, some (.int v4), none, some (.int x3), some (.int x5)]) (st' := [.int v1, .ref 201]) 2 rfl ?_
        refine l1_callV hQ mt_X12_readDigits mt_X12_comes rfl rfl (o := 201) (ci := 11) (As := [.int v1]) (rest := []) rfl rfl rfl rfl rfl rfl (st1 := fun x10 => [.int x10]) (fun _ => rfl) (ok_X12_comes hQ N c9 v1) (fun x10 c11 => ?_)
        refine l1_many mt_X12_readDigits (pc' := bif am_cc .ne x10 0 then 240 else 238) (L' := [some (.ref 201), some (.int v1), some (.long v2), none, some (.int v4), none, some (.int x3), some (.int x5)]) (st' := []) 1 rfl ?_
        refine l1_bin rfl ?_ ?_
        · refine l1_many mt_X12_readDigits (pc' := 239) (L' := [some (.ref 201), some (.int v1), some (.long v2), none, some (.int v4), none, some (.int x3), some (.int x5)]) (st' := [.int 0]) 1 rfl ?_
          exact l1_ret mt_X12_readDigits rfl rfl rfl
        · refine l1_many mt_X12_readDigits (pc' := 2) (L' := [some (.ref 201), some (.int x5), some (.long v2), none, some (.int v4), none, some (.int x3), some (.int x5)]) (st' := []) 3 rfl ?_
          refine l1_weak (m := [true, true, false, false, false, false, false, false]) (L' := [some (.ref 201), some (.int x5)]) rfl ?_
          exact hk2 c11 x5
  · refine l1_many mt_X12_readDigits (pc' := 171) (L' := [some (.ref 201), some (.int v1), some (.long v2), none, some (.int v4)]) (st' := [.int (v1 + 54), .int 7, .ref 201]) 5 rfl ?_
    refine l1_callV hQ mt_X12_readDigits mt_X12_fails rfl rfl (o := 201) (ci := 11) (As := [.int 7, .int (v1 + 54)]) (rest := []) rfl rfl rfl rfl rfl rfl (st1 := fun x14 => [.int x14]) (fun _ => rfl) (ok_X12_fails hQ c 7 (v1 + 54)) (fun x14 c15 => ?_)
    refine l1_ck (fun hz => ?_)
    exact l1_retZ mt_X12_readDigits rfl rfl rfl hz
set_option maxRecDepth 100000 in
theorem ok_X12_readDigits_142 {Q : hS → am_H → Prop} (hQ : l1_em km Q) (N : Nat) {k2 : hS → Int32 → Option (Int32 × hS)} (hk2 : ∀ c v1, l1_G (wN wI) Q am_i_X12_readDigits 2 [some (.ref 201), some (.int v1)] [] c (k2 c v1)) : ∀ (c : hS) (v1 : Int32) (v2 : Int64) (v4 : Int32) (w0 : Int32), l1_G (wN wI) Q am_i_X12_readDigits 142 [some (.ref 201), some (.int v1), some (.long v2), none, some (.int v4)] [.int w0, .ref 201] c (f_X12_readDigits_142 N k2 c v1 v2 v4 w0) := by
  intro c v1 v2 v4 w0
  rw [f_X12_readDigits_142]
  refine l1_ck (fun hz => ?_)
  refine l1_putI hQ mt_X12_readDigits rfl (o := 201) (ci := 11) (k := 18) (a := 0) rfl rfl rfl rfl rfl (l1_fz (ci := 11) (j := 18) rfl hz) (fun c1 => ?_)
  refine l1_many mt_X12_readDigits (pc' := 147) (L' := [some (.ref 201), some (.int v1), some (.long v2), none, some (.int v4)]) (st' := [.ref 201, .long v2]) 2 rfl ?_
  refine l1_getI hQ mt_X12_readDigits rfl (o := 201) (ci := 11) (k := 18) (a := 0) (b := 0) rfl rfl rfl rfl rfl ?_
  refine l1_many mt_X12_readDigits (pc' := bif am_cc .eq (c1.1 201 18) 0 then 157 else 153) (L' := [some (.ref 201), some (.int v1), some (.long v2), none, some (.int v4)]) (st' := [.long v2]) 1 rfl ?_
  refine l1_bif rfl ?_ ?_
  · refine l1_many mt_X12_readDigits (pc' := 160) (L' := [some (.ref 201), some (.int v1), some (.long v2), none, some (.int v4)]) (st' := [.long 400, .long v2]) 1 rfl ?_
    exact ok_X12_readDigits_160 hQ N hk2 c1 v1 v2 v4 400 v2
  · refine l1_many mt_X12_readDigits (pc' := 160) (L' := [some (.ref 201), some (.int v1), some (.long v2), none, some (.int v4)]) (st' := [.long 0, .long v2]) 2 rfl ?_
    exact ok_X12_readDigits_160 hQ N hk2 c1 v1 v2 v4 0 v2
set_option maxRecDepth 100000 in
theorem ok_X12_readDigits_107 {Q : hS → am_H → Prop} (hQ : l1_em km Q) (N : Nat) {k2 : hS → Int32 → Option (Int32 × hS)} (hk2 : ∀ c v1, l1_G (wN wI) Q am_i_X12_readDigits 2 [some (.ref 201), some (.int v1)] [] c (k2 c v1)) : ∀ (c : hS) (v1 : Int32) (v2 : Int64) (v4 : Int32) (v5 : Int32), l1_G (wN wI) Q am_i_X12_readDigits 107 [some (.ref 201), some (.int v1), some (.long v2), none, some (.int v4), some (.int v5)] [] c (f_X12_readDigits_107 N k2 c v1 v2 v4 v5) := by
  intro c v1 v2 v4 v5
  rw [f_X12_readDigits_107]
  refine l1_many mt_X12_readDigits (pc' := 112) (L' := [some (.ref 201), some (.int v1), some (.long v2), none, some (.int v4), some (.int v5)]) (st' := [.int (v1 + 102), .ref 201]) 4 rfl ?_
  refine l1_callV hQ mt_X12_readDigits mt_X12_hexAt rfl rfl (o := 201) (ci := 11) (As := [.int (v1 + 102)]) (rest := []) rfl rfl rfl rfl rfl rfl (st1 := fun x1 => [.long x1]) (fun _ => rfl) (ok_X12_hexAt hQ N c (v1 + 102)) (fun x1 c2 => ?_)
  refine l1_many mt_X12_readDigits (pc' := bif am_cc .eq (j_cmp x1 0) 0 then 130 else 120) (L' := [some (.ref 201), some (.int v1), some (.long v2), none, some (.int v4), some (.int v5)]) (st' := []) 3 rfl ?_
  refine l1_bif rfl ?_ ?_
  · refine l1_many mt_X12_readDigits (pc' := bif am_cc .ne v5 4 then 141 else 137) (L' := [some (.ref 201), some (.int v1), some (.long v2), none, some (.int v4), some (.int v5)]) (st' := [.ref 201]) 4 rfl ?_
    refine l1_bin rfl ?_ ?_
    · refine l1_many mt_X12_readDigits (pc' := 142) (L' := [some (.ref 201), some (.int v1), some (.long v2), none, some (.int v4), some (.int v5)]) (st' := [.int 1, .ref 201]) 2 rfl ?_
      refine l1_weak (m := [true, true, true, false, true, false, false, false]) (L' := [some (.ref 201), some (.int v1), some (.long v2), none, some (.int v4)]) rfl ?_
      exact ok_X12_readDigits_142 hQ N hk2 c2 v1 v2 v4 1
    · refine l1_many mt_X12_readDigits (pc' := 142) (L' := [some (.ref 201), some (.int v1), some (.long v2), none, some (.int v4), some (.int v5)]) (st' := [.int 0, .ref 201]) 1 rfl ?_
      refine l1_weak (m := [true, true, true, false, true, false, false, false]) (L' := [some (.ref 201), some (.int v1), some (.long v2), none, some (.int v4)]) rfl ?_
      exact ok_X12_readDigits_142 hQ N hk2 c2 v1 v2 v4 0
  · refine l1_many mt_X12_readDigits (pc' := 126) (L' := [some (.ref 201), some (.int v1), some (.long v2), none, some (.int v4), some (.int v5)]) (st' := [.int (v1 + 102), .int 4, .ref 201]) 5 rfl ?_
    refine l1_callV hQ mt_X12_readDigits mt_X12_fails rfl rfl (o := 201) (ci := 11) (As := [.int 4, .int (v1 + 102)]) (rest := []) rfl rfl rfl rfl rfl rfl (st1 := fun x3 => [.int x3]) (fun _ => rfl) (ok_X12_fails hQ c2 4 (v1 + 102)) (fun x3 c4 => ?_)
    refine l1_ck (fun hz => ?_)
    exact l1_retZ mt_X12_readDigits rfl rfl rfl hz
set_option maxRecDepth 100000 in
theorem ok_X12_readDigits_2 {Q : hS → am_H → Prop} (hQ : l1_em km Q) (N : Nat) : ∀ n : Nat, ∀ (c : hS) (v1 : Int32), l1_G (wN wI) Q am_i_X12_readDigits 2 [some (.ref 201), some (.int v1)] [] c (f_X12_readDigits_2 N n c v1) := by
  intro n
  induction n with
  | zero => intro c v1; exact l1_none
  | succ n ih =>
    intro c v1
    rw [f_X12_readDigits_2]
    refine l1_many mt_X12_readDigits (pc' := 4) (L' := [some (.ref 201), some (.int v1)]) (st' := [.int v1, .ref 201]) 2 rfl ?_
    refine l1_callV hQ mt_X12_readDigits mt_X12_readDigitsHead rfl rfl (o := 201) (ci := 11) (As := [.int v1]) (rest := []) rfl rfl rfl rfl rfl rfl (st1 := fun x1 => [.int x1]) (fun _ => rfl) (ok_X12_readDigitsHead hQ N c v1) (fun x1 c2 => ?_)
    refine l1_many mt_X12_readDigits (pc' := bif am_cc .ne x1 0 then 12 else 10) (L' := [some (.ref 201), some (.int v1)]) (st' := []) 1 rfl ?_
    refine l1_bin rfl ?_ ?_
    · refine l1_many mt_X12_readDigits (pc' := 11) (L' := [some (.ref 201), some (.int v1)]) (st' := [.int 0]) 1 rfl ?_
      exact l1_ret mt_X12_readDigits rfl rfl rfl
    · refine l1_many mt_X12_readDigits (pc' := 17) (L' := [some (.ref 201), some (.int v1)]) (st' := [.int (v1 + 54), .ref 201]) 4 rfl ?_
      refine l1_callV hQ mt_X12_readDigits mt_X12_hexAt rfl rfl (o := 201) (ci := 11) (As := [.int (v1 + 54)]) (rest := []) rfl rfl rfl rfl rfl rfl (st1 := fun x3 => [.long x3]) (fun _ => rfl) (ok_X12_hexAt hQ N c2 (v1 + 54)) (fun x3 c4 => ?_)
      refine l1_many mt_X12_readDigits (pc' := 26) (L' := [some (.ref 201), some (.int v1), some (.long x3)]) (st' := [.ref 201, .int (v1 + 111)]) 5 rfl ?_
      refine l1_getI hQ mt_X12_readDigits rfl (o := 201) (ci := 11) (k := 14) (a := 0) (b := 0) rfl rfl rfl rfl rfl ?_
      refine l1_many mt_X12_readDigits (pc' := 33) (L' := [some (.ref 201), some (.int v1), some (.long x3), none, some (.int ((v1 + 111) + (c4.1 201 14)))]) (st' := [.ref 201]) 3 rfl ?_
      refine l1_callV hQ mt_X12_readDigits mt_X12_isTrailer rfl rfl (o := 201) (ci := 11) (As := []) (rest := []) rfl rfl rfl rfl rfl rfl (st1 := fun x5 => [.int x5]) (fun _ => rfl) (ok_X12_isTrailer hQ N c4) (fun x5 c6 => ?_)
      refine l1_many mt_X12_readDigits (pc' := bif am_cc .eq x5 0 then 65 else 39) (L' := [some (.ref 201), some (.int v1), some (.long x3), none, some (.int ((v1 + 111) + (c4.1 201 14)))]) (st' := []) 1 rfl ?_
      refine l1_bif rfl ?_ ?_
      · refine l1_many mt_X12_readDigits (pc' := 70) (L' := [some (.ref 201), some (.int v1), some (.long x3), none, some (.int ((v1 + 111) + (c4.1 201 14)))]) (st' := [.int (v1 + 14), .ref 201]) 4 rfl ?_
        refine l1_callV hQ mt_X12_readDigits mt_X12_hexAt rfl rfl (o := 201) (ci := 11) (As := [.int (v1 + 14)]) (rest := []) rfl rfl rfl rfl rfl rfl (st1 := fun x7 => [.long x7]) (fun _ => rfl) (ok_X12_hexAt hQ N c6 (v1 + 14)) (fun x7 c8 => ?_)
        refine l1_many mt_X12_readDigits (pc' := bif am_cc .eq (((j_lshr x7 12) &&& 15).toInt32) 8 then 107 else 90) (L' := [some (.ref 201), some (.int v1), some (.long x3), none, some (.int ((v1 + 111) + (c4.1 201 14))), some (.int (((j_lshr x7 12) &&& 15).toInt32))]) (st' := []) 9 rfl ?_
        refine l1_bif rfl ?_ ?_
        · exact ok_X12_readDigits_107 hQ N ih c8 v1 x3 ((v1 + 111) + (c4.1 201 14)) (((j_lshr x7 12) &&& 15).toInt32)
        · refine l1_many mt_X12_readDigits (pc' := bif am_cc .eq (((j_lshr x7 12) &&& 15).toInt32) 4 then 107 else 96) (L' := [some (.ref 201), some (.int v1), some (.long x3), none, some (.int ((v1 + 111) + (c4.1 201 14))), some (.int (((j_lshr x7 12) &&& 15).toInt32))]) (st' := []) 3 rfl ?_
          refine l1_bif rfl ?_ ?_
          · exact ok_X12_readDigits_107 hQ N ih c8 v1 x3 ((v1 + 111) + (c4.1 201 14)) (((j_lshr x7 12) &&& 15).toInt32)
          · refine l1_many mt_X12_readDigits (pc' := 103) (L' := [some (.ref 201), some (.int v1), some (.long x3), none, some (.int ((v1 + 111) + (c4.1 201 14))), some (.int (((j_lshr x7 12) &&& 15).toInt32))]) (st' := [.int (v1 + 14), .int 8, .ref 201]) 5 rfl ?_
            refine l1_callV hQ mt_X12_readDigits mt_X12_fails rfl rfl (o := 201) (ci := 11) (As := [.int 8, .int (v1 + 14)]) (rest := []) rfl rfl rfl rfl rfl rfl (st1 := fun x9 => [.int x9]) (fun _ => rfl) (ok_X12_fails hQ c8 8 (v1 + 14)) (fun x9 c10 => ?_)
            refine l1_ck (fun hz => ?_)
            exact l1_retZ mt_X12_readDigits rfl rfl rfl hz
      · refine l1_many mt_X12_readDigits (pc' := bif am_cc .ne (j_cmp x3 0) 0 then 54 else 45) (L' := [some (.ref 201), some (.int v1), some (.long x3), none, some (.int ((v1 + 111) + (c4.1 201 14)))]) (st' := []) 4 rfl ?_
        refine l1_bin rfl ?_ ?_
        · refine l1_many mt_X12_readDigits (pc' := 48) (L' := [some (.ref 201), some (.int v1), some (.long x3), none, some (.int ((v1 + 111) + (c4.1 201 14)))]) (st' := [.int ((v1 + 111) + (c4.1 201 14)), .ref 201]) 2 rfl ?_
          refine l1_callV hQ mt_X12_readDigits mt_X12_areZeros rfl rfl (o := 201) (ci := 11) (As := [.int ((v1 + 111) + (c4.1 201 14))]) (rest := []) rfl rfl rfl rfl rfl rfl (st1 := fun x13 => [.int x13]) (fun _ => rfl) (ok_X12_areZeros hQ N c6 ((v1 + 111) + (c4.1 201 14))) (fun x13 c14 => ?_)
          refine l1_many mt_X12_readDigits (pc' := 64) (L' := [some (.ref 201), some (.int v1), some (.long x3), none, some (.int ((v1 + 111) + (c4.1 201 14)))]) (st' := [.int x13]) 1 rfl ?_
          refine l1_ck (fun hz => ?_)
          exact l1_retZ mt_X12_readDigits rfl rfl rfl hz
        · refine l1_many mt_X12_readDigits (pc' := 61) (L' := [some (.ref 201), some (.int v1), some (.long x3), none, some (.int ((v1 + 111) + (c4.1 201 14)))]) (st' := [.int (v1 + 54), .int 7, .ref 201]) 5 rfl ?_
          refine l1_callV hQ mt_X12_readDigits mt_X12_fails rfl rfl (o := 201) (ci := 11) (As := [.int 7, .int (v1 + 54)]) (rest := []) rfl rfl rfl rfl rfl rfl (st1 := fun x11 => [.int x11]) (fun _ => rfl) (ok_X12_fails hQ c6 7 (v1 + 54)) (fun x11 c12 => ?_)
          refine l1_ck (fun hz => ?_)
          exact l1_retZ mt_X12_readDigits rfl rfl rfl hz
set_option maxRecDepth 100000 in
theorem en_X12_readDigits {Q : hS → am_H → Prop} (hQ : l1_em km Q) (N : Nat) (c : hS) : l1_G (wN wI) Q am_i_X12_readDigits 0 [some (.ref 201)] [] c (f_X12_readDigits N c) := by
  rw [f_X12_readDigits]
  refine l1_many mt_X12_readDigits (pc' := 2) (L' := [some (.ref 201), some (.int 0)]) (st' := []) 2 rfl ?_
  exact ok_X12_readDigits_2 hQ N N c 0
theorem ok_X12_readDigits {Q : hS → am_H → Prop} (hQ : l1_em km Q) (N : Nat) (c : hS) : l1_T wI Q am_i_X12_readDigits [.ref 201] c (f_X12_readDigits N c) := l1_of (en_X12_readDigits hQ N c) ⟨rfl, trivial⟩
set_option maxRecDepth 100000 in
theorem en_X12_twoAt {Q : hS → am_H → Prop} (hQ : l1_em km Q) (c : hS) (p1 : Int32) : l1_G (wN wI) Q am_i_X12_twoAt 0 [some (.ref 201), some (.int p1)] [] c (f_X12_twoAt c p1) := by
  rw [f_X12_twoAt]
  refine l1_many mt_X12_twoAt (pc' := 1) (L' := [some (.ref 201), some (.int p1)]) (st' := [.ref 201]) 1 rfl ?_
  refine l1_getR hQ mt_X12_twoAt rfl (o := 201) (ci := 11) (k := 3) (a := 0) (b := 0) rfl rfl rfl rfl rfl (q := 203) rfl ?_
  refine l1_many mt_X12_twoAt (pc' := 5) (L' := [some (.ref 201), some (.int p1)]) (st' := [.int p1, .ref 203]) 1 rfl ?_
  refine l1_ck (fun hx => ?_)
  refine l1_ald hQ mt_X12_twoAt rfl (o := 203) rfl hx ?_
  refine l1_many mt_X12_twoAt (pc' := 7) (L' := [some (.ref 201), some (.int p1)]) (st' := [.ref 201, .int (c.1 203 p1.toNatClampNeg)]) 1 rfl ?_
  refine l1_getR hQ mt_X12_twoAt rfl (o := 201) (ci := 11) (k := 3) (a := 0) (b := 0) rfl rfl rfl rfl rfl (q := 203) rfl ?_
  refine l1_many mt_X12_twoAt (pc' := 13) (L' := [some (.ref 201), some (.int p1)]) (st' := [.int (p1 + 1), .ref 203, .int (c.1 203 p1.toNatClampNeg)]) 3 rfl ?_
  refine l1_ck (fun hx => ?_)
  refine l1_ald hQ mt_X12_twoAt rfl (o := 203) rfl hx ?_
  refine l1_many mt_X12_twoAt (pc' := 18) (L' := [some (.ref 201), some (.int p1)]) (st' := [.int ((c.1 203 p1.toNatClampNeg) ||| (j_shl (c.1 203 (p1 + 1).toNatClampNeg) 8))]) 3 rfl ?_
  exact l1_ret mt_X12_twoAt rfl rfl rfl
theorem ok_X12_twoAt {Q : hS → am_H → Prop} (hQ : l1_em km Q) (c : hS) (p1 : Int32) : l1_T wI Q am_i_X12_twoAt [.ref 201, .int p1] c (f_X12_twoAt c p1) := l1_of (en_X12_twoAt hQ c p1) ⟨rfl, rfl, trivial⟩
set_option maxRecDepth 100000 in
theorem en_X12_fourAt {Q : hS → am_H → Prop} (hQ : l1_em km Q) (c : hS) (p1 : Int32) : l1_G (wN wL) Q am_i_X12_fourAt 0 [some (.ref 201), some (.int p1)] [] c (f_X12_fourAt c p1) := by
  rw [f_X12_fourAt]
  refine l1_many mt_X12_fourAt (pc' := 2) (L' := [some (.ref 201), some (.int p1)]) (st' := [.int p1, .ref 201]) 2 rfl ?_
  refine l1_callV hQ mt_X12_fourAt mt_X12_twoAt rfl rfl (o := 201) (ci := 11) (As := [.int p1]) (rest := []) rfl rfl rfl rfl rfl rfl (st1 := fun x1 => [.int x1]) (fun _ => rfl) (ok_X12_twoAt hQ c p1) (fun x1 c2 => ?_)
  refine l1_many mt_X12_fourAt (pc' := 10) (L' := [some (.ref 201), some (.int p1)]) (st' := [.int (p1 + 2), .ref 201, .long x1.toInt64]) 5 rfl ?_
  refine l1_callV hQ mt_X12_fourAt mt_X12_twoAt rfl rfl (o := 201) (ci := 11) (As := [.int (p1 + 2)]) (rest := [.long x1.toInt64]) rfl rfl rfl rfl rfl rfl (st1 := fun x3 => [.int x3, .long x1.toInt64]) (fun _ => rfl) (ok_X12_twoAt hQ c2 (p1 + 2)) (fun x3 c4 => ?_)
  refine l1_many mt_X12_fourAt (pc' := 18) (L' := [some (.ref 201), some (.int p1)]) (st' := [.long (x1.toInt64 ||| (j_lshl x3.toInt64 16))]) 4 rfl ?_
  exact l1_ret mt_X12_fourAt rfl rfl rfl
theorem ok_X12_fourAt {Q : hS → am_H → Prop} (hQ : l1_em km Q) (c : hS) (p1 : Int32) : l1_T wL Q am_i_X12_fourAt [.ref 201, .int p1] c (f_X12_fourAt c p1) := l1_of (en_X12_fourAt hQ c p1) ⟨rfl, rfl, trivial⟩
set_option maxRecDepth 100000 in
theorem ok_X12_isZeroAt_19 {Q : hS → am_H → Prop} (hQ : l1_em km Q) (p1 : Int32) (p2 : Int32) (p3 : Int32) : ∀ (c : hS) (w0 : Int64), l1_G (wN wI) Q am_i_X12_isZeroAt 19 [some (.ref 201), some (.int p1), none, some (.int p3)] [.long w0] c (f_X12_isZeroAt_19 p1 p2 p3 c w0) := by
  intro c w0
  rw [f_X12_isZeroAt_19]
  refine l1_many mt_X12_isZeroAt (pc' := bif am_cc .eq (j_cmp w0 0) 0 then 33 else 24) (L' := [some (.ref 201), some (.int p1), none, some (.int p3)]) (st' := []) 3 rfl ?_
  refine l1_bif rfl ?_ ?_
  · refine l1_many mt_X12_isZeroAt (pc' := 38) (L' := [some (.ref 201), some (.int p1), none, some (.int p3)]) (st' := [.int 1]) 2 rfl ?_
    exact l1_ret mt_X12_isZeroAt rfl rfl rfl
  · refine l1_many mt_X12_isZeroAt (pc' := 27) (L' := [some (.ref 201), some (.int p1), none, some (.int p3)]) (st' := [.int p1, .int p3, .ref 201]) 3 rfl ?_
    refine l1_callV hQ mt_X12_isZeroAt mt_X12_fails rfl rfl (o := 201) (ci := 11) (As := [.int p3, .int p1]) (rest := []) rfl rfl rfl rfl rfl rfl (st1 := fun x1 => [.int x1]) (fun _ => rfl) (ok_X12_fails hQ c p3 p1) (fun x1 c2 => ?_)
    refine l1_many mt_X12_isZeroAt (pc' := bif am_cc .eq x1 0 then 37 else 33) (L' := [some (.ref 201), some (.int p1), none, some (.int p3)]) (st' := []) 1 rfl ?_
    refine l1_bif rfl ?_ ?_
    · refine l1_many mt_X12_isZeroAt (pc' := 38) (L' := [some (.ref 201), some (.int p1), none, some (.int p3)]) (st' := [.int 0]) 1 rfl ?_
      exact l1_ret mt_X12_isZeroAt rfl rfl rfl
    · refine l1_many mt_X12_isZeroAt (pc' := 38) (L' := [some (.ref 201), some (.int p1), none, some (.int p3)]) (st' := [.int 1]) 2 rfl ?_
      exact l1_ret mt_X12_isZeroAt rfl rfl rfl
set_option maxRecDepth 100000 in
theorem en_X12_isZeroAt {Q : hS → am_H → Prop} (hQ : l1_em km Q) (c : hS) (p1 : Int32) (p2 : Int32) (p3 : Int32) : l1_G (wN wI) Q am_i_X12_isZeroAt 0 [some (.ref 201), some (.int p1), some (.int p2), some (.int p3)] [] c (f_X12_isZeroAt c p1 p2 p3) := by
  rw [f_X12_isZeroAt]
  refine l1_many mt_X12_isZeroAt (pc' := bif am_cc .ne p2 2 then 14 else 5) (L' := [some (.ref 201), some (.int p1), some (.int p2), some (.int p3)]) (st' := []) 3 rfl ?_
  refine l1_bin rfl ?_ ?_
  · refine l1_many mt_X12_isZeroAt (pc' := 7) (L' := [some (.ref 201), some (.int p1), some (.int p2), some (.int p3)]) (st' := [.int p1, .ref 201]) 2 rfl ?_
    refine l1_callV hQ mt_X12_isZeroAt mt_X12_twoAt rfl rfl (o := 201) (ci := 11) (As := [.int p1]) (rest := []) rfl rfl rfl rfl rfl rfl (st1 := fun x3 => [.int x3]) (fun _ => rfl) (ok_X12_twoAt hQ c p1) (fun x3 c4 => ?_)
    refine l1_many mt_X12_isZeroAt (pc' := 19) (L' := [some (.ref 201), some (.int p1), some (.int p2), some (.int p3)]) (st' := [.long x3.toInt64]) 2 rfl ?_
    refine l1_weak (m := [true, true, false, true]) (L' := [some (.ref 201), some (.int p1), none, some (.int p3)]) rfl ?_
    exact ok_X12_isZeroAt_19 hQ p1 p2 p3 c4 x3.toInt64
  · refine l1_many mt_X12_isZeroAt (pc' := 16) (L' := [some (.ref 201), some (.int p1), some (.int p2), some (.int p3)]) (st' := [.int p1, .ref 201]) 2 rfl ?_
    refine l1_callV hQ mt_X12_isZeroAt mt_X12_fourAt rfl rfl (o := 201) (ci := 11) (As := [.int p1]) (rest := []) rfl rfl rfl rfl rfl rfl (st1 := fun x1 => [.long x1]) (fun _ => rfl) (ok_X12_fourAt hQ c p1) (fun x1 c2 => ?_)
    refine l1_weak (m := [true, true, false, true]) (L' := [some (.ref 201), some (.int p1), none, some (.int p3)]) rfl ?_
    exact ok_X12_isZeroAt_19 hQ p1 p2 p3 c2 x1
theorem ok_X12_isZeroAt {Q : hS → am_H → Prop} (hQ : l1_em km Q) (c : hS) (p1 : Int32) (p2 : Int32) (p3 : Int32) : l1_T wI Q am_i_X12_isZeroAt [.ref 201, .int p1, .int p2, .int p3] c (f_X12_isZeroAt c p1 p2 p3) := l1_of (en_X12_isZeroAt hQ c p1 p2 p3) ⟨rfl, rfl, rfl, rfl, trivial⟩
set_option maxRecDepth 100000 in
theorem en_X12_readEnd {Q : hS → am_H → Prop} (hQ : l1_em km Q) (N : Nat) (c : hS) (p1 : Int32) : l1_G (wN wI) Q am_i_X12_readEnd 0 [some (.ref 201), some (.int p1)] [] c (f_X12_readEnd N c p1) := by
  rw [f_X12_readEnd]
  refine l1_many mt_X12_readEnd (pc' := 10) (L' := [some (.ref 201), some (.int p1)]) (st' := [.int 3, .int 6, .int 5, .int 75, .int 80, .int p1, .ref 201]) 7 rfl ?_
  refine l1_callV hQ mt_X12_readEnd mt_X12_isRow rfl rfl (o := 201) (ci := 11) (As := [.int p1, .int 80, .int 75, .int 5, .int 6, .int 3]) (rest := []) rfl rfl rfl rfl rfl rfl (st1 := fun x1 => [.int x1]) (fun _ => rfl) (ok_X12_isRow hQ N c p1 80 75 5 6 3) (fun x1 c2 => ?_)
  refine l1_many mt_X12_readEnd (pc' := bif am_cc .eq x1 0 then 43 else 16) (L' := [some (.ref 201), some (.int p1)]) (st' := []) 1 rfl ?_
  refine l1_bif rfl ?_ ?_
  · refine l1_many mt_X12_readEnd (pc' := 44) (L' := [some (.ref 201), some (.int p1)]) (st' := [.int 0]) 1 rfl ?_
    exact l1_ret mt_X12_readEnd rfl rfl rfl
  · refine l1_many mt_X12_readEnd (pc' := 23) (L' := [some (.ref 201), some (.int p1)]) (st' := [.int 6, .int 2, .int (p1 + 4), .ref 201]) 6 rfl ?_
    refine l1_callV hQ mt_X12_readEnd mt_X12_isZeroAt rfl rfl (o := 201) (ci := 11) (As := [.int (p1 + 4), .int 2, .int 6]) (rest := []) rfl rfl rfl rfl rfl rfl (st1 := fun x3 => [.int x3]) (fun _ => rfl) (ok_X12_isZeroAt hQ c2 (p1 + 4) 2 6) (fun x3 c4 => ?_)
    refine l1_many mt_X12_readEnd (pc' := bif am_cc .eq x3 0 then 43 else 29) (L' := [some (.ref 201), some (.int p1)]) (st' := []) 1 rfl ?_
    refine l1_bif rfl ?_ ?_
    · refine l1_many mt_X12_readEnd (pc' := 44) (L' := [some (.ref 201), some (.int p1)]) (st' := [.int 0]) 1 rfl ?_
      exact l1_ret mt_X12_readEnd rfl rfl rfl
    · refine l1_many mt_X12_readEnd (pc' := 37) (L' := [some (.ref 201), some (.int p1)]) (st' := [.int 6, .int 2, .int (p1 + 6), .ref 201]) 6 rfl ?_
      refine l1_callV hQ mt_X12_readEnd mt_X12_isZeroAt rfl rfl (o := 201) (ci := 11) (As := [.int (p1 + 6), .int 2, .int 6]) (rest := []) rfl rfl rfl rfl rfl rfl (st1 := fun x5 => [.int x5]) (fun _ => rfl) (ok_X12_isZeroAt hQ c4 (p1 + 6) 2 6) (fun x5 c6 => ?_)
      refine l1_many mt_X12_readEnd (pc' := bif am_cc .ne x5 0 then 45 else 43) (L' := [some (.ref 201), some (.int p1)]) (st' := []) 1 rfl ?_
      refine l1_bin rfl ?_ ?_
      · refine l1_many mt_X12_readEnd (pc' := 44) (L' := [some (.ref 201), some (.int p1)]) (st' := [.int 0]) 1 rfl ?_
        exact l1_ret mt_X12_readEnd rfl rfl rfl
      · refine l1_many mt_X12_readEnd (pc' := 50) (L' := [some (.ref 201), some (.int p1)]) (st' := [.int (p1 + 8), .ref 201]) 4 rfl ?_
        refine l1_callV hQ mt_X12_readEnd mt_X12_twoAt rfl rfl (o := 201) (ci := 11) (As := [.int (p1 + 8)]) (rest := []) rfl rfl rfl rfl rfl rfl (st1 := fun x7 => [.int x7]) (fun _ => rfl) (ok_X12_twoAt hQ c6 (p1 + 8)) (fun x7 c8 => ?_)
        refine l1_many mt_X12_readEnd (pc' := 58) (L' := [some (.ref 201), some (.int p1)]) (st' := [.int (p1 + 10), .ref 201, .int x7]) 4 rfl ?_
        refine l1_callV hQ mt_X12_readEnd mt_X12_twoAt rfl rfl (o := 201) (ci := 11) (As := [.int (p1 + 10)]) (rest := [.int x7]) rfl rfl rfl rfl rfl rfl (st1 := fun x9 => [.int x9, .int x7]) (fun _ => rfl) (ok_X12_twoAt hQ c8 (p1 + 10)) (fun x9 c10 => ?_)
        refine l1_many mt_X12_readEnd (pc' := bif am_cc .eq x7 x9 then 75 else 64) (L' := [some (.ref 201), some (.int p1)]) (st' := []) 1 rfl ?_
        refine l1_bif rfl ?_ ?_
        · refine l1_many mt_X12_readEnd (pc' := 80) (L' := [some (.ref 201), some (.int p1)]) (st' := [.int (p1 + 10), .ref 201]) 4 rfl ?_
          refine l1_callV hQ mt_X12_readEnd mt_X12_twoAt rfl rfl (o := 201) (ci := 11) (As := [.int (p1 + 10)]) (rest := []) rfl rfl rfl rfl rfl rfl (st1 := fun x11 => [.int x11]) (fun _ => rfl) (ok_X12_twoAt hQ c10 (p1 + 10)) (fun x11 c12 => ?_)
          refine l1_many mt_X12_readEnd (pc' := bif am_cc .le x11 16 then 99 else 88) (L' := [some (.ref 201), some (.int p1)]) (st' := []) 2 rfl ?_
          refine l1_bif rfl ?_ ?_
          · refine l1_many mt_X12_readEnd (pc' := 104) (L' := [some (.ref 201), some (.int p1)]) (st' := [.int (p1 + 12), .ref 201]) 4 rfl ?_
            refine l1_callV hQ mt_X12_readEnd mt_X12_fourAt rfl rfl (o := 201) (ci := 11) (As := [.int (p1 + 12)]) (rest := []) rfl rfl rfl rfl rfl rfl (st1 := fun x13 => [.long x13]) (fun _ => rfl) (ok_X12_fourAt hQ c12 (p1 + 12)) (fun x13 c14 => ?_)
            refine l1_many mt_X12_readEnd (pc' := 112) (L' := [some (.ref 201), some (.int p1)]) (st' := [.int (p1 + 16), .ref 201, .long x13]) 4 rfl ?_
            refine l1_callV hQ mt_X12_readEnd mt_X12_fourAt rfl rfl (o := 201) (ci := 11) (As := [.int (p1 + 16)]) (rest := [.long x13]) rfl rfl rfl rfl rfl rfl (st1 := fun x15 => [.long x15, .long x13]) (fun _ => rfl) (ok_X12_fourAt hQ c14 (p1 + 16)) (fun x15 c16 => ?_)
            refine l1_many mt_X12_readEnd (pc' := bif am_cc .eq (j_cmp (x13 + x15) p1.toInt64) 0 then 133 else 122) (L' := [some (.ref 201), some (.int p1)]) (st' := []) 5 rfl ?_
            refine l1_bif rfl ?_ ?_
            · refine l1_many mt_X12_readEnd (pc' := 141) (L' := [some (.ref 201), some (.int p1)]) (st' := [.int 6, .int 2, .int (p1 + 20), .ref 201]) 6 rfl ?_
              refine l1_callV hQ mt_X12_readEnd mt_X12_isZeroAt rfl rfl (o := 201) (ci := 11) (As := [.int (p1 + 20), .int 2, .int 6]) (rest := []) rfl rfl rfl rfl rfl rfl (st1 := fun x17 => [.int x17]) (fun _ => rfl) (ok_X12_isZeroAt hQ c16 (p1 + 20) 2 6) (fun x17 c18 => ?_)
              refine l1_ck (fun hz => ?_)
              exact l1_retZ mt_X12_readEnd rfl rfl rfl hz
            · refine l1_many mt_X12_readEnd (pc' := 129) (L' := [some (.ref 201), some (.int p1)]) (st' := [.int (p1 + 12), .int 12, .ref 201]) 5 rfl ?_
              refine l1_callV hQ mt_X12_readEnd mt_X12_fails rfl rfl (o := 201) (ci := 11) (As := [.int 12, .int (p1 + 12)]) (rest := []) rfl rfl rfl rfl rfl rfl (st1 := fun x19 => [.int x19]) (fun _ => rfl) (ok_X12_fails hQ c16 12 (p1 + 12)) (fun x19 c20 => ?_)
              refine l1_ck (fun hz => ?_)
              exact l1_retZ mt_X12_readEnd rfl rfl rfl hz
          · refine l1_many mt_X12_readEnd (pc' := 95) (L' := [some (.ref 201), some (.int p1)]) (st' := [.int (p1 + 10), .int 11, .ref 201]) 5 rfl ?_
            refine l1_callV hQ mt_X12_readEnd mt_X12_fails rfl rfl (o := 201) (ci := 11) (As := [.int 11, .int (p1 + 10)]) (rest := []) rfl rfl rfl rfl rfl rfl (st1 := fun x21 => [.int x21]) (fun _ => rfl) (ok_X12_fails hQ c12 11 (p1 + 10)) (fun x21 c22 => ?_)
            refine l1_ck (fun hz => ?_)
            exact l1_retZ mt_X12_readEnd rfl rfl rfl hz
        · refine l1_many mt_X12_readEnd (pc' := 71) (L' := [some (.ref 201), some (.int p1)]) (st' := [.int (p1 + 8), .int 6, .ref 201]) 5 rfl ?_
          refine l1_callV hQ mt_X12_readEnd mt_X12_fails rfl rfl (o := 201) (ci := 11) (As := [.int 6, .int (p1 + 8)]) (rest := []) rfl rfl rfl rfl rfl rfl (st1 := fun x23 => [.int x23]) (fun _ => rfl) (ok_X12_fails hQ c10 6 (p1 + 8)) (fun x23 c24 => ?_)
          refine l1_ck (fun hz => ?_)
          exact l1_retZ mt_X12_readEnd rfl rfl rfl hz
theorem ok_X12_readEnd {Q : hS → am_H → Prop} (hQ : l1_em km Q) (N : Nat) (c : hS) (p1 : Int32) : l1_T wI Q am_i_X12_readEnd [.ref 201, .int p1] c (f_X12_readEnd N c p1) := l1_of (en_X12_readEnd hQ N c p1) ⟨rfl, rfl, trivial⟩
end
section
/-! THAT THE MACHINE FOLLOWS THEM, printed by gen_l1.py -/
set_option maxRecDepth 100000 in
theorem ok_X12_readEntryHead_370 {Q : hS → am_H → Prop} (hQ : l1_em km Q) (N : Nat) (p1 : Int32) (p2 : Int32) : ∀ n : Nat, ∀ (c : hS) (v5 : Int32), l1_G (wN wI) Q am_i_X12_readEntryHead 370 [some (.ref 201), some (.int p1), none, none, none, some (.int v5)] [] c (f_X12_readEntryHead_370 N p1 p2 n c v5) := by
  intro n
  induction n with
  | zero => intro c v5; exact l1_none
  | succ n ih =>
    intro c v5
    rw [f_X12_readEntryHead_370]
    refine l1_many mt_X12_readEntryHead (pc' := 373) (L' := [some (.ref 201), some (.int p1), none, none, none, some (.int v5)]) (st' := [.ref 201, .int v5]) 2 rfl ?_
    refine l1_getI hQ mt_X12_readEntryHead rfl (o := 201) (ci := 11) (k := 14) (a := 0) (b := 0) rfl rfl rfl rfl rfl ?_
    refine l1_many mt_X12_readEntryHead (pc' := bif am_cc .ge v5 (c.1 201 14) then 404 else 379) (L' := [some (.ref 201), some (.int p1), none, none, none, some (.int v5)]) (st' := []) 1 rfl ?_
    refine l1_bif rfl ?_ ?_
    · refine l1_many mt_X12_readEntryHead (pc' := 405) (L' := [some (.ref 201), some (.int p1), none, none, none, some (.int v5)]) (st' := [.ref 201]) 1 rfl ?_
      refine l1_callV hQ mt_X12_readEntryHead mt_X12_isName rfl rfl (o := 201) (ci := 11) (As := []) (rest := []) rfl rfl rfl rfl rfl rfl (st1 := fun x1 => [.int x1]) (fun _ => rfl) (ok_X12_isName hQ N c) (fun x1 c2 => ?_)
      refine l1_many mt_X12_readEntryHead (pc' := bif am_cc .ne x1 0 then 424 else 411) (L' := [some (.ref 201), some (.int p1), none, none, none, some (.int v5)]) (st' := []) 1 rfl ?_
      refine l1_bin rfl ?_ ?_
      · refine l1_many mt_X12_readEntryHead (pc' := 418) (L' := [some (.ref 201), some (.int p1), none, none, none, some (.int v5)]) (st' := [.int (p1 + 46), .int 10, .ref 201]) 5 rfl ?_
        refine l1_callV hQ mt_X12_readEntryHead mt_X12_fails rfl rfl (o := 201) (ci := 11) (As := [.int 10, .int (p1 + 46)]) (rest := []) rfl rfl rfl rfl rfl rfl (st1 := fun x3 => [.int x3]) (fun _ => rfl) (ok_X12_fails hQ c2 10 (p1 + 46)) (fun x3 c4 => ?_)
        refine l1_many mt_X12_readEntryHead (pc' := bif am_cc .eq x3 0 then 428 else 424) (L' := [some (.ref 201), some (.int p1), none, none, none, some (.int v5)]) (st' := []) 1 rfl ?_
        refine l1_bif rfl ?_ ?_
        · refine l1_many mt_X12_readEntryHead (pc' := 429) (L' := [some (.ref 201), some (.int p1), none, none, none, some (.int v5)]) (st' := [.int 0]) 1 rfl ?_
          exact l1_ret mt_X12_readEntryHead rfl rfl rfl
        · refine l1_many mt_X12_readEntryHead (pc' := 429) (L' := [some (.ref 201), some (.int p1), none, none, none, some (.int v5)]) (st' := [.int 1]) 2 rfl ?_
          exact l1_ret mt_X12_readEntryHead rfl rfl rfl
      · refine l1_many mt_X12_readEntryHead (pc' := 429) (L' := [some (.ref 201), some (.int p1), none, none, none, some (.int v5)]) (st' := [.int 1]) 2 rfl ?_
        exact l1_ret mt_X12_readEntryHead rfl rfl rfl
    · refine l1_many mt_X12_readEntryHead (pc' := 380) (L' := [some (.ref 201), some (.int p1), none, none, none, some (.int v5)]) (st' := [.ref 201]) 1 rfl ?_
      refine l1_getR hQ mt_X12_readEntryHead rfl (o := 201) (ci := 11) (k := 15) (a := 0) (b := 0) rfl rfl rfl rfl rfl (q := 209) rfl ?_
      refine l1_many mt_X12_readEntryHead (pc' := 386) (L' := [some (.ref 201), some (.int p1), none, none, none, some (.int v5)]) (st' := [.ref 201, .int v5, .ref 209]) 2 rfl ?_
      refine l1_getR hQ mt_X12_readEntryHead rfl (o := 201) (ci := 11) (k := 3) (a := 0) (b := 0) rfl rfl rfl rfl rfl (q := 203) rfl ?_
      refine l1_many mt_X12_readEntryHead (pc' := 396) (L' := [some (.ref 201), some (.int p1), none, none, none, some (.int v5)]) (st' := [.int ((p1 + 46) + v5), .ref 203, .int v5, .ref 209]) 5 rfl ?_
      refine l1_ck (fun hx => ?_)
      refine l1_ald hQ mt_X12_readEntryHead rfl (o := 203) rfl hx ?_
      refine l1_ck (fun hx => ?_)
      refine l1_ast hQ mt_X12_readEntryHead rfl (o := 209) rfl hx (fun c5 => ?_)
      refine l1_many mt_X12_readEntryHead (pc' := 370) (L' := [some (.ref 201), some (.int p1), none, none, none, some (.int (v5 + 1))]) (st' := []) 2 rfl ?_
      exact ih c5 (v5 + 1)
set_option maxRecDepth 100000 in
theorem ok_X12_readEntryHead_340 {Q : hS → am_H → Prop} (hQ : l1_em km Q) (N : Nat) (p1 : Int32) (p2 : Int32) : ∀ (c : hS) (w0 : Int32), l1_G (wN wI) Q am_i_X12_readEntryHead 340 [some (.ref 201), some (.int p1)] [.int w0, .ref 201] c (f_X12_readEntryHead_340 N p1 p2 c w0) := by
  intro c w0
  rw [f_X12_readEntryHead_340]
  refine l1_putI hQ mt_X12_readEntryHead rfl (o := 201) (ci := 11) (k := 14) (a := 0) rfl rfl rfl rfl rfl rfl (fun c1 => ?_)
  refine l1_many mt_X12_readEntryHead (pc' := 345) (L' := [some (.ref 201), some (.int p1)]) (st' := [.ref 201, .ref 201]) 2 rfl ?_
  refine l1_getI hQ mt_X12_readEntryHead rfl (o := 201) (ci := 11) (k := 14) (a := 0) (b := 0) rfl rfl rfl rfl rfl ?_
  refine l1_many mt_X12_readEntryHead (pc' := bif am_cc .le (c1.1 201 14) 299 then 360 else 354) (L' := [some (.ref 201), some (.int p1)]) (st' := [.ref 201]) 2 rfl ?_
  refine l1_bif rfl ?_ ?_
  · refine l1_many mt_X12_readEntryHead (pc' := 361) (L' := [some (.ref 201), some (.int p1)]) (st' := [.ref 201, .ref 201]) 1 rfl ?_
    refine l1_getI hQ mt_X12_readEntryHead rfl (o := 201) (ci := 11) (k := 14) (a := 0) (b := 0) rfl rfl rfl rfl rfl ?_
    refine l1_putI hQ mt_X12_readEntryHead rfl (o := 201) (ci := 11) (k := 14) (a := 0) rfl rfl rfl rfl rfl rfl (fun c2 => ?_)
    refine l1_many mt_X12_readEntryHead (pc' := 370) (L' := [some (.ref 201), some (.int p1), none, none, none, some (.int 0)]) (st' := []) 2 rfl ?_
    exact ok_X12_readEntryHead_370 hQ N p1 p2 N c2 0
  · refine l1_many mt_X12_readEntryHead (pc' := 364) (L' := [some (.ref 201), some (.int p1)]) (st' := [.int 299, .ref 201]) 2 rfl ?_
    refine l1_putI hQ mt_X12_readEntryHead rfl (o := 201) (ci := 11) (k := 14) (a := 0) rfl rfl rfl rfl rfl rfl (fun c3 => ?_)
    refine l1_many mt_X12_readEntryHead (pc' := 370) (L' := [some (.ref 201), some (.int p1), none, none, none, some (.int 0)]) (st' := []) 2 rfl ?_
    exact ok_X12_readEntryHead_370 hQ N p1 p2 N c3 0
set_option maxRecDepth 100000 in
theorem ok_X12_readEntryHead_323 {Q : hS → am_H → Prop} (hQ : l1_em km Q) (N : Nat) (p1 : Int32) (p2 : Int32) : ∀ (c : hS) (v4 : Int32), l1_G (wN wI) Q am_i_X12_readEntryHead 323 [some (.ref 201), some (.int p1), none, none, some (.int v4)] [] c (f_X12_readEntryHead_323 N p1 p2 c v4) := by
  intro c v4
  rw [f_X12_readEntryHead_323]
  refine l1_many mt_X12_readEntryHead (pc' := 325) (L' := [some (.ref 201), some (.int p1), none, none, some (.int v4)]) (st' := [.ref 201, .ref 201]) 2 rfl ?_
  refine l1_getI hQ mt_X12_readEntryHead rfl (o := 201) (ci := 11) (k := 18) (a := 0) (b := 0) rfl rfl rfl rfl rfl ?_
  refine l1_many mt_X12_readEntryHead (pc' := bif am_cc .eq (c.1 201 18) 0 then 338 else 331) (L' := [some (.ref 201), some (.int p1), none, none, some (.int v4)]) (st' := [.ref 201]) 1 rfl ?_
  refine l1_bif rfl ?_ ?_
  · refine l1_many mt_X12_readEntryHead (pc' := 340) (L' := [some (.ref 201), some (.int p1), none, none, some (.int v4)]) (st' := [.int v4, .ref 201]) 1 rfl ?_
    refine l1_weak (m := [true, true, false, false, false, false]) (L' := [some (.ref 201), some (.int p1)]) rfl ?_
    exact ok_X12_readEntryHead_340 hQ N p1 p2 c v4
  · refine l1_many mt_X12_readEntryHead (pc' := 340) (L' := [some (.ref 201), some (.int p1), none, none, some (.int v4)]) (st' := [.int (v4 - 1), .ref 201]) 4 rfl ?_
    refine l1_weak (m := [true, true, false, false, false, false]) (L' := [some (.ref 201), some (.int p1)]) rfl ?_
    exact ok_X12_readEntryHead_340 hQ N p1 p2 c (v4 - 1)
set_option maxRecDepth 100000 in
theorem ok_X12_readEntryHead_262 {Q : hS → am_H → Prop} (hQ : l1_em km Q) (N : Nat) (p1 : Int32) (p2 : Int32) : ∀ (c : hS) (v3 : Int32) (v4 : Int32), l1_G (wN wI) Q am_i_X12_readEntryHead 262 [some (.ref 201), some (.int p1), none, some (.int v3), some (.int v4)] [] c (f_X12_readEntryHead_262 N p1 p2 c v3 v4) := by
  intro c v3 v4
  rw [f_X12_readEntryHead_262]
  refine l1_many mt_X12_readEntryHead (pc' := 267) (L' := [some (.ref 201), some (.int p1), none, some (.int v3), some (.int v4)]) (st' := [.int (p1 + 24), .ref 201]) 4 rfl ?_
  refine l1_callV hQ mt_X12_readEntryHead mt_X12_fourAt rfl rfl (o := 201) (ci := 11) (As := [.int (p1 + 24)]) (rest := []) rfl rfl rfl rfl rfl rfl (st1 := fun x1 => [.long x1]) (fun _ => rfl) (ok_X12_fourAt hQ c (p1 + 24)) (fun x1 c2 => ?_)
  refine l1_many mt_X12_readEntryHead (pc' := bif am_cc .le (j_cmp x1 400) 0 then 288 else 277) (L' := [some (.ref 201), some (.int p1), none, some (.int v3), some (.int v4)]) (st' := []) 3 rfl ?_
  refine l1_bif rfl ?_ ?_
  · refine l1_many mt_X12_readEntryHead (pc' := bif am_cc .ne v3 0 then 323 else 292) (L' := [some (.ref 201), some (.int p1), none, some (.int v3), some (.int v4)]) (st' := []) 2 rfl ?_
    refine l1_bin rfl ?_ ?_
    · refine l1_many mt_X12_readEntryHead (pc' := 297) (L' := [some (.ref 201), some (.int p1), none, some (.int v3), some (.int v4)]) (st' := [.int (p1 + 20), .ref 201]) 4 rfl ?_
      refine l1_callV hQ mt_X12_readEntryHead mt_X12_fourAt rfl rfl (o := 201) (ci := 11) (As := [.int (p1 + 20)]) (rest := []) rfl rfl rfl rfl rfl rfl (st1 := fun x3 => [.long x3]) (fun _ => rfl) (ok_X12_fourAt hQ c2 (p1 + 20)) (fun x3 c4 => ?_)
      refine l1_many mt_X12_readEntryHead (pc' := 305) (L' := [some (.ref 201), some (.int p1), none, some (.int v3), some (.int v4)]) (st' := [.int (p1 + 24), .ref 201, .long x3]) 4 rfl ?_
      refine l1_callV hQ mt_X12_readEntryHead mt_X12_fourAt rfl rfl (o := 201) (ci := 11) (As := [.int (p1 + 24)]) (rest := [.long x3]) rfl rfl rfl rfl rfl rfl (st1 := fun x5 => [.long x5, .long x3]) (fun _ => rfl) (ok_X12_fourAt hQ c4 (p1 + 24)) (fun x5 c6 => ?_)
      refine l1_many mt_X12_readEntryHead (pc' := bif am_cc .eq (j_cmp x3 x5) 0 then 323 else 312) (L' := [some (.ref 201), some (.int p1), none, some (.int v3), some (.int v4)]) (st' := []) 2 rfl ?_
      refine l1_bif rfl ?_ ?_
      · refine l1_weak (m := [true, true, false, false, true, false]) (L' := [some (.ref 201), some (.int p1), none, none, some (.int v4)]) rfl ?_
        exact ok_X12_readEntryHead_323 hQ N p1 p2 c6 v4
      · refine l1_many mt_X12_readEntryHead (pc' := 319) (L' := [some (.ref 201), some (.int p1), none, some (.int v3), some (.int v4)]) (st' := [.int (p1 + 20), .int 7, .ref 201]) 5 rfl ?_
        refine l1_callV hQ mt_X12_readEntryHead mt_X12_fails rfl rfl (o := 201) (ci := 11) (As := [.int 7, .int (p1 + 20)]) (rest := []) rfl rfl rfl rfl rfl rfl (st1 := fun x7 => [.int x7]) (fun _ => rfl) (ok_X12_fails hQ c6 7 (p1 + 20)) (fun x7 c8 => ?_)
        refine l1_ck (fun hz => ?_)
        exact l1_retZ mt_X12_readEntryHead rfl rfl rfl hz
    · refine l1_weak (m := [true, true, false, false, true, false]) (L' := [some (.ref 201), some (.int p1), none, none, some (.int v4)]) rfl ?_
      exact ok_X12_readEntryHead_323 hQ N p1 p2 c2 v4
  · refine l1_many mt_X12_readEntryHead (pc' := 284) (L' := [some (.ref 201), some (.int p1), none, some (.int v3), some (.int v4)]) (st' := [.int (p1 + 24), .int 7, .ref 201]) 5 rfl ?_
    refine l1_callV hQ mt_X12_readEntryHead mt_X12_fails rfl rfl (o := 201) (ci := 11) (As := [.int 7, .int (p1 + 24)]) (rest := []) rfl rfl rfl rfl rfl rfl (st1 := fun x9 => [.int x9]) (fun _ => rfl) (ok_X12_fails hQ c2 7 (p1 + 24)) (fun x9 c10 => ?_)
    refine l1_ck (fun hz => ?_)
    exact l1_retZ mt_X12_readEntryHead rfl rfl rfl hz
set_option maxRecDepth 100000 in
theorem ok_X12_readEntryHead_194 {Q : hS → am_H → Prop} (hQ : l1_em km Q) (N : Nat) (p1 : Int32) (p2 : Int32) : ∀ (c : hS) (v3 : Int32) (v4 : Int32) (w0 : Int32), l1_G (wN wI) Q am_i_X12_readEntryHead 194 [some (.ref 201), some (.int p1), none, some (.int v3), some (.int v4)] [.int w0, .ref 201] c (f_X12_readEntryHead_194 N p1 p2 c v3 v4 w0) := by
  intro c v3 v4 w0
  rw [f_X12_readEntryHead_194]
  refine l1_ck (fun hz => ?_)
  refine l1_putI hQ mt_X12_readEntryHead rfl (o := 201) (ci := 11) (k := 18) (a := 0) rfl rfl rfl rfl rfl (l1_fz (ci := 11) (j := 18) rfl hz) (fun c1 => ?_)
  refine l1_many mt_X12_readEntryHead (pc' := 198) (L' := [some (.ref 201), some (.int p1), none, some (.int v3), some (.int v4)]) (st' := [.ref 201]) 1 rfl ?_
  refine l1_getI hQ mt_X12_readEntryHead rfl (o := 201) (ci := 11) (k := 18) (a := 0) (b := 0) rfl rfl rfl rfl rfl ?_
  refine l1_many mt_X12_readEntryHead (pc' := bif am_cc .eq (c1.1 201 18) 0 then 262 else 204) (L' := [some (.ref 201), some (.int p1), none, some (.int v3), some (.int v4)]) (st' := []) 1 rfl ?_
  refine l1_bif rfl ?_ ?_
  · exact ok_X12_readEntryHead_262 hQ N p1 p2 c1 v3 v4
  · refine l1_many mt_X12_readEntryHead (pc' := 212) (L' := [some (.ref 201), some (.int p1), none, some (.int v3), some (.int v4)]) (st' := [.int 7, .int 2, .int (p1 + 10), .ref 201]) 6 rfl ?_
    refine l1_callV hQ mt_X12_readEntryHead mt_X12_isZeroAt rfl rfl (o := 201) (ci := 11) (As := [.int (p1 + 10), .int 2, .int 7]) (rest := []) rfl rfl rfl rfl rfl rfl (st1 := fun x2 => [.int x2]) (fun _ => rfl) (ok_X12_isZeroAt hQ c1 (p1 + 10) 2 7) (fun x2 c3 => ?_)
    refine l1_many mt_X12_readEntryHead (pc' := bif am_cc .eq x2 0 then 260 else 218) (L' := [some (.ref 201), some (.int p1), none, some (.int v3), some (.int v4)]) (st' := []) 1 rfl ?_
    refine l1_bif rfl ?_ ?_
    · refine l1_many mt_X12_readEntryHead (pc' := 261) (L' := [some (.ref 201), some (.int p1), none, some (.int v3), some (.int v4)]) (st' := [.int 0]) 1 rfl ?_
      exact l1_ret mt_X12_readEntryHead rfl rfl rfl
    · refine l1_many mt_X12_readEntryHead (pc' := 226) (L' := [some (.ref 201), some (.int p1), none, some (.int v3), some (.int v4)]) (st' := [.int 7, .int 4, .int (p1 + 16), .ref 201]) 6 rfl ?_
      refine l1_callV hQ mt_X12_readEntryHead mt_X12_isZeroAt rfl rfl (o := 201) (ci := 11) (As := [.int (p1 + 16), .int 4, .int 7]) (rest := []) rfl rfl rfl rfl rfl rfl (st1 := fun x4 => [.int x4]) (fun _ => rfl) (ok_X12_isZeroAt hQ c3 (p1 + 16) 4 7) (fun x4 c5 => ?_)
      refine l1_many mt_X12_readEntryHead (pc' := bif am_cc .eq x4 0 then 260 else 232) (L' := [some (.ref 201), some (.int p1), none, some (.int v3), some (.int v4)]) (st' := []) 1 rfl ?_
      refine l1_bif rfl ?_ ?_
      · refine l1_many mt_X12_readEntryHead (pc' := 261) (L' := [some (.ref 201), some (.int p1), none, some (.int v3), some (.int v4)]) (st' := [.int 0]) 1 rfl ?_
        exact l1_ret mt_X12_readEntryHead rfl rfl rfl
      · refine l1_many mt_X12_readEntryHead (pc' := 240) (L' := [some (.ref 201), some (.int p1), none, some (.int v3), some (.int v4)]) (st' := [.int 7, .int 4, .int (p1 + 20), .ref 201]) 6 rfl ?_
        refine l1_callV hQ mt_X12_readEntryHead mt_X12_isZeroAt rfl rfl (o := 201) (ci := 11) (As := [.int (p1 + 20), .int 4, .int 7]) (rest := []) rfl rfl rfl rfl rfl rfl (st1 := fun x6 => [.int x6]) (fun _ => rfl) (ok_X12_isZeroAt hQ c5 (p1 + 20) 4 7) (fun x6 c7 => ?_)
        refine l1_many mt_X12_readEntryHead (pc' := bif am_cc .eq x6 0 then 260 else 246) (L' := [some (.ref 201), some (.int p1), none, some (.int v3), some (.int v4)]) (st' := []) 1 rfl ?_
        refine l1_bif rfl ?_ ?_
        · refine l1_many mt_X12_readEntryHead (pc' := 261) (L' := [some (.ref 201), some (.int p1), none, some (.int v3), some (.int v4)]) (st' := [.int 0]) 1 rfl ?_
          exact l1_ret mt_X12_readEntryHead rfl rfl rfl
        · refine l1_many mt_X12_readEntryHead (pc' := 254) (L' := [some (.ref 201), some (.int p1), none, some (.int v3), some (.int v4)]) (st' := [.int 7, .int 4, .int (p1 + 24), .ref 201]) 6 rfl ?_
          refine l1_callV hQ mt_X12_readEntryHead mt_X12_isZeroAt rfl rfl (o := 201) (ci := 11) (As := [.int (p1 + 24), .int 4, .int 7]) (rest := []) rfl rfl rfl rfl rfl rfl (st1 := fun x8 => [.int x8]) (fun _ => rfl) (ok_X12_isZeroAt hQ c7 (p1 + 24) 4 7) (fun x8 c9 => ?_)
          refine l1_many mt_X12_readEntryHead (pc' := bif am_cc .ne x8 0 then 262 else 260) (L' := [some (.ref 201), some (.int p1), none, some (.int v3), some (.int v4)]) (st' := []) 1 rfl ?_
          refine l1_bin rfl ?_ ?_
          · refine l1_many mt_X12_readEntryHead (pc' := 261) (L' := [some (.ref 201), some (.int p1), none, some (.int v3), some (.int v4)]) (st' := [.int 0]) 1 rfl ?_
            exact l1_ret mt_X12_readEntryHead rfl rfl rfl
          · exact ok_X12_readEntryHead_262 hQ N p1 p2 c9 v3 v4
set_option maxRecDepth 100000 in
theorem ok_X12_readEntryHead_193 {Q : hS → am_H → Prop} (hQ : l1_em km Q) (N : Nat) (p1 : Int32) (p2 : Int32) : ∀ (c : hS) (v3 : Int32) (v4 : Int32), l1_G (wN wI) Q am_i_X12_readEntryHead 193 [some (.ref 201), some (.int p1), none, some (.int v3), some (.int v4)] [.ref 201] c (f_X12_readEntryHead_193 N p1 p2 c v3 v4) := by
  intro c v3 v4
  rw [f_X12_readEntryHead_193]
  refine l1_many mt_X12_readEntryHead (pc' := 194) (L' := [some (.ref 201), some (.int p1), none, some (.int v3), some (.int v4)]) (st' := [.int 0, .ref 201]) 1 rfl ?_
  exact ok_X12_readEntryHead_194 hQ N p1 p2 c v3 v4 0
set_option maxRecDepth 100000 in
theorem ok_X12_readEntryHead_103 {Q : hS → am_H → Prop} (hQ : l1_em km Q) (N : Nat) (p1 : Int32) (p2 : Int32) : ∀ (c : hS) (v3 : Int32), l1_G (wN wI) Q am_i_X12_readEntryHead 103 [some (.ref 201), some (.int p1), some (.int p2), some (.int v3)] [] c (f_X12_readEntryHead_103 N p1 p2 c v3) := by
  intro c v3
  rw [f_X12_readEntryHead_103]
  refine l1_many mt_X12_readEntryHead (pc' := 111) (L' := [some (.ref 201), some (.int p1), some (.int p2), some (.int v3)]) (st' := [.int 6, .int 2, .int (p1 + 34), .ref 201]) 6 rfl ?_
  refine l1_callV hQ mt_X12_readEntryHead mt_X12_isZeroAt rfl rfl (o := 201) (ci := 11) (As := [.int (p1 + 34), .int 2, .int 6]) (rest := []) rfl rfl rfl rfl rfl rfl (st1 := fun x1 => [.int x1]) (fun _ => rfl) (ok_X12_isZeroAt hQ c (p1 + 34) 2 6) (fun x1 c2 => ?_)
  refine l1_many mt_X12_readEntryHead (pc' := bif am_cc .ne x1 0 then 119 else 117) (L' := [some (.ref 201), some (.int p1), some (.int p2), some (.int v3)]) (st' := []) 1 rfl ?_
  refine l1_bin rfl ?_ ?_
  · refine l1_many mt_X12_readEntryHead (pc' := 118) (L' := [some (.ref 201), some (.int p1), some (.int p2), some (.int v3)]) (st' := [.int 0]) 1 rfl ?_
    exact l1_ret mt_X12_readEntryHead rfl rfl rfl
  · refine l1_many mt_X12_readEntryHead (pc' := 124) (L' := [some (.ref 201), some (.int p1), some (.int p2), some (.int v3)]) (st' := [.int (p1 + 28), .ref 201]) 4 rfl ?_
    refine l1_callV hQ mt_X12_readEntryHead mt_X12_twoAt rfl rfl (o := 201) (ci := 11) (As := [.int (p1 + 28)]) (rest := []) rfl rfl rfl rfl rfl rfl (st1 := fun x3 => [.int x3]) (fun _ => rfl) (ok_X12_twoAt hQ c2 (p1 + 28)) (fun x3 c4 => ?_)
    refine l1_many mt_X12_readEntryHead (pc' := 141) (L' := [some (.ref 201), some (.int p1), some (.int p2), some (.int v3), some (.int x3)]) (st' := [.int (p1 + 30), .ref 201, .int ((p1 + 46) + x3)]) 10 rfl ?_
    refine l1_callV hQ mt_X12_readEntryHead mt_X12_twoAt rfl rfl (o := 201) (ci := 11) (As := [.int (p1 + 30)]) (rest := [.int ((p1 + 46) + x3)]) rfl rfl rfl rfl rfl rfl (st1 := fun x5 => [.int x5, .int ((p1 + 46) + x3)]) (fun _ => rfl) (ok_X12_twoAt hQ c4 (p1 + 30)) (fun x5 c6 => ?_)
    refine l1_many mt_X12_readEntryHead (pc' := 150) (L' := [some (.ref 201), some (.int p1), some (.int p2), some (.int v3), some (.int x3)]) (st' := [.int (p1 + 32), .ref 201, .int (((p1 + 46) + x3) + x5)]) 5 rfl ?_
    refine l1_callV hQ mt_X12_readEntryHead mt_X12_twoAt rfl rfl (o := 201) (ci := 11) (As := [.int (p1 + 32)]) (rest := [.int (((p1 + 46) + x3) + x5)]) rfl rfl rfl rfl rfl rfl (st1 := fun x7 => [.int x7, .int (((p1 + 46) + x3) + x5)]) (fun _ => rfl) (ok_X12_twoAt hQ c6 (p1 + 32)) (fun x7 c8 => ?_)
    refine l1_many mt_X12_readEntryHead (pc' := bif am_cc .le ((((p1 + 46) + x3) + x5) + x7) p2 then 166 else 158) (L' := [some (.ref 201), some (.int p1), some (.int p2), some (.int v3), some (.int x3)]) (st' := []) 3 rfl ?_
    refine l1_bif rfl ?_ ?_
    · refine l1_many mt_X12_readEntryHead (pc' := bif am_cc .le x3 0 then 193 else 172) (L' := [some (.ref 201), some (.int p1), some (.int p2), some (.int v3), some (.int x3)]) (st' := [.ref 201]) 3 rfl ?_
      refine l1_bif rfl ?_ ?_
      · refine l1_weak (m := [true, true, false, true, true, false]) (L' := [some (.ref 201), some (.int p1), none, some (.int v3), some (.int x3)]) rfl ?_
        exact ok_X12_readEntryHead_193 hQ N p1 p2 c8 v3 x3
      · refine l1_many mt_X12_readEntryHead (pc' := 173) (L' := [some (.ref 201), some (.int p1), some (.int p2), some (.int v3), some (.int x3)]) (st' := [.ref 201, .ref 201]) 1 rfl ?_
        refine l1_getR hQ mt_X12_readEntryHead rfl (o := 201) (ci := 11) (k := 3) (a := 0) (b := 0) rfl rfl rfl rfl rfl (q := 203) rfl ?_
        refine l1_many mt_X12_readEntryHead (pc' := 183) (L' := [some (.ref 201), some (.int p1), some (.int p2), some (.int v3), some (.int x3)]) (st' := [.int ((p1 + 45) + x3), .ref 203, .ref 201]) 5 rfl ?_
        refine l1_ck (fun hx => ?_)
        refine l1_ald hQ mt_X12_readEntryHead rfl (o := 203) rfl hx ?_
        refine l1_many mt_X12_readEntryHead (pc' := bif am_cc .ne (c8.1 203 ((p1 + 45) + x3).toNatClampNeg) 47 then 193 else 189) (L' := [some (.ref 201), some (.int p1), some (.int p2), some (.int v3), some (.int x3)]) (st' := [.ref 201]) 2 rfl ?_
        refine l1_bin rfl ?_ ?_
        · refine l1_many mt_X12_readEntryHead (pc' := 194) (L' := [some (.ref 201), some (.int p1), some (.int p2), some (.int v3), some (.int x3)]) (st' := [.int 1, .ref 201]) 2 rfl ?_
          refine l1_weak (m := [true, true, false, true, true, false]) (L' := [some (.ref 201), some (.int p1), none, some (.int v3), some (.int x3)]) rfl ?_
          exact ok_X12_readEntryHead_194 hQ N p1 p2 c8 v3 x3 1
        · refine l1_weak (m := [true, true, false, true, true, false]) (L' := [some (.ref 201), some (.int p1), none, some (.int v3), some (.int x3)]) rfl ?_
          exact ok_X12_readEntryHead_193 hQ N p1 p2 c8 v3 x3
    · refine l1_many mt_X12_readEntryHead (pc' := 162) (L' := [some (.ref 201), some (.int p1), some (.int p2), some (.int v3), some (.int x3)]) (st' := [.int p1, .int 12, .ref 201]) 3 rfl ?_
      refine l1_callV hQ mt_X12_readEntryHead mt_X12_fails rfl rfl (o := 201) (ci := 11) (As := [.int 12, .int p1]) (rest := []) rfl rfl rfl rfl rfl rfl (st1 := fun x9 => [.int x9]) (fun _ => rfl) (ok_X12_fails hQ c8 12 p1) (fun x9 c10 => ?_)
      refine l1_ck (fun hz => ?_)
      exact l1_retZ mt_X12_readEntryHead rfl rfl rfl hz
set_option maxRecDepth 100000 in
theorem en_X12_readEntryHead {Q : hS → am_H → Prop} (hQ : l1_em km Q) (N : Nat) (c : hS) (p1 : Int32) (p2 : Int32) : l1_G (wN wI) Q am_i_X12_readEntryHead 0 [some (.ref 201), some (.int p1), some (.int p2)] [] c (f_X12_readEntryHead N c p1 p2) := by
  rw [f_X12_readEntryHead]
  refine l1_many mt_X12_readEntryHead (pc' := bif am_cc .le (p1 + 46) p2 then 16 else 8) (L' := [some (.ref 201), some (.int p1), some (.int p2)]) (st' := []) 5 rfl ?_
  refine l1_bif rfl ?_ ?_
  · refine l1_many mt_X12_readEntryHead (pc' := 25) (L' := [some (.ref 201), some (.int p1), some (.int p2)]) (st' := [.int 3, .int 2, .int 1, .int 75, .int 80, .int p1, .ref 201]) 7 rfl ?_
    refine l1_callV hQ mt_X12_readEntryHead mt_X12_isRow rfl rfl (o := 201) (ci := 11) (As := [.int p1, .int 80, .int 75, .int 1, .int 2, .int 3]) (rest := []) rfl rfl rfl rfl rfl rfl (st1 := fun x1 => [.int x1]) (fun _ => rfl) (ok_X12_isRow hQ N c p1 80 75 1 2 3) (fun x1 c2 => ?_)
    refine l1_many mt_X12_readEntryHead (pc' := bif am_cc .ne x1 0 then 33 else 31) (L' := [some (.ref 201), some (.int p1), some (.int p2)]) (st' := []) 1 rfl ?_
    refine l1_bin rfl ?_ ?_
    · refine l1_many mt_X12_readEntryHead (pc' := 32) (L' := [some (.ref 201), some (.int p1), some (.int p2)]) (st' := [.int 0]) 1 rfl ?_
      exact l1_ret mt_X12_readEntryHead rfl rfl rfl
    · refine l1_many mt_X12_readEntryHead (pc' := 38) (L' := [some (.ref 201), some (.int p1), some (.int p2)]) (st' := [.int (p1 + 6), .ref 201]) 4 rfl ?_
      refine l1_callV hQ mt_X12_readEntryHead mt_X12_twoAt rfl rfl (o := 201) (ci := 11) (As := [.int (p1 + 6)]) (rest := []) rfl rfl rfl rfl rfl rfl (st1 := fun x3 => [.int x3]) (fun _ => rfl) (ok_X12_twoAt hQ c2 (p1 + 6)) (fun x3 c4 => ?_)
      refine l1_many mt_X12_readEntryHead (pc' := bif am_cc .le x3 20 then 57 else 46) (L' := [some (.ref 201), some (.int p1), some (.int p2)]) (st' := []) 2 rfl ?_
      refine l1_bif rfl ?_ ?_
      · refine l1_many mt_X12_readEntryHead (pc' := 65) (L' := [some (.ref 201), some (.int p1), some (.int p2)]) (st' := [.int 6, .int 2, .int (p1 + 8), .ref 201]) 6 rfl ?_
        refine l1_callV hQ mt_X12_readEntryHead mt_X12_isZeroAt rfl rfl (o := 201) (ci := 11) (As := [.int (p1 + 8), .int 2, .int 6]) (rest := []) rfl rfl rfl rfl rfl rfl (st1 := fun x5 => [.int x5]) (fun _ => rfl) (ok_X12_isZeroAt hQ c4 (p1 + 8) 2 6) (fun x5 c6 => ?_)
        refine l1_many mt_X12_readEntryHead (pc' := bif am_cc .ne x5 0 then 73 else 71) (L' := [some (.ref 201), some (.int p1), some (.int p2)]) (st' := []) 1 rfl ?_
        refine l1_bin rfl ?_ ?_
        · refine l1_many mt_X12_readEntryHead (pc' := 72) (L' := [some (.ref 201), some (.int p1), some (.int p2)]) (st' := [.int 0]) 1 rfl ?_
          exact l1_ret mt_X12_readEntryHead rfl rfl rfl
        · refine l1_many mt_X12_readEntryHead (pc' := 78) (L' := [some (.ref 201), some (.int p1), some (.int p2)]) (st' := [.int (p1 + 10), .ref 201]) 4 rfl ?_
          refine l1_callV hQ mt_X12_readEntryHead mt_X12_twoAt rfl rfl (o := 201) (ci := 11) (As := [.int (p1 + 10)]) (rest := []) rfl rfl rfl rfl rfl rfl (st1 := fun x7 => [.int x7]) (fun _ => rfl) (ok_X12_twoAt hQ c6 (p1 + 10)) (fun x7 c8 => ?_)
          refine l1_many mt_X12_readEntryHead (pc' := bif am_cc .eq x7 0 then 103 else 86) (L' := [some (.ref 201), some (.int p1), some (.int p2), some (.int x7)]) (st' := []) 3 rfl ?_
          refine l1_bif rfl ?_ ?_
          · exact ok_X12_readEntryHead_103 hQ N p1 p2 c8 x7
          · refine l1_many mt_X12_readEntryHead (pc' := bif am_cc .eq x7 8 then 103 else 92) (L' := [some (.ref 201), some (.int p1), some (.int p2), some (.int x7)]) (st' := []) 3 rfl ?_
            refine l1_bif rfl ?_ ?_
            · exact ok_X12_readEntryHead_103 hQ N p1 p2 c8 x7
            · refine l1_many mt_X12_readEntryHead (pc' := 99) (L' := [some (.ref 201), some (.int p1), some (.int p2), some (.int x7)]) (st' := [.int (p1 + 10), .int 8, .ref 201]) 5 rfl ?_
              refine l1_callV hQ mt_X12_readEntryHead mt_X12_fails rfl rfl (o := 201) (ci := 11) (As := [.int 8, .int (p1 + 10)]) (rest := []) rfl rfl rfl rfl rfl rfl (st1 := fun x9 => [.int x9]) (fun _ => rfl) (ok_X12_fails hQ c8 8 (p1 + 10)) (fun x9 c10 => ?_)
              refine l1_ck (fun hz => ?_)
              exact l1_retZ mt_X12_readEntryHead rfl rfl rfl hz
      · refine l1_many mt_X12_readEntryHead (pc' := 53) (L' := [some (.ref 201), some (.int p1), some (.int p2)]) (st' := [.int (p1 + 6), .int 6, .ref 201]) 5 rfl ?_
        refine l1_callV hQ mt_X12_readEntryHead mt_X12_fails rfl rfl (o := 201) (ci := 11) (As := [.int 6, .int (p1 + 6)]) (rest := []) rfl rfl rfl rfl rfl rfl (st1 := fun x11 => [.int x11]) (fun _ => rfl) (ok_X12_fails hQ c4 6 (p1 + 6)) (fun x11 c12 => ?_)
        refine l1_ck (fun hz => ?_)
        exact l1_retZ mt_X12_readEntryHead rfl rfl rfl hz
  · refine l1_many mt_X12_readEntryHead (pc' := 12) (L' := [some (.ref 201), some (.int p1), some (.int p2)]) (st' := [.int p1, .int 12, .ref 201]) 3 rfl ?_
    refine l1_callV hQ mt_X12_readEntryHead mt_X12_fails rfl rfl (o := 201) (ci := 11) (As := [.int 12, .int p1]) (rest := []) rfl rfl rfl rfl rfl rfl (st1 := fun x13 => [.int x13]) (fun _ => rfl) (ok_X12_fails hQ c 12 p1) (fun x13 c14 => ?_)
    refine l1_ck (fun hz => ?_)
    exact l1_retZ mt_X12_readEntryHead rfl rfl rfl hz
theorem ok_X12_readEntryHead {Q : hS → am_H → Prop} (hQ : l1_em km Q) (N : Nat) (c : hS) (p1 : Int32) (p2 : Int32) : l1_T wI Q am_i_X12_readEntryHead [.ref 201, .int p1, .int p2] c (f_X12_readEntryHead N c p1 p2) := l1_of (en_X12_readEntryHead hQ N c p1 p2) ⟨rfl, rfl, rfl, trivial⟩
set_option maxRecDepth 100000 in
theorem ok_X12_isAsThere_35 {Q : hS → am_H → Prop} (hQ : l1_em km Q) (p1 : Int32) (p2 : Int32) (p3 : Int32) : ∀ (c : hS), l1_G (wN wI) Q am_i_X12_isAsThere 35 [some (.ref 201), some (.int p1)] [] c (f_X12_isAsThere_35 p1 p2 p3 c) := by
  intro c
  rw [f_X12_isAsThere_35]
  refine l1_many mt_X12_isAsThere (pc' := 39) (L' := [some (.ref 201), some (.int p1)]) (st' := [.int p1, .int 13, .ref 201]) 3 rfl ?_
  refine l1_callV hQ mt_X12_isAsThere mt_X12_fails rfl rfl (o := 201) (ci := 11) (As := [.int 13, .int p1]) (rest := []) rfl rfl rfl rfl rfl rfl (st1 := fun x1 => [.int x1]) (fun _ => rfl) (ok_X12_fails hQ c 13 p1) (fun x1 c2 => ?_)
  refine l1_many mt_X12_isAsThere (pc' := bif am_cc .eq x1 0 then 49 else 45) (L' := [some (.ref 201), some (.int p1)]) (st' := []) 1 rfl ?_
  refine l1_bif rfl ?_ ?_
  · refine l1_many mt_X12_isAsThere (pc' := 50) (L' := [some (.ref 201), some (.int p1)]) (st' := [.int 0]) 1 rfl ?_
    exact l1_ret mt_X12_isAsThere rfl rfl rfl
  · refine l1_many mt_X12_isAsThere (pc' := 50) (L' := [some (.ref 201), some (.int p1)]) (st' := [.int 1]) 2 rfl ?_
    exact l1_ret mt_X12_isAsThere rfl rfl rfl
set_option maxRecDepth 100000 in
theorem en_X12_isAsThere {Q : hS → am_H → Prop} (hQ : l1_em km Q) (c : hS) (p1 : Int32) (p2 : Int32) (p3 : Int32) : l1_G (wN wI) Q am_i_X12_isAsThere 0 [some (.ref 201), some (.int p1), some (.int p2), some (.int p3)] [] c (f_X12_isAsThere c p1 p2 p3) := by
  rw [f_X12_isAsThere]
  refine l1_many mt_X12_isAsThere (pc' := bif am_cc .ne p3 2 then 21 else 5) (L' := [some (.ref 201), some (.int p1), some (.int p2), some (.int p3)]) (st' := []) 3 rfl ?_
  refine l1_bin rfl ?_ ?_
  · refine l1_many mt_X12_isAsThere (pc' := 7) (L' := [some (.ref 201), some (.int p1), some (.int p2), some (.int p3)]) (st' := [.int p1, .ref 201]) 2 rfl ?_
    refine l1_callV hQ mt_X12_isAsThere mt_X12_twoAt rfl rfl (o := 201) (ci := 11) (As := [.int p1]) (rest := []) rfl rfl rfl rfl rfl rfl (st1 := fun x5 => [.int x5]) (fun _ => rfl) (ok_X12_twoAt hQ c p1) (fun x5 c6 => ?_)
    refine l1_many mt_X12_isAsThere (pc' := 12) (L' := [some (.ref 201), some (.int p1), some (.int p2), some (.int p3)]) (st' := [.int p2, .ref 201, .int x5]) 2 rfl ?_
    refine l1_callV hQ mt_X12_isAsThere mt_X12_twoAt rfl rfl (o := 201) (ci := 11) (As := [.int p2]) (rest := [.int x5]) rfl rfl rfl rfl rfl rfl (st1 := fun x7 => [.int x7, .int x5]) (fun _ => rfl) (ok_X12_twoAt hQ c6 p2) (fun x7 c8 => ?_)
    refine l1_many mt_X12_isAsThere (pc' := bif am_cc .ne x5 x7 then 35 else 18) (L' := [some (.ref 201), some (.int p1), some (.int p2), some (.int p3)]) (st' := []) 1 rfl ?_
    refine l1_bin rfl ?_ ?_
    · refine l1_many mt_X12_isAsThere (pc' := 50) (L' := [some (.ref 201), some (.int p1), some (.int p2), some (.int p3)]) (st' := [.int 1]) 3 rfl ?_
      exact l1_ret mt_X12_isAsThere rfl rfl rfl
    · refine l1_weak (m := [true, true, false, false]) (L' := [some (.ref 201), some (.int p1)]) rfl ?_
      exact ok_X12_isAsThere_35 hQ p1 p2 p3 c8
  · refine l1_many mt_X12_isAsThere (pc' := 23) (L' := [some (.ref 201), some (.int p1), some (.int p2), some (.int p3)]) (st' := [.int p1, .ref 201]) 2 rfl ?_
    refine l1_callV hQ mt_X12_isAsThere mt_X12_fourAt rfl rfl (o := 201) (ci := 11) (As := [.int p1]) (rest := []) rfl rfl rfl rfl rfl rfl (st1 := fun x1 => [.long x1]) (fun _ => rfl) (ok_X12_fourAt hQ c p1) (fun x1 c2 => ?_)
    refine l1_many mt_X12_isAsThere (pc' := 28) (L' := [some (.ref 201), some (.int p1), some (.int p2), some (.int p3)]) (st' := [.int p2, .ref 201, .long x1]) 2 rfl ?_
    refine l1_callV hQ mt_X12_isAsThere mt_X12_fourAt rfl rfl (o := 201) (ci := 11) (As := [.int p2]) (rest := [.long x1]) rfl rfl rfl rfl rfl rfl (st1 := fun x3 => [.long x3, .long x1]) (fun _ => rfl) (ok_X12_fourAt hQ c2 p2) (fun x3 c4 => ?_)
    refine l1_many mt_X12_isAsThere (pc' := bif am_cc .eq (j_cmp x1 x3) 0 then 45 else 35) (L' := [some (.ref 201), some (.int p1), some (.int p2), some (.int p3)]) (st' := []) 2 rfl ?_
    refine l1_bif rfl ?_ ?_
    · refine l1_many mt_X12_isAsThere (pc' := 50) (L' := [some (.ref 201), some (.int p1), some (.int p2), some (.int p3)]) (st' := [.int 1]) 2 rfl ?_
      exact l1_ret mt_X12_isAsThere rfl rfl rfl
    · refine l1_weak (m := [true, true, false, false]) (L' := [some (.ref 201), some (.int p1)]) rfl ?_
      exact ok_X12_isAsThere_35 hQ p1 p2 p3 c4
theorem ok_X12_isAsThere {Q : hS → am_H → Prop} (hQ : l1_em km Q) (c : hS) (p1 : Int32) (p2 : Int32) (p3 : Int32) : l1_T wI Q am_i_X12_isAsThere [.ref 201, .int p1, .int p2, .int p3] c (f_X12_isAsThere c p1 p2 p3) := l1_of (en_X12_isAsThere hQ c p1 p2 p3) ⟨rfl, rfl, rfl, rfl, trivial⟩
set_option maxRecDepth 100000 in
theorem ok_X12_checkMore_6 {Q : hS → am_H → Prop} (hQ : l1_em km Q) (N : Nat) (p0 : Int32) (p1 : Int32) : ∀ n : Nat, ∀ (c : hS) (v2 : Int32) (v3 : Int32), l1_G (wN wI) Q am_i_X12_checkMore 6 [none, none, some (.int v2), some (.int v3)] [] c (f_X12_checkMore_6 N p0 p1 n c v2 v3) := by
  intro n
  induction n with
  | zero => intro c v2 v3; exact l1_none
  | succ n ih =>
    intro c v2 v3
    rw [f_X12_checkMore_6]
    refine l1_many mt_X12_checkMore (pc' := bif am_cc .ge v3 8 then 39 else 12) (L' := [none, none, some (.int v2), some (.int v3)]) (st' := []) 3 rfl ?_
    refine l1_bif rfl ?_ ?_
    · refine l1_many mt_X12_checkMore (pc' := 40) (L' := [none, none, some (.int v2), some (.int v3)]) (st' := [.int v2]) 1 rfl ?_
      exact l1_ret mt_X12_checkMore rfl rfl rfl
    · refine l1_many mt_X12_checkMore (pc' := bif am_cc .ne (v2 &&& 1) 1 then 29 else 19) (L' := [none, none, some (.int v2), some (.int v3)]) (st' := []) 5 rfl ?_
      refine l1_bin rfl ?_ ?_
      · refine l1_many mt_X12_checkMore (pc' := 6) (L' := [none, none, some (.int ((j_ushr v2 1) ^^^ (-306674912))), some (.int (v3 + 1))]) (st' := []) 9 rfl ?_
        exact ih c ((j_ushr v2 1) ^^^ (-306674912)) (v3 + 1)
      · refine l1_many mt_X12_checkMore (pc' := 6) (L' := [none, none, some (.int (j_ushr v2 1)), some (.int (v3 + 1))]) (st' := []) 6 rfl ?_
        exact ih c (j_ushr v2 1) (v3 + 1)
set_option maxRecDepth 100000 in
theorem en_X12_checkMore {Q : hS → am_H → Prop} (hQ : l1_em km Q) (N : Nat) (c : hS) (p0 : Int32) (p1 : Int32) : l1_G (wN wI) Q am_i_X12_checkMore 0 [some (.int p0), some (.int p1)] [] c (f_X12_checkMore N c p0 p1) := by
  rw [f_X12_checkMore]
  refine l1_many mt_X12_checkMore (pc' := 6) (L' := [some (.int p0), some (.int p1), some (.int (p0 ^^^ p1)), some (.int 0)]) (st' := []) 6 rfl ?_
  refine l1_weak (m := [false, false, true, true]) (L' := [none, none, some (.int (p0 ^^^ p1)), some (.int 0)]) rfl ?_
  exact ok_X12_checkMore_6 hQ N p0 p1 N c (p0 ^^^ p1) 0
theorem ok_X12_checkMore {Q : hS → am_H → Prop} (hQ : l1_em km Q) (N : Nat) (c : hS) (p0 : Int32) (p1 : Int32) : l1_T wI Q am_i_X12_checkMore [.int p0, .int p1] c (f_X12_checkMore N c p0 p1) := l1_of (en_X12_checkMore hQ N c p0 p1) ⟨rfl, rfl, trivial⟩
set_option maxRecDepth 100000 in
theorem en_X12_bit {Q : hS → am_H → Prop} (hQ : l1_em km Q) (c : hS) : l1_G (wN wI) Q am_i_X12_bit 0 [some (.ref 201)] [] c (f_X12_bit c) := by
  rw [f_X12_bit]
  refine l1_many mt_X12_bit (pc' := 1) (L' := [some (.ref 201)]) (st' := [.ref 201]) 1 rfl ?_
  refine l1_getI hQ mt_X12_bit rfl (o := 201) (ci := 11) (k := 25) (a := 0) (b := 0) rfl rfl rfl rfl rfl ?_
  refine l1_many mt_X12_bit (pc' := 5) (L' := [some (.ref 201)]) (st' := [.ref 201, .int (c.1 201 25)]) 1 rfl ?_
  refine l1_getI hQ mt_X12_bit rfl (o := 201) (ci := 11) (k := 26) (a := 0) (b := 0) rfl rfl rfl rfl rfl ?_
  refine l1_many mt_X12_bit (pc' := bif am_cc .lt (c.1 201 25) (c.1 201 26) then 27 else 11) (L' := [some (.ref 201)]) (st' := []) 1 rfl ?_
  refine l1_bif rfl ?_ ?_
  · refine l1_many mt_X12_bit (pc' := 28) (L' := [some (.ref 201)]) (st' := [.ref 201]) 1 rfl ?_
    refine l1_getR hQ mt_X12_bit rfl (o := 201) (ci := 11) (k := 3) (a := 0) (b := 0) rfl rfl rfl rfl rfl (q := 203) rfl ?_
    refine l1_many mt_X12_bit (pc' := 32) (L' := [some (.ref 201)]) (st' := [.ref 201, .ref 203]) 1 rfl ?_
    refine l1_getI hQ mt_X12_bit rfl (o := 201) (ci := 11) (k := 25) (a := 0) (b := 0) rfl rfl rfl rfl rfl ?_
    refine l1_many mt_X12_bit (pc' := 38) (L' := [some (.ref 201)]) (st' := [.int ((c.1 201 25) / 8), .ref 203]) 2 rfl ?_
    refine l1_ck (fun hx => ?_)
    refine l1_ald hQ mt_X12_bit rfl (o := 203) rfl hx ?_
    refine l1_many mt_X12_bit (pc' := 40) (L' := [some (.ref 201)]) (st' := [.ref 201, .int (c.1 203 ((c.1 201 25) / 8).toNatClampNeg)]) 1 rfl ?_
    refine l1_getI hQ mt_X12_bit rfl (o := 201) (ci := 11) (k := 25) (a := 0) (b := 0) rfl rfl rfl rfl rfl ?_
    refine l1_many mt_X12_bit (pc' := 52) (L' := [some (.ref 201), some (.int ((j_shr (c.1 203 ((c.1 201 25) / 8).toNatClampNeg) (j_rem (c.1 201 25) 8)) &&& 1))]) (st' := [.ref 201, .ref 201]) 8 rfl ?_
    refine l1_getI hQ mt_X12_bit rfl (o := 201) (ci := 11) (k := 25) (a := 0) (b := 0) rfl rfl rfl rfl rfl ?_
    refine l1_many mt_X12_bit (pc' := 57) (L' := [some (.ref 201), some (.int ((j_shr (c.1 203 ((c.1 201 25) / 8).toNatClampNeg) (j_rem (c.1 201 25) 8)) &&& 1))]) (st' := [.int ((c.1 201 25) + 1), .ref 201]) 2 rfl ?_
    refine l1_putI hQ mt_X12_bit rfl (o := 201) (ci := 11) (k := 25) (a := 0) rfl rfl rfl rfl rfl rfl (fun c1 => ?_)
    refine l1_many mt_X12_bit (pc' := 61) (L' := [some (.ref 201), some (.int ((j_shr (c.1 203 ((c.1 201 25) / 8).toNatClampNeg) (j_rem (c.1 201 25) 8)) &&& 1))]) (st' := [.int ((j_shr (c.1 203 ((c.1 201 25) / 8).toNatClampNeg) (j_rem (c.1 201 25) 8)) &&& 1)]) 1 rfl ?_
    exact l1_ret mt_X12_bit rfl rfl rfl
  · refine l1_many mt_X12_bit (pc' := 15) (L' := [some (.ref 201)]) (st' := [.ref 201, .int 20, .ref 201]) 3 rfl ?_
    refine l1_getI hQ mt_X12_bit rfl (o := 201) (ci := 11) (k := 26) (a := 0) (b := 0) rfl rfl rfl rfl rfl ?_
    refine l1_many mt_X12_bit (pc' := 21) (L' := [some (.ref 201)]) (st' := [.int ((c.1 201 26) / 8), .int 20, .ref 201]) 2 rfl ?_
    refine l1_callV hQ mt_X12_bit mt_X12_fails rfl rfl (o := 201) (ci := 11) (As := [.int 20, .int ((c.1 201 26) / 8)]) (rest := []) rfl rfl rfl rfl rfl rfl (st1 := fun x2 => [.int x2]) (fun _ => rfl) (ok_X12_fails hQ c 20 ((c.1 201 26) / 8)) (fun x2 c3 => ?_)
    refine l1_many mt_X12_bit (pc' := 26) (L' := [some (.ref 201), some (.int x2)]) (st' := [.int 0]) 2 rfl ?_
    exact l1_ret mt_X12_bit rfl rfl rfl
theorem ok_X12_bit {Q : hS → am_H → Prop} (hQ : l1_em km Q) (c : hS) : l1_T wI Q am_i_X12_bit [.ref 201] c (f_X12_bit c) := l1_of (en_X12_bit hQ c) ⟨rfl, trivial⟩
set_option maxRecDepth 100000 in
theorem ok_X12_bits_4 {Q : hS → am_H → Prop} (hQ : l1_em km Q) (N : Nat) (p1 : Int32) : ∀ n : Nat, ∀ (c : hS) (v2 : Int32) (v3 : Int32), l1_G (wN wI) Q am_i_X12_bits 4 [some (.ref 201), some (.int p1), some (.int v2), some (.int v3)] [] c (f_X12_bits_4 N p1 n c v2 v3) := by
  intro n
  induction n with
  | zero => intro c v2 v3; exact l1_none
  | succ n ih =>
    intro c v2 v3
    rw [f_X12_bits_4]
    refine l1_many mt_X12_bits (pc' := bif am_cc .ge v3 p1 then 31 else 9) (L' := [some (.ref 201), some (.int p1), some (.int v2), some (.int v3)]) (st' := []) 3 rfl ?_
    refine l1_bif rfl ?_ ?_
    · refine l1_many mt_X12_bits (pc' := 32) (L' := [some (.ref 201), some (.int p1), some (.int v2), some (.int v3)]) (st' := [.int v2]) 1 rfl ?_
      exact l1_ret mt_X12_bits rfl rfl rfl
    · refine l1_many mt_X12_bits (pc' := 10) (L' := [some (.ref 201), some (.int p1), some (.int v2), some (.int v3)]) (st' := [.ref 201]) 1 rfl ?_
      refine l1_getI hQ mt_X12_bits rfl (o := 201) (ci := 11) (k := 5) (a := 0) (b := 0) rfl rfl rfl rfl rfl ?_
      refine l1_many mt_X12_bits (pc' := bif am_cc .ne (c.1 201 5) 0 then 31 else 16) (L' := [some (.ref 201), some (.int p1), some (.int v2), some (.int v3)]) (st' := []) 1 rfl ?_
      refine l1_bin rfl ?_ ?_
      · refine l1_many mt_X12_bits (pc' := 18) (L' := [some (.ref 201), some (.int p1), some (.int v2), some (.int v3)]) (st' := [.ref 201, .int v2]) 2 rfl ?_
        refine l1_callV hQ mt_X12_bits mt_X12_bit rfl rfl (o := 201) (ci := 11) (As := []) (rest := [.int v2]) rfl rfl rfl rfl rfl rfl (st1 := fun x1 => [.int x1, .int v2]) (fun _ => rfl) (ok_X12_bit hQ c) (fun x1 c2 => ?_)
        refine l1_many mt_X12_bits (pc' := 4) (L' := [some (.ref 201), some (.int p1), some (.int (v2 ||| (j_shl x1 v3))), some (.int (v3 + 1))]) (st' := []) 6 rfl ?_
        exact ih c2 (v2 ||| (j_shl x1 v3)) (v3 + 1)
      · refine l1_many mt_X12_bits (pc' := 32) (L' := [some (.ref 201), some (.int p1), some (.int v2), some (.int v3)]) (st' := [.int v2]) 1 rfl ?_
        exact l1_ret mt_X12_bits rfl rfl rfl
set_option maxRecDepth 100000 in
theorem en_X12_bits {Q : hS → am_H → Prop} (hQ : l1_em km Q) (N : Nat) (c : hS) (p1 : Int32) : l1_G (wN wI) Q am_i_X12_bits 0 [some (.ref 201), some (.int p1)] [] c (f_X12_bits N c p1) := by
  rw [f_X12_bits]
  refine l1_many mt_X12_bits (pc' := 4) (L' := [some (.ref 201), some (.int p1), some (.int 0), some (.int 0)]) (st' := []) 4 rfl ?_
  exact ok_X12_bits_4 hQ N p1 N c 0 0
theorem ok_X12_bits {Q : hS → am_H → Prop} (hQ : l1_em km Q) (N : Nat) (c : hS) (p1 : Int32) : l1_T wI Q am_i_X12_bits [.ref 201, .int p1] c (f_X12_bits N c p1) := l1_of (en_X12_bits hQ N c p1) ⟨rfl, rfl, trivial⟩
set_option maxRecDepth 100000 in
theorem ok_X12_layCodes_19 {Q : hS → am_H → Prop} (hQ : l1_em km Q) (N : Nat) (p1 : Int32) (p2 : Int32) {k5 : hS → Int32 → Int32 → Option (Unit × hS)} (hk5 : ∀ c v3 v4, l1_G (wN wV) Q am_i_X12_layCodes 5 [some (.ref 201), some (.int p1), some (.int p2), some (.int v3), some (.int v4)] [] c (k5 c v3 v4)) : ∀ n : Nat, ∀ (c : hS) (v3 : Int32) (v4 : Int32) (v5 : Int32), l1_G (wN wV) Q am_i_X12_layCodes 19 [some (.ref 201), some (.int p1), some (.int p2), some (.int v3), some (.int v4), some (.int v5)] [] c (f_X12_layCodes_19 N p1 p2 k5 n c v3 v4 v5) := by
  intro n
  induction n with
  | zero => intro c v3 v4 v5; exact l1_none
  | succ n ih =>
    intro c v3 v4 v5
    rw [f_X12_layCodes_19]
    refine l1_many mt_X12_layCodes (pc' := bif am_cc .ge v5 (p1 + p2) then 56 else 27) (L' := [some (.ref 201), some (.int p1), some (.int p2), some (.int v3), some (.int v4), some (.int v5)]) (st' := []) 5 rfl ?_
    refine l1_bif rfl ?_ ?_
    · refine l1_many mt_X12_layCodes (pc' := 5) (L' := [some (.ref 201), some (.int p1), some (.int p2), some (.int v3), some (.int (v4 + 1)), some (.int v5)]) (st' := []) 2 rfl ?_
      refine l1_weak (m := [true, true, true, true, true, false]) (L' := [some (.ref 201), some (.int p1), some (.int p2), some (.int v3), some (.int (v4 + 1))]) rfl ?_
      exact hk5 c v3 (v4 + 1)
    · refine l1_many mt_X12_layCodes (pc' := 28) (L' := [some (.ref 201), some (.int p1), some (.int p2), some (.int v3), some (.int v4), some (.int v5)]) (st' := [.ref 201]) 1 rfl ?_
      refine l1_getR hQ mt_X12_layCodes rfl (o := 201) (ci := 11) (k := 27) (a := 0) (b := 0) rfl rfl rfl rfl rfl (q := 212) rfl ?_
      refine l1_many mt_X12_layCodes (pc' := 33) (L' := [some (.ref 201), some (.int p1), some (.int p2), some (.int v3), some (.int v4), some (.int v5)]) (st' := [.int v5, .ref 212]) 1 rfl ?_
      refine l1_ck (fun hx => ?_)
      refine l1_ald hQ mt_X12_layCodes rfl (o := 212) rfl hx ?_
      refine l1_many mt_X12_layCodes (pc' := bif am_cc .ne (c.1 212 v5.toNatClampNeg) v4 then 50 else 39) (L' := [some (.ref 201), some (.int p1), some (.int p2), some (.int v3), some (.int v4), some (.int v5)]) (st' := []) 2 rfl ?_
      refine l1_bin rfl ?_ ?_
      · refine l1_many mt_X12_layCodes (pc' := 40) (L' := [some (.ref 201), some (.int p1), some (.int p2), some (.int v3), some (.int v4), some (.int v5)]) (st' := [.ref 201]) 1 rfl ?_
        refine l1_getR hQ mt_X12_layCodes rfl (o := 201) (ci := 11) (k := 28) (a := 0) (b := 0) rfl rfl rfl rfl rfl (q := 213) rfl ?_
        refine l1_many mt_X12_layCodes (pc' := 46) (L' := [some (.ref 201), some (.int p1), some (.int p2), some (.int v3), some (.int v4), some (.int v5)]) (st' := [.int v3, .int v5, .ref 213]) 2 rfl ?_
        refine l1_ck (fun hx => ?_)
        refine l1_ast hQ mt_X12_layCodes rfl (o := 213) rfl hx (fun c1 => ?_)
        refine l1_many mt_X12_layCodes (pc' := 19) (L' := [some (.ref 201), some (.int p1), some (.int p2), some (.int (v3 + 1)), some (.int v4), some (.int (v5 + 1))]) (st' := []) 3 rfl ?_
        exact ih c1 (v3 + 1) v4 (v5 + 1)
      · refine l1_many mt_X12_layCodes (pc' := 19) (L' := [some (.ref 201), some (.int p1), some (.int p2), some (.int v3), some (.int v4), some (.int (v5 + 1))]) (st' := []) 2 rfl ?_
        exact ih c v3 v4 (v5 + 1)
set_option maxRecDepth 100000 in
theorem ok_X12_layCodes_5 {Q : hS → am_H → Prop} (hQ : l1_em km Q) (N : Nat) (p1 : Int32) (p2 : Int32) : ∀ n : Nat, ∀ (c : hS) (v3 : Int32) (v4 : Int32), l1_G (wN wV) Q am_i_X12_layCodes 5 [some (.ref 201), some (.int p1), some (.int p2), some (.int v3), some (.int v4)] [] c (f_X12_layCodes_5 N p1 p2 n c v3 v4) := by
  intro n
  induction n with
  | zero => intro c v3 v4; exact l1_none
  | succ n ih =>
    intro c v3 v4
    rw [f_X12_layCodes_5]
    refine l1_many mt_X12_layCodes (pc' := bif am_cc .ge v4 16 then 62 else 12) (L' := [some (.ref 201), some (.int p1), some (.int p2), some (.int v3), some (.int v4)]) (st' := []) 3 rfl ?_
    refine l1_bif rfl ?_ ?_
    · exact l1_ret mt_X12_layCodes rfl rfl rfl
    · refine l1_many mt_X12_layCodes (pc' := 19) (L' := [some (.ref 201), some (.int p1), some (.int p2), some (.int (2 * v3)), some (.int v4), some (.int p1)]) (st' := []) 6 rfl ?_
      exact ok_X12_layCodes_19 hQ N p1 p2 ih N c (2 * v3) v4 p1
set_option maxRecDepth 100000 in
theorem en_X12_layCodes {Q : hS → am_H → Prop} (hQ : l1_em km Q) (N : Nat) (c : hS) (p1 : Int32) (p2 : Int32) : l1_G (wN wV) Q am_i_X12_layCodes 0 [some (.ref 201), some (.int p1), some (.int p2)] [] c (f_X12_layCodes N c p1 p2) := by
  rw [f_X12_layCodes]
  refine l1_many mt_X12_layCodes (pc' := 5) (L' := [some (.ref 201), some (.int p1), some (.int p2), some (.int 0), some (.int 1)]) (st' := []) 4 rfl ?_
  exact ok_X12_layCodes_5 hQ N p1 p2 N c 0 1
theorem ok_X12_layCodes {Q : hS → am_H → Prop} (hQ : l1_em km Q) (N : Nat) (c : hS) (p1 : Int32) (p2 : Int32) : l1_T wV Q am_i_X12_layCodes [.ref 201, .int p1, .int p2] c (f_X12_layCodes N c p1 p2) := l1_of (en_X12_layCodes hQ N c p1 p2) ⟨rfl, rfl, rfl, trivial⟩
set_option maxRecDepth 100000 in
theorem ok_X12_layFixed_61 {Q : hS → am_H → Prop} (hQ : l1_em km Q) (N : Nat) : ∀ n : Nat, ∀ (c : hS) (v1 : Int32), l1_G (wN wV) Q am_i_X12_layFixed 61 [some (.ref 201), some (.int v1)] [] c (f_X12_layFixed_61 N n c v1) := by
  intro n
  induction n with
  | zero => intro c v1; exact l1_none
  | succ n ih =>
    intro c v1
    rw [f_X12_layFixed_61]
    refine l1_many mt_X12_layFixed (pc' := bif am_cc .ge v1 32 then 84 else 67) (L' := [some (.ref 201), some (.int v1)]) (st' := []) 3 rfl ?_
    refine l1_bif rfl ?_ ?_
    · refine l1_many mt_X12_layFixed (pc' := 89) (L' := [some (.ref 201), some (.int v1)]) (st' := [.int 288, .int 0, .ref 201]) 3 rfl ?_
      refine l1_callV hQ mt_X12_layFixed mt_X12_layCodes rfl rfl (o := 201) (ci := 11) (As := [.int 0, .int 288]) (rest := []) rfl rfl rfl rfl rfl rfl (st1 := fun _ => []) (fun _ => rfl) (ok_X12_layCodes hQ N c 0 288) (fun _ c1 => ?_)
      refine l1_many mt_X12_layFixed (pc' := 98) (L' := [some (.ref 201), some (.int v1)]) (st' := [.int 32, .int 300, .ref 201]) 3 rfl ?_
      refine l1_callV hQ mt_X12_layFixed mt_X12_layCodes rfl rfl (o := 201) (ci := 11) (As := [.int 300, .int 32]) (rest := []) rfl rfl rfl rfl rfl rfl (st1 := fun _ => []) (fun _ => rfl) (ok_X12_layCodes hQ N c1 300 32) (fun _ c2 => ?_)
      exact l1_ret mt_X12_layFixed rfl rfl rfl
    · refine l1_many mt_X12_layFixed (pc' := 68) (L' := [some (.ref 201), some (.int v1)]) (st' := [.ref 201]) 1 rfl ?_
      refine l1_getR hQ mt_X12_layFixed rfl (o := 201) (ci := 11) (k := 27) (a := 0) (b := 0) rfl rfl rfl rfl rfl (q := 212) rfl ?_
      refine l1_many mt_X12_layFixed (pc' := 77) (L' := [some (.ref 201), some (.int v1)]) (st' := [.int 5, .int (300 + v1), .ref 212]) 4 rfl ?_
      refine l1_ck (fun hx => ?_)
      refine l1_ast hQ mt_X12_layFixed rfl (o := 212) rfl hx (fun c3 => ?_)
      refine l1_many mt_X12_layFixed (pc' := 61) (L' := [some (.ref 201), some (.int (v1 + 1))]) (st' := []) 2 rfl ?_
      exact ih c3 (v1 + 1)
set_option maxRecDepth 100000 in
theorem ok_X12_layFixed_2 {Q : hS → am_H → Prop} (hQ : l1_em km Q) (N : Nat) : ∀ n : Nat, ∀ (c : hS) (v1 : Int32), l1_G (wN wV) Q am_i_X12_layFixed 2 [some (.ref 201), some (.int v1)] [] c (f_X12_layFixed_2 N n c v1) := by
  intro n
  induction n with
  | zero => intro c v1; exact l1_none
  | succ n ih =>
    intro c v1
    rw [f_X12_layFixed_2]
    refine l1_many mt_X12_layFixed (pc' := bif am_cc .ge v1 288 then 59 else 9) (L' := [some (.ref 201), some (.int v1)]) (st' := []) 3 rfl ?_
    refine l1_bif rfl ?_ ?_
    · refine l1_many mt_X12_layFixed (pc' := 61) (L' := [some (.ref 201), some (.int 0)]) (st' := []) 2 rfl ?_
      exact ok_X12_layFixed_61 hQ N N c 0
    · refine l1_many mt_X12_layFixed (pc' := 10) (L' := [some (.ref 201), some (.int v1)]) (st' := [.ref 201]) 1 rfl ?_
      refine l1_getR hQ mt_X12_layFixed rfl (o := 201) (ci := 11) (k := 27) (a := 0) (b := 0) rfl rfl rfl rfl rfl (q := 212) rfl ?_
      refine l1_many mt_X12_layFixed (pc' := bif am_cc .ge v1 144 then 26 else 21) (L' := [some (.ref 201), some (.int v1)]) (st' := [.int v1, .ref 212]) 4 rfl ?_
      refine l1_bif rfl ?_ ?_
      · refine l1_many mt_X12_layFixed (pc' := bif am_cc .ge v1 256 then 38 else 33) (L' := [some (.ref 201), some (.int v1)]) (st' := [.int v1, .ref 212]) 3 rfl ?_
        refine l1_bif rfl ?_ ?_
        · refine l1_many mt_X12_layFixed (pc' := bif am_cc .ge v1 280 then 50 else 45) (L' := [some (.ref 201), some (.int v1)]) (st' := [.int v1, .ref 212]) 3 rfl ?_
          refine l1_bif rfl ?_ ?_
          · refine l1_many mt_X12_layFixed (pc' := 52) (L' := [some (.ref 201), some (.int v1)]) (st' := [.int 8, .int v1, .ref 212]) 1 rfl ?_
            refine l1_ck (fun hx => ?_)
            refine l1_ast hQ mt_X12_layFixed rfl (o := 212) rfl hx (fun c1 => ?_)
            refine l1_many mt_X12_layFixed (pc' := 2) (L' := [some (.ref 201), some (.int (v1 + 1))]) (st' := []) 2 rfl ?_
            exact ih c1 (v1 + 1)
          · refine l1_many mt_X12_layFixed (pc' := 52) (L' := [some (.ref 201), some (.int v1)]) (st' := [.int 7, .int v1, .ref 212]) 2 rfl ?_
            refine l1_ck (fun hx => ?_)
            refine l1_ast hQ mt_X12_layFixed rfl (o := 212) rfl hx (fun c2 => ?_)
            refine l1_many mt_X12_layFixed (pc' := 2) (L' := [some (.ref 201), some (.int (v1 + 1))]) (st' := []) 2 rfl ?_
            exact ih c2 (v1 + 1)
        · refine l1_many mt_X12_layFixed (pc' := 52) (L' := [some (.ref 201), some (.int v1)]) (st' := [.int 9, .int v1, .ref 212]) 2 rfl ?_
          refine l1_ck (fun hx => ?_)
          refine l1_ast hQ mt_X12_layFixed rfl (o := 212) rfl hx (fun c3 => ?_)
          refine l1_many mt_X12_layFixed (pc' := 2) (L' := [some (.ref 201), some (.int (v1 + 1))]) (st' := []) 2 rfl ?_
          exact ih c3 (v1 + 1)
      · refine l1_many mt_X12_layFixed (pc' := 52) (L' := [some (.ref 201), some (.int v1)]) (st' := [.int 8, .int v1, .ref 212]) 2 rfl ?_
        refine l1_ck (fun hx => ?_)
        refine l1_ast hQ mt_X12_layFixed rfl (o := 212) rfl hx (fun c4 => ?_)
        refine l1_many mt_X12_layFixed (pc' := 2) (L' := [some (.ref 201), some (.int (v1 + 1))]) (st' := []) 2 rfl ?_
        exact ih c4 (v1 + 1)
set_option maxRecDepth 100000 in
theorem en_X12_layFixed {Q : hS → am_H → Prop} (hQ : l1_em km Q) (N : Nat) (c : hS) : l1_G (wN wV) Q am_i_X12_layFixed 0 [some (.ref 201)] [] c (f_X12_layFixed N c) := by
  rw [f_X12_layFixed]
  refine l1_many mt_X12_layFixed (pc' := 2) (L' := [some (.ref 201), some (.int 0)]) (st' := []) 2 rfl ?_
  exact ok_X12_layFixed_2 hQ N N c 0
theorem ok_X12_layFixed {Q : hS → am_H → Prop} (hQ : l1_em km Q) (N : Nat) (c : hS) : l1_T wV Q am_i_X12_layFixed [.ref 201] c (f_X12_layFixed N c) := l1_of (en_X12_layFixed hQ N c) ⟨rfl, trivial⟩
set_option maxRecDepth 100000 in
theorem en_X12_add {Q : hS → am_H → Prop} (hQ : l1_em km Q) (c : hS) (p1 : Int32) (p2 : Int32) : l1_G (wN wI) Q am_i_X12_add 0 [some (.ref 201), some (.int p1), some (.int p2)] [] c (f_X12_add c p1 p2) := by
  rw [f_X12_add]
  refine l1_many mt_X12_add (pc' := 1) (L' := [some (.ref 201), some (.int p1), some (.int p2)]) (st' := [.ref 201]) 1 rfl ?_
  refine l1_getI hQ mt_X12_add rfl (o := 201) (ci := 11) (k := 23) (a := 0) (b := 0) rfl rfl rfl rfl rfl ?_
  refine l1_many mt_X12_add (pc' := 5) (L' := [some (.ref 201), some (.int p1), some (.int p2)]) (st' := [.ref 201, .int (c.1 201 23)]) 1 rfl ?_
  refine l1_getI hQ mt_X12_add rfl (o := 201) (ci := 11) (k := 24) (a := 0) (b := 0) rfl rfl rfl rfl rfl ?_
  refine l1_many mt_X12_add (pc' := bif am_cc .ne (c.1 201 23) (c.1 201 24) then 19 else 11) (L' := [some (.ref 201), some (.int p1), some (.int p2)]) (st' := []) 1 rfl ?_
  refine l1_bin rfl ?_ ?_
  · refine l1_many mt_X12_add (pc' := 15) (L' := [some (.ref 201), some (.int p1), some (.int p2)]) (st' := [.int p2, .int 23, .ref 201]) 3 rfl ?_
    refine l1_callV hQ mt_X12_add mt_X12_fails rfl rfl (o := 201) (ci := 11) (As := [.int 23, .int p2]) (rest := []) rfl rfl rfl rfl rfl rfl (st1 := fun x3 => [.int x3]) (fun _ => rfl) (ok_X12_fails hQ c 23 p2) (fun x3 c4 => ?_)
    refine l1_ck (fun hz => ?_)
    exact l1_retZ mt_X12_add rfl rfl rfl hz
  · refine l1_many mt_X12_add (pc' := 20) (L' := [some (.ref 201), some (.int p1), some (.int p2)]) (st' := [.ref 201]) 1 rfl ?_
    refine l1_getR hQ mt_X12_add rfl (o := 201) (ci := 11) (k := 22) (a := 0) (b := 0) rfl rfl rfl rfl rfl (q := 211) rfl ?_
    refine l1_many mt_X12_add (pc' := 24) (L' := [some (.ref 201), some (.int p1), some (.int p2)]) (st' := [.ref 201, .ref 211]) 1 rfl ?_
    refine l1_getI hQ mt_X12_add rfl (o := 201) (ci := 11) (k := 23) (a := 0) (b := 0) rfl rfl rfl rfl rfl ?_
    refine l1_many mt_X12_add (pc' := 28) (L' := [some (.ref 201), some (.int p1), some (.int p2)]) (st' := [.int p1, .int (c.1 201 23), .ref 211]) 1 rfl ?_
    refine l1_ck (fun hx => ?_)
    refine l1_ast hQ mt_X12_add rfl (o := 211) rfl hx (fun c1 => ?_)
    refine l1_many mt_X12_add (pc' := 31) (L' := [some (.ref 201), some (.int p1), some (.int p2)]) (st' := [.ref 201, .ref 201]) 2 rfl ?_
    refine l1_getI hQ mt_X12_add rfl (o := 201) (ci := 11) (k := 23) (a := 0) (b := 0) rfl rfl rfl rfl rfl ?_
    refine l1_many mt_X12_add (pc' := 36) (L' := [some (.ref 201), some (.int p1), some (.int p2)]) (st' := [.int ((c1.1 201 23) + 1), .ref 201]) 2 rfl ?_
    refine l1_putI hQ mt_X12_add rfl (o := 201) (ci := 11) (k := 23) (a := 0) rfl rfl rfl rfl rfl rfl (fun c2 => ?_)
    refine l1_many mt_X12_add (pc' := 40) (L' := [some (.ref 201), some (.int p1), some (.int p2)]) (st' := [.int 1]) 1 rfl ?_
    exact l1_ret mt_X12_add rfl rfl rfl
theorem ok_X12_add {Q : hS → am_H → Prop} (hQ : l1_em km Q) (c : hS) (p1 : Int32) (p2 : Int32) : l1_T wI Q am_i_X12_add [.ref 201, .int p1, .int p2] c (f_X12_add c p1 p2) := l1_of (en_X12_add hQ c p1 p2) ⟨rfl, rfl, rfl, trivial⟩
set_option maxRecDepth 100000 in
theorem ok_X12_plain_60 {Q : hS → am_H → Prop} (hQ : l1_em km Q) (N : Nat) (p1 : Int32) : ∀ n : Nat, ∀ (c : hS) (v2 : Int32) (v4 : Int32), l1_G (wN wI) Q am_i_X12_plain 60 [some (.ref 201), none, some (.int v2), none, some (.int v4)] [] c (f_X12_plain_60 N p1 n c v2 v4) := by
  intro n
  induction n with
  | zero => intro c v2 v4; exact l1_none
  | succ n ih =>
    intro c v2 v4
    rw [f_X12_plain_60]
    refine l1_many mt_X12_plain (pc' := bif am_cc .ge v4 v2 then 109 else 66) (L' := [some (.ref 201), none, some (.int v2), none, some (.int v4)]) (st' := []) 3 rfl ?_
    refine l1_bif rfl ?_ ?_
    · refine l1_many mt_X12_plain (pc' := 110) (L' := [some (.ref 201), none, some (.int v2), none, some (.int v4)]) (st' := [.int 1]) 1 rfl ?_
      exact l1_ret mt_X12_plain rfl rfl rfl
    · refine l1_many mt_X12_plain (pc' := 67) (L' := [some (.ref 201), none, some (.int v2), none, some (.int v4)]) (st' := [.ref 201]) 1 rfl ?_
      refine l1_getI hQ mt_X12_plain rfl (o := 201) (ci := 11) (k := 25) (a := 0) (b := 0) rfl rfl rfl rfl rfl ?_
      refine l1_many mt_X12_plain (pc' := 78) (L' := [some (.ref 201), none, some (.int v2), none, some (.int v4), some (.int ((c.1 201 25) / 8))]) (st' := [.int 8, .ref 201]) 5 rfl ?_
      refine l1_callV hQ mt_X12_plain mt_X12_bits rfl rfl (o := 201) (ci := 11) (As := [.int 8]) (rest := []) rfl rfl rfl rfl rfl rfl (st1 := fun x1 => [.int x1]) (fun _ => rfl) (ok_X12_bits hQ N c 8) (fun x1 c2 => ?_)
      refine l1_many mt_X12_plain (pc' := 84) (L' := [some (.ref 201), none, some (.int v2), none, some (.int v4), some (.int ((c.1 201 25) / 8)), some (.int x1)]) (st' := [.ref 201]) 2 rfl ?_
      refine l1_getI hQ mt_X12_plain rfl (o := 201) (ci := 11) (k := 5) (a := 0) (b := 0) rfl rfl rfl rfl rfl ?_
      refine l1_many mt_X12_plain (pc' := bif am_cc .ne (c2.1 201 5) 0 then 101 else 90) (L' := [some (.ref 201), none, some (.int v2), none, some (.int v4), some (.int ((c.1 201 25) / 8)), some (.int x1)]) (st' := []) 1 rfl ?_
      refine l1_bin rfl ?_ ?_
      · refine l1_many mt_X12_plain (pc' := 95) (L' := [some (.ref 201), none, some (.int v2), none, some (.int v4), some (.int ((c.1 201 25) / 8)), some (.int x1)]) (st' := [.int ((c.1 201 25) / 8), .int x1, .ref 201]) 3 rfl ?_
        refine l1_callV hQ mt_X12_plain mt_X12_add rfl rfl (o := 201) (ci := 11) (As := [.int x1, .int ((c.1 201 25) / 8)]) (rest := []) rfl rfl rfl rfl rfl rfl (st1 := fun x3 => [.int x3]) (fun _ => rfl) (ok_X12_add hQ c2 x1 ((c.1 201 25) / 8)) (fun x3 c4 => ?_)
        refine l1_many mt_X12_plain (pc' := bif am_cc .ne x3 0 then 103 else 101) (L' := [some (.ref 201), none, some (.int v2), none, some (.int v4), some (.int ((c.1 201 25) / 8)), some (.int x1)]) (st' := []) 1 rfl ?_
        refine l1_bin rfl ?_ ?_
        · refine l1_many mt_X12_plain (pc' := 102) (L' := [some (.ref 201), none, some (.int v2), none, some (.int v4), some (.int ((c.1 201 25) / 8)), some (.int x1)]) (st' := [.int 0]) 1 rfl ?_
          exact l1_ret mt_X12_plain rfl rfl rfl
        · refine l1_many mt_X12_plain (pc' := 60) (L' := [some (.ref 201), none, some (.int v2), none, some (.int (v4 + 1)), some (.int ((c.1 201 25) / 8)), some (.int x1)]) (st' := []) 2 rfl ?_
          refine l1_weak (m := [true, false, true, false, true, false, false]) (L' := [some (.ref 201), none, some (.int v2), none, some (.int (v4 + 1))]) rfl ?_
          exact ih c4 v2 (v4 + 1)
      · refine l1_many mt_X12_plain (pc' := 102) (L' := [some (.ref 201), none, some (.int v2), none, some (.int v4), some (.int ((c.1 201 25) / 8)), some (.int x1)]) (st' := [.int 0]) 1 rfl ?_
        exact l1_ret mt_X12_plain rfl rfl rfl
set_option maxRecDepth 100000 in
theorem en_X12_plain {Q : hS → am_H → Prop} (hQ : l1_em km Q) (N : Nat) (c : hS) (p1 : Int32) : l1_G (wN wI) Q am_i_X12_plain 0 [some (.ref 201), some (.int p1)] [] c (f_X12_plain N c p1) := by
  rw [f_X12_plain]
  refine l1_many mt_X12_plain (pc' := 2) (L' := [some (.ref 201), some (.int p1)]) (st' := [.ref 201, .ref 201]) 2 rfl ?_
  refine l1_getI hQ mt_X12_plain rfl (o := 201) (ci := 11) (k := 25) (a := 0) (b := 0) rfl rfl rfl rfl rfl ?_
  refine l1_many mt_X12_plain (pc' := 14) (L' := [some (.ref 201), some (.int p1)]) (st' := [.int ((((c.1 201 25) + 7) / 8) * 8), .ref 201]) 6 rfl ?_
  refine l1_putI hQ mt_X12_plain rfl (o := 201) (ci := 11) (k := 25) (a := 0) rfl rfl rfl rfl rfl rfl (fun c1 => ?_)
  refine l1_many mt_X12_plain (pc' := 20) (L' := [some (.ref 201), some (.int p1)]) (st' := [.int 16, .ref 201]) 2 rfl ?_
  refine l1_callV hQ mt_X12_plain mt_X12_bits rfl rfl (o := 201) (ci := 11) (As := [.int 16]) (rest := []) rfl rfl rfl rfl rfl rfl (st1 := fun x2 => [.int x2]) (fun _ => rfl) (ok_X12_bits hQ N c1 16) (fun x2 c3 => ?_)
  refine l1_many mt_X12_plain (pc' := 27) (L' := [some (.ref 201), some (.int p1), some (.int x2)]) (st' := [.int 16, .ref 201]) 3 rfl ?_
  refine l1_callV hQ mt_X12_plain mt_X12_bits rfl rfl (o := 201) (ci := 11) (As := [.int 16]) (rest := []) rfl rfl rfl rfl rfl rfl (st1 := fun x4 => [.int x4]) (fun _ => rfl) (ok_X12_bits hQ N c3 16) (fun x4 c5 => ?_)
  refine l1_many mt_X12_plain (pc' := 32) (L' := [some (.ref 201), some (.int p1), some (.int x2), some (.int x4)]) (st' := [.ref 201]) 2 rfl ?_
  refine l1_getI hQ mt_X12_plain rfl (o := 201) (ci := 11) (k := 5) (a := 0) (b := 0) rfl rfl rfl rfl rfl ?_
  refine l1_many mt_X12_plain (pc' := bif am_cc .eq (c5.1 201 5) 0 then 40 else 38) (L' := [some (.ref 201), some (.int p1), some (.int x2), some (.int x4)]) (st' := []) 1 rfl ?_
  refine l1_bif rfl ?_ ?_
  · refine l1_many mt_X12_plain (pc' := bif am_cc .eq (x2 + x4) 65535 then 57 else 49) (L' := [some (.ref 201), some (.int p1), some (.int x2), some (.int x4)]) (st' := []) 5 rfl ?_
    refine l1_bif rfl ?_ ?_
    · refine l1_many mt_X12_plain (pc' := 60) (L' := [some (.ref 201), some (.int p1), some (.int x2), some (.int x4), some (.int 0)]) (st' := []) 2 rfl ?_
      refine l1_weak (m := [true, false, true, false, true, false, false]) (L' := [some (.ref 201), none, some (.int x2), none, some (.int 0)]) rfl ?_
      exact ok_X12_plain_60 hQ N p1 N c5 x2 0
    · refine l1_many mt_X12_plain (pc' := 53) (L' := [some (.ref 201), some (.int p1), some (.int x2), some (.int x4)]) (st' := [.int p1, .int 22, .ref 201]) 3 rfl ?_
      refine l1_callV hQ mt_X12_plain mt_X12_fails rfl rfl (o := 201) (ci := 11) (As := [.int 22, .int p1]) (rest := []) rfl rfl rfl rfl rfl rfl (st1 := fun x6 => [.int x6]) (fun _ => rfl) (ok_X12_fails hQ c5 22 p1) (fun x6 c7 => ?_)
      refine l1_ck (fun hz => ?_)
      exact l1_retZ mt_X12_plain rfl rfl rfl hz
  · refine l1_many mt_X12_plain (pc' := 39) (L' := [some (.ref 201), some (.int p1), some (.int x2), some (.int x4)]) (st' := [.int 0]) 1 rfl ?_
    exact l1_ret mt_X12_plain rfl rfl rfl
theorem ok_X12_plain {Q : hS → am_H → Prop} (hQ : l1_em km Q) (N : Nat) (c : hS) (p1 : Int32) : l1_T wI Q am_i_X12_plain [.ref 201, .int p1] c (f_X12_plain N c p1) := l1_of (en_X12_plain hQ N c p1) ⟨rfl, rfl, trivial⟩
set_option maxRecDepth 100000 in
theorem ok_X12_fullness_5 {Q : hS → am_H → Prop} (hQ : l1_em km Q) (N : Nat) (p1 : Int32) (p2 : Int32) : ∀ n : Nat, ∀ (c : hS) (v3 : Int32) (v4 : Int32), l1_G (wN wI) Q am_i_X12_fullness 5 [some (.ref 201), some (.int p1), some (.int p2), some (.int v3), some (.int v4)] [] c (f_X12_fullness_5 N p1 p2 n c v3 v4) := by
  intro n
  induction n with
  | zero => intro c v3 v4; exact l1_none
  | succ n ih =>
    intro c v3 v4
    rw [f_X12_fullness_5]
    refine l1_many mt_X12_fullness (pc' := bif am_cc .ge v4 (p1 + p2) then 47 else 13) (L' := [some (.ref 201), some (.int p1), some (.int p2), some (.int v3), some (.int v4)]) (st' := []) 5 rfl ?_
    refine l1_bif rfl ?_ ?_
    · refine l1_many mt_X12_fullness (pc' := 48) (L' := [some (.ref 201), some (.int p1), some (.int p2), some (.int v3), some (.int v4)]) (st' := [.int v3]) 1 rfl ?_
      exact l1_ret mt_X12_fullness rfl rfl rfl
    · refine l1_many mt_X12_fullness (pc' := 15) (L' := [some (.ref 201), some (.int p1), some (.int p2), some (.int v3), some (.int v4)]) (st' := [.ref 201, .int v3]) 2 rfl ?_
      refine l1_getR hQ mt_X12_fullness rfl (o := 201) (ci := 11) (k := 27) (a := 0) (b := 0) rfl rfl rfl rfl rfl (q := 212) rfl ?_
      refine l1_many mt_X12_fullness (pc' := 20) (L' := [some (.ref 201), some (.int p1), some (.int p2), some (.int v3), some (.int v4)]) (st' := [.int v4, .ref 212, .int v3]) 1 rfl ?_
      refine l1_ck (fun hx => ?_)
      refine l1_ald hQ mt_X12_fullness rfl (o := 212) rfl hx ?_
      refine l1_many mt_X12_fullness (pc' := bif am_cc .le (c.1 212 v4.toNatClampNeg) 0 then 38 else 24) (L' := [some (.ref 201), some (.int p1), some (.int p2), some (.int v3), some (.int v4)]) (st' := [.int v3]) 1 rfl ?_
      refine l1_bif rfl ?_ ?_
      · refine l1_many mt_X12_fullness (pc' := 5) (L' := [some (.ref 201), some (.int p1), some (.int p2), some (.int (v3 + 0)), some (.int (v4 + 1))]) (st' := []) 5 rfl ?_
        exact ih c (v3 + 0) (v4 + 1)
      · refine l1_many mt_X12_fullness (pc' := 28) (L' := [some (.ref 201), some (.int p1), some (.int p2), some (.int v3), some (.int v4)]) (st' := [.ref 201, .int 32768, .int v3]) 2 rfl ?_
        refine l1_getR hQ mt_X12_fullness rfl (o := 201) (ci := 11) (k := 27) (a := 0) (b := 0) rfl rfl rfl rfl rfl (q := 212) rfl ?_
        refine l1_many mt_X12_fullness (pc' := 33) (L' := [some (.ref 201), some (.int p1), some (.int p2), some (.int v3), some (.int v4)]) (st' := [.int v4, .ref 212, .int 32768, .int v3]) 1 rfl ?_
        refine l1_ck (fun hx => ?_)
        refine l1_ald hQ mt_X12_fullness rfl (o := 212) rfl hx ?_
        refine l1_many mt_X12_fullness (pc' := 5) (L' := [some (.ref 201), some (.int p1), some (.int p2), some (.int (v3 + (j_shr 32768 (c.1 212 v4.toNatClampNeg)))), some (.int (v4 + 1))]) (st' := []) 6 rfl ?_
        exact ih c (v3 + (j_shr 32768 (c.1 212 v4.toNatClampNeg))) (v4 + 1)
set_option maxRecDepth 100000 in
theorem en_X12_fullness {Q : hS → am_H → Prop} (hQ : l1_em km Q) (N : Nat) (c : hS) (p1 : Int32) (p2 : Int32) : l1_G (wN wI) Q am_i_X12_fullness 0 [some (.ref 201), some (.int p1), some (.int p2)] [] c (f_X12_fullness N c p1 p2) := by
  rw [f_X12_fullness]
  refine l1_many mt_X12_fullness (pc' := 5) (L' := [some (.ref 201), some (.int p1), some (.int p2), some (.int 0), some (.int p1)]) (st' := []) 4 rfl ?_
  exact ok_X12_fullness_5 hQ N p1 p2 N c 0 p1
theorem ok_X12_fullness {Q : hS → am_H → Prop} (hQ : l1_em km Q) (N : Nat) (c : hS) (p1 : Int32) (p2 : Int32) : l1_T wI Q am_i_X12_fullness [.ref 201, .int p1, .int p2] c (f_X12_fullness N c p1 p2) := l1_of (en_X12_fullness hQ N c p1 p2) ⟨rfl, rfl, rfl, trivial⟩
set_option maxRecDepth 100000 in
theorem en_X12_order {Q : hS → am_H → Prop} (hQ : l1_em km Q) (c : hS) (p1 : Int32) : l1_G (wN wI) Q am_i_X12_order 0 [some (.ref 201), some (.int p1)] [] c (f_X12_order c p1) := by
  rw [f_X12_order]
  refine l1_many mt_X12_order (pc' := bif am_cc .ge p1 3 then 12 else 5) (L' := [some (.ref 201), some (.int p1)]) (st' := []) 3 rfl ?_
  refine l1_bif rfl ?_ ?_
  · refine l1_many mt_X12_order (pc' := bif am_cc .ne p1 3 then 21 else 17) (L' := [some (.ref 201), some (.int p1)]) (st' := []) 3 rfl ?_
    refine l1_bin rfl ?_ ?_
    · refine l1_many mt_X12_order (pc' := 46) (L' := [some (.ref 201), some (.int p1)]) (st' := [.int 0]) 2 rfl ?_
      exact l1_ret mt_X12_order rfl rfl rfl
    · refine l1_many mt_X12_order (pc' := bif am_cc .ne (j_rem p1 2) 0 then 38 else 27) (L' := [some (.ref 201), some (.int p1)]) (st' := []) 4 rfl ?_
      refine l1_bin rfl ?_ ?_
      · refine l1_many mt_X12_order (pc' := 46) (L' := [some (.ref 201), some (.int p1)]) (st' := [.int (8 + ((p1 - 4) / 2))]) 8 rfl ?_
        exact l1_ret mt_X12_order rfl rfl rfl
      · refine l1_many mt_X12_order (pc' := 46) (L' := [some (.ref 201), some (.int p1)]) (st' := [.int (7 - ((p1 - 5) / 2))]) 7 rfl ?_
        exact l1_ret mt_X12_order rfl rfl rfl
  · refine l1_many mt_X12_order (pc' := 46) (L' := [some (.ref 201), some (.int p1)]) (st' := [.int (16 + p1)]) 4 rfl ?_
    exact l1_ret mt_X12_order rfl rfl rfl
theorem ok_X12_order {Q : hS → am_H → Prop} (hQ : l1_em km Q) (c : hS) (p1 : Int32) : l1_T wI Q am_i_X12_order [.ref 201, .int p1] c (f_X12_order c p1) := l1_of (en_X12_order hQ c p1) ⟨rfl, rfl, trivial⟩
set_option maxRecDepth 100000 in
theorem ok_X12_symbol_83 {Q : hS → am_H → Prop} (hQ : l1_em km Q) (N : Nat) (p1 : Int32) (p2 : Int32) {k48 : hS → Int32 → Int32 → Int32 → Option (Int32 × hS)} (hk48 : ∀ c v3 v4 v5, l1_G (wN wI) Q am_i_X12_symbol 48 [some (.ref 201), some (.int p1), some (.int p2), some (.int v3), some (.int v4), some (.int v5)] [] c (k48 c v3 v4 v5)) : ∀ n : Nat, ∀ (c : hS) (v3 : Int32) (v4 : Int32) (v5 : Int32) (v6 : Int32), l1_G (wN wI) Q am_i_X12_symbol 83 [some (.ref 201), some (.int p1), some (.int p2), some (.int v3), some (.int v4), some (.int v5), some (.int v6)] [] c (f_X12_symbol_83 N p1 p2 k48 n c v3 v4 v5 v6) := by
  intro n
  induction n with
  | zero => intro c v3 v4 v5 v6; exact l1_none
  | succ n ih =>
    intro c v3 v4 v5 v6
    rw [f_X12_symbol_83]
    refine l1_many mt_X12_symbol (pc' := bif am_cc .ge v6 (p1 + p2) then 126 else 91) (L' := [some (.ref 201), some (.int p1), some (.int p2), some (.int v3), some (.int v4), some (.int v5), some (.int v6)]) (st' := []) 5 rfl ?_
    refine l1_bif rfl ?_ ?_
    · refine l1_many mt_X12_symbol (pc' := 48) (L' := [some (.ref 201), some (.int p1), some (.int p2), some (.int v3), some (.int v4), some (.int (v5 + 1)), some (.int v6)]) (st' := []) 2 rfl ?_
      refine l1_weak (m := [true, true, true, true, true, true, false]) (L' := [some (.ref 201), some (.int p1), some (.int p2), some (.int v3), some (.int v4), some (.int (v5 + 1))]) rfl ?_
      exact hk48 c v3 v4 (v5 + 1)
    · refine l1_many mt_X12_symbol (pc' := 92) (L' := [some (.ref 201), some (.int p1), some (.int p2), some (.int v3), some (.int v4), some (.int v5), some (.int v6)]) (st' := [.ref 201]) 1 rfl ?_
      refine l1_getR hQ mt_X12_symbol rfl (o := 201) (ci := 11) (k := 27) (a := 0) (b := 0) rfl rfl rfl rfl rfl (q := 212) rfl ?_
      refine l1_many mt_X12_symbol (pc' := 97) (L' := [some (.ref 201), some (.int p1), some (.int p2), some (.int v3), some (.int v4), some (.int v5), some (.int v6)]) (st' := [.int v6, .ref 212]) 1 rfl ?_
      refine l1_ck (fun hx => ?_)
      refine l1_ald hQ mt_X12_symbol rfl (o := 212) rfl hx ?_
      refine l1_many mt_X12_symbol (pc' := bif am_cc .ne (c.1 212 v6.toNatClampNeg) v5 then 120 else 103) (L' := [some (.ref 201), some (.int p1), some (.int p2), some (.int v3), some (.int v4), some (.int v5), some (.int v6)]) (st' := []) 2 rfl ?_
      refine l1_bin rfl ?_ ?_
      · refine l1_many mt_X12_symbol (pc' := 104) (L' := [some (.ref 201), some (.int p1), some (.int p2), some (.int v3), some (.int v4), some (.int v5), some (.int v6)]) (st' := [.ref 201]) 1 rfl ?_
        refine l1_getR hQ mt_X12_symbol rfl (o := 201) (ci := 11) (k := 28) (a := 0) (b := 0) rfl rfl rfl rfl rfl (q := 213) rfl ?_
        refine l1_many mt_X12_symbol (pc' := 109) (L' := [some (.ref 201), some (.int p1), some (.int p2), some (.int v3), some (.int v4), some (.int v5), some (.int v6)]) (st' := [.int v6, .ref 213]) 1 rfl ?_
        refine l1_ck (fun hx => ?_)
        refine l1_ald hQ mt_X12_symbol rfl (o := 213) rfl hx ?_
        refine l1_many mt_X12_symbol (pc' := bif am_cc .ne (c.1 213 v6.toNatClampNeg) v4 then 120 else 115) (L' := [some (.ref 201), some (.int p1), some (.int p2), some (.int v3), some (.int v4), some (.int v5), some (.int v6)]) (st' := []) 2 rfl ?_
        refine l1_bin rfl ?_ ?_
        · refine l1_many mt_X12_symbol (pc' := 119) (L' := [some (.ref 201), some (.int p1), some (.int p2), some (.int v3), some (.int v4), some (.int v5), some (.int v6)]) (st' := [.int (v6 - p1)]) 3 rfl ?_
          exact l1_ret mt_X12_symbol rfl rfl rfl
        · refine l1_many mt_X12_symbol (pc' := 83) (L' := [some (.ref 201), some (.int p1), some (.int p2), some (.int v3), some (.int v4), some (.int v5), some (.int (v6 + 1))]) (st' := []) 2 rfl ?_
          exact ih c v3 v4 v5 (v6 + 1)
      · refine l1_many mt_X12_symbol (pc' := 83) (L' := [some (.ref 201), some (.int p1), some (.int p2), some (.int v3), some (.int v4), some (.int v5), some (.int (v6 + 1))]) (st' := []) 2 rfl ?_
        exact ih c v3 v4 v5 (v6 + 1)
set_option maxRecDepth 100000 in
theorem ok_X12_symbol_60 {Q : hS → am_H → Prop} (hQ : l1_em km Q) (N : Nat) (p1 : Int32) (p2 : Int32) {k48 : hS → Int32 → Int32 → Int32 → Option (Int32 × hS)} (hk48 : ∀ c v3 v4 v5, l1_G (wN wI) Q am_i_X12_symbol 48 [some (.ref 201), some (.int p1), some (.int p2), some (.int v3), some (.int v4), some (.int v5)] [] c (k48 c v3 v4 v5)) : ∀ (c : hS) (v3 : Int32) (v4 : Int32) (v5 : Int32), l1_G (wN wI) Q am_i_X12_symbol 60 [some (.ref 201), some (.int p1), some (.int p2), some (.int v3), some (.int v4), some (.int v5)] [] c (f_X12_symbol_60 N p1 p2 k48 c v3 v4 v5) := by
  intro c v3 v4 v5
  rw [f_X12_symbol_60]
  refine l1_many mt_X12_symbol (pc' := 65) (L' := [some (.ref 201), some (.int p1), some (.int p2), some (.int v3), some (.int v4), some (.int v5)]) (st' := [.ref 201, .int (j_shl v4 1)]) 4 rfl ?_
  refine l1_callV hQ mt_X12_symbol mt_X12_bit rfl rfl (o := 201) (ci := 11) (As := []) (rest := [.int (j_shl v4 1)]) rfl rfl rfl rfl rfl rfl (st1 := fun x1 => [.int x1, .int (j_shl v4 1)]) (fun _ => rfl) (ok_X12_bit hQ c) (fun x1 c2 => ?_)
  refine l1_many mt_X12_symbol (pc' := 72) (L' := [some (.ref 201), some (.int p1), some (.int p2), some (.int v3), some (.int ((j_shl v4 1) ||| x1)), some (.int v5)]) (st' := [.ref 201]) 3 rfl ?_
  refine l1_getI hQ mt_X12_symbol rfl (o := 201) (ci := 11) (k := 5) (a := 0) (b := 0) rfl rfl rfl rfl rfl ?_
  refine l1_many mt_X12_symbol (pc' := bif am_cc .eq (c2.1 201 5) 0 then 80 else 78) (L' := [some (.ref 201), some (.int p1), some (.int p2), some (.int v3), some (.int ((j_shl v4 1) ||| x1)), some (.int v5)]) (st' := []) 1 rfl ?_
  refine l1_bif rfl ?_ ?_
  · refine l1_many mt_X12_symbol (pc' := 83) (L' := [some (.ref 201), some (.int p1), some (.int p2), some (.int v3), some (.int ((j_shl v4 1) ||| x1)), some (.int v5), some (.int p1)]) (st' := []) 2 rfl ?_
    exact ok_X12_symbol_83 hQ N p1 p2 hk48 N c2 v3 ((j_shl v4 1) ||| x1) v5 p1
  · refine l1_many mt_X12_symbol (pc' := 79) (L' := [some (.ref 201), some (.int p1), some (.int p2), some (.int v3), some (.int ((j_shl v4 1) ||| x1)), some (.int v5)]) (st' := [.int (-1)]) 1 rfl ?_
    exact l1_ret mt_X12_symbol rfl rfl rfl
set_option maxRecDepth 100000 in
theorem ok_X12_symbol_48 {Q : hS → am_H → Prop} (hQ : l1_em km Q) (N : Nat) (p1 : Int32) (p2 : Int32) : ∀ n : Nat, ∀ (c : hS) (v3 : Int32) (v4 : Int32) (v5 : Int32), l1_G (wN wI) Q am_i_X12_symbol 48 [some (.ref 201), some (.int p1), some (.int p2), some (.int v3), some (.int v4), some (.int v5)] [] c (f_X12_symbol_48 N p1 p2 n c v3 v4 v5) := by
  intro n
  induction n with
  | zero => intro c v3 v4 v5; exact l1_none
  | succ n ih =>
    intro c v3 v4 v5
    rw [f_X12_symbol_48]
    refine l1_many mt_X12_symbol (pc' := bif am_cc .le v5 v3 then 60 else 54) (L' := [some (.ref 201), some (.int p1), some (.int p2), some (.int v3), some (.int v4), some (.int v5)]) (st' := []) 3 rfl ?_
    refine l1_bif rfl ?_ ?_
    · exact ok_X12_symbol_60 hQ N p1 p2 ih c v3 v4 v5
    · refine l1_many mt_X12_symbol (pc' := bif am_cc .ne v5 1 then 132 else 60) (L' := [some (.ref 201), some (.int p1), some (.int p2), some (.int v3), some (.int v4), some (.int v5)]) (st' := []) 3 rfl ?_
      refine l1_bin rfl ?_ ?_
      · exact ok_X12_symbol_60 hQ N p1 p2 ih c v3 v4 v5
      · refine l1_many mt_X12_symbol (pc' := 134) (L' := [some (.ref 201), some (.int p1), some (.int p2), some (.int v3), some (.int v4), some (.int v5)]) (st' := [.int (-2)]) 1 rfl ?_
        exact l1_ret mt_X12_symbol rfl rfl rfl
set_option maxRecDepth 100000 in
theorem ok_X12_symbol_5 {Q : hS → am_H → Prop} (hQ : l1_em km Q) (N : Nat) (p1 : Int32) (p2 : Int32) : ∀ n : Nat, ∀ (c : hS) (v3 : Int32) (v4 : Int32), l1_G (wN wI) Q am_i_X12_symbol 5 [some (.ref 201), some (.int p1), some (.int p2), some (.int v3), some (.int v4)] [] c (f_X12_symbol_5 N p1 p2 n c v3 v4) := by
  intro n
  induction n with
  | zero => intro c v3 v4; exact l1_none
  | succ n ih =>
    intro c v3 v4
    rw [f_X12_symbol_5]
    refine l1_many mt_X12_symbol (pc' := bif am_cc .ge v4 (p1 + p2) then 42 else 13) (L' := [some (.ref 201), some (.int p1), some (.int p2), some (.int v3), some (.int v4)]) (st' := []) 5 rfl ?_
    refine l1_bif rfl ?_ ?_
    · refine l1_many mt_X12_symbol (pc' := 48) (L' := [some (.ref 201), some (.int p1), some (.int p2), some (.int v3), some (.int 0), some (.int 1)]) (st' := []) 4 rfl ?_
      exact ok_X12_symbol_48 hQ N p1 p2 N c v3 0 1
    · refine l1_many mt_X12_symbol (pc' := 14) (L' := [some (.ref 201), some (.int p1), some (.int p2), some (.int v3), some (.int v4)]) (st' := [.ref 201]) 1 rfl ?_
      refine l1_getR hQ mt_X12_symbol rfl (o := 201) (ci := 11) (k := 27) (a := 0) (b := 0) rfl rfl rfl rfl rfl (q := 212) rfl ?_
      refine l1_many mt_X12_symbol (pc' := 19) (L' := [some (.ref 201), some (.int p1), some (.int p2), some (.int v3), some (.int v4)]) (st' := [.int v4, .ref 212]) 1 rfl ?_
      refine l1_ck (fun hx => ?_)
      refine l1_ald hQ mt_X12_symbol rfl (o := 212) rfl hx ?_
      refine l1_many mt_X12_symbol (pc' := bif am_cc .le (c.1 212 v4.toNatClampNeg) v3 then 34 else 24) (L' := [some (.ref 201), some (.int p1), some (.int p2), some (.int v3), some (.int v4)]) (st' := []) 2 rfl ?_
      refine l1_bif rfl ?_ ?_
      · refine l1_many mt_X12_symbol (pc' := 5) (L' := [some (.ref 201), some (.int p1), some (.int p2), some (.int v3), some (.int (v4 + 1))]) (st' := []) 4 rfl ?_
        exact ih c v3 (v4 + 1)
      · refine l1_many mt_X12_symbol (pc' := 25) (L' := [some (.ref 201), some (.int p1), some (.int p2), some (.int v3), some (.int v4)]) (st' := [.ref 201]) 1 rfl ?_
        refine l1_getR hQ mt_X12_symbol rfl (o := 201) (ci := 11) (k := 27) (a := 0) (b := 0) rfl rfl rfl rfl rfl (q := 212) rfl ?_
        refine l1_many mt_X12_symbol (pc' := 30) (L' := [some (.ref 201), some (.int p1), some (.int p2), some (.int v3), some (.int v4)]) (st' := [.int v4, .ref 212]) 1 rfl ?_
        refine l1_ck (fun hx => ?_)
        refine l1_ald hQ mt_X12_symbol rfl (o := 212) rfl hx ?_
        refine l1_many mt_X12_symbol (pc' := 5) (L' := [some (.ref 201), some (.int p1), some (.int p2), some (.int (c.1 212 v4.toNatClampNeg)), some (.int (v4 + 1))]) (st' := []) 4 rfl ?_
        exact ih c (c.1 212 v4.toNatClampNeg) (v4 + 1)
set_option maxRecDepth 100000 in
theorem en_X12_symbol {Q : hS → am_H → Prop} (hQ : l1_em km Q) (N : Nat) (c : hS) (p1 : Int32) (p2 : Int32) : l1_G (wN wI) Q am_i_X12_symbol 0 [some (.ref 201), some (.int p1), some (.int p2)] [] c (f_X12_symbol N c p1 p2) := by
  rw [f_X12_symbol]
  refine l1_many mt_X12_symbol (pc' := 5) (L' := [some (.ref 201), some (.int p1), some (.int p2), some (.int 0), some (.int p1)]) (st' := []) 4 rfl ?_
  exact ok_X12_symbol_5 hQ N p1 p2 N c 0 p1
theorem ok_X12_symbol {Q : hS → am_H → Prop} (hQ : l1_em km Q) (N : Nat) (c : hS) (p1 : Int32) (p2 : Int32) : l1_T wI Q am_i_X12_symbol [.ref 201, .int p1, .int p2] c (f_X12_symbol N c p1 p2) := l1_of (en_X12_symbol hQ N c p1 p2) ⟨rfl, rfl, rfl, trivial⟩
end
