/-! THAT THE MACHINE FOLLOWS THEM, printed by gen_l1.py -/
set_option maxRecDepth 100000 in
theorem ok_X12_isFresh_29 {Q : hS → am_H → Prop} (hQ : l1_em km Q) (N : Nat) (p1 : Int32) : ∀ n : Nat, ∀ (c : hS) (v2 : Int32) (v3 : Int32) (v4 : Int32) (v5 : Int32), l1_G (wN wI) Q am_i_X12_isFresh 29 [some (.ref 201), some (.int p1), some (.int v2), some (.int v3), some (.int v4), some (.int v5)] [] c (f_X12_isFresh_29 N p1 n c v2 v3 v4 v5) := by
  intro n
  induction n with
  | zero => intro c v2 v3 v4 v5; exact l1_none
  | succ n ih =>
    intro c v2 v3 v4 v5
    rw [f_X12_isFresh_29]
    refine l1_many mt_X12_isFresh (pc' := bif am_cc .ge v5 p1 then 65 else 35) (L' := [some (.ref 201), some (.int p1), some (.int v2), some (.int v3), some (.int v4), some (.int v5)]) (st' := []) 3 rfl ?_
    refine l1_bif rfl ?_ ?_
    · refine l1_many mt_X12_isFresh (pc' := 67) (L' := [some (.ref 201), some (.int p1), some (.int v2), some (.int v3), some (.int v4), some (.int v5)]) (st' := [.int v2, .ref 201]) 2 rfl ?_
      refine l1_putI hQ mt_X12_isFresh rfl (o := 201) (ci := 11) (k := 19) (a := 0) rfl rfl rfl rfl rfl rfl (fun c1 => ?_)
      refine l1_many mt_X12_isFresh (pc' := 72) (L' := [some (.ref 201), some (.int p1), some (.int v2), some (.int v3), some (.int v4), some (.int v5)]) (st' := [.int v3, .ref 201]) 2 rfl ?_
      refine l1_putI hQ mt_X12_isFresh rfl (o := 201) (ci := 11) (k := 20) (a := 0) rfl rfl rfl rfl rfl rfl (fun c2 => ?_)
      refine l1_many mt_X12_isFresh (pc' := 77) (L' := [some (.ref 201), some (.int p1), some (.int v2), some (.int v3), some (.int v4), some (.int v5)]) (st' := [.int v4]) 1 rfl ?_
      refine l1_ck (fun hz => ?_)
      exact l1_retZ mt_X12_isFresh rfl rfl rfl hz
    · refine l1_many mt_X12_isFresh (pc' := bif am_cc .eq v4 0 then 65 else 40) (L' := [some (.ref 201), some (.int p1), some (.int v2), some (.int v3), some (.int v4), some (.int v5)]) (st' := []) 2 rfl ?_
      refine l1_bif rfl ?_ ?_
      · refine l1_many mt_X12_isFresh (pc' := 67) (L' := [some (.ref 201), some (.int p1), some (.int v2), some (.int v3), some (.int v4), some (.int v5)]) (st' := [.int v2, .ref 201]) 2 rfl ?_
        refine l1_putI hQ mt_X12_isFresh rfl (o := 201) (ci := 11) (k := 19) (a := 0) rfl rfl rfl rfl rfl rfl (fun c3 => ?_)
        refine l1_many mt_X12_isFresh (pc' := 72) (L' := [some (.ref 201), some (.int p1), some (.int v2), some (.int v3), some (.int v4), some (.int v5)]) (st' := [.int v3, .ref 201]) 2 rfl ?_
        refine l1_putI hQ mt_X12_isFresh rfl (o := 201) (ci := 11) (k := 20) (a := 0) rfl rfl rfl rfl rfl rfl (fun c4 => ?_)
        refine l1_many mt_X12_isFresh (pc' := 77) (L' := [some (.ref 201), some (.int p1), some (.int v2), some (.int v3), some (.int v4), some (.int v5)]) (st' := [.int v4]) 1 rfl ?_
        refine l1_ck (fun hz => ?_)
        exact l1_retZ mt_X12_isFresh rfl rfl rfl hz
      · refine l1_many mt_X12_isFresh (pc' := 46) (L' := [some (.ref 201), some (.int p1), some (.int v2), some (.int v3), some (.int v4), some (.int v5)]) (st' := [.int v5, .int v3, .int v2, .int p1, .ref 201]) 5 rfl ?_
        refine l1_callV hQ mt_X12_isFresh mt_X12_isSamePart rfl rfl (o := 201) (ci := 11) (As := [.int p1, .int v2, .int v3, .int v5]) (rest := []) rfl rfl rfl rfl rfl rfl (st1 := fun x5 => [.int x5]) (fun _ => rfl) (ok_X12_isSamePart hQ N c p1 v2 v3 v5) (fun x5 c6 => ?_)
        refine l1_many mt_X12_isFresh (pc' := bif am_cc .ne x5 0 then 56 else 52) (L' := [some (.ref 201), some (.int p1), some (.int v2), some (.int v3), some (.int v4), some (.int v5)]) (st' := []) 1 rfl ?_
        refine l1_bin rfl ?_ ?_
        · refine l1_many mt_X12_isFresh (pc' := 29) (L' := [some (.ref 201), some (.int p1), some (.int v2), some (.int v3), some (.int 1), some (.int (v5 + 1))]) (st' := []) 5 rfl ?_
          exact ih c6 v2 v3 1 (v5 + 1)
        · refine l1_many mt_X12_isFresh (pc' := 29) (L' := [some (.ref 201), some (.int p1), some (.int v2), some (.int v3), some (.int 0), some (.int (v5 + 1))]) (st' := []) 4 rfl ?_
          exact ih c6 v2 v3 0 (v5 + 1)
set_option maxRecDepth 100000 in
theorem en_X12_isFresh {Q : hS → am_H → Prop} (hQ : l1_em km Q) (N : Nat) (c : hS) (p1 : Int32) : l1_G (wN wI) Q am_i_X12_isFresh 0 [some (.ref 201), some (.int p1)] [] c (f_X12_isFresh N c p1) := by
  rw [f_X12_isFresh]
  refine l1_many mt_X12_isFresh (pc' := 2) (L' := [some (.ref 201), some (.int p1)]) (st' := [.int p1, .ref 201]) 2 rfl ?_
  refine l1_callV hQ mt_X12_isFresh mt_X12_findPart rfl rfl (o := 201) (ci := 11) (As := [.int p1]) (rest := []) rfl rfl rfl rfl rfl rfl (st1 := fun _ => []) (fun _ => rfl) (ok_X12_findPart hQ N c p1) (fun _ c1 => ?_)
  refine l1_many mt_X12_isFresh (pc' := 6) (L' := [some (.ref 201), some (.int p1)]) (st' := [.ref 201]) 1 rfl ?_
  refine l1_getI hQ mt_X12_isFresh rfl (o := 201) (ci := 11) (k := 19) (a := 0) (b := 0) rfl rfl rfl rfl rfl ?_
  refine l1_many mt_X12_isFresh (pc' := 11) (L' := [some (.ref 201), some (.int p1), some (.int (c1.1 201 19))]) (st' := [.ref 201]) 2 rfl ?_
  refine l1_getI hQ mt_X12_isFresh rfl (o := 201) (ci := 11) (k := 20) (a := 0) (b := 0) rfl rfl rfl rfl rfl ?_
  refine l1_many mt_X12_isFresh (pc' := bif am_cc .le (c1.1 201 20) 0 then 23 else 19) (L' := [some (.ref 201), some (.int p1), some (.int (c1.1 201 19)), some (.int (c1.1 201 20))]) (st' := []) 3 rfl ?_
  refine l1_bif rfl ?_ ?_
  · refine l1_many mt_X12_isFresh (pc' := 29) (L' := [some (.ref 201), some (.int p1), some (.int (c1.1 201 19)), some (.int (c1.1 201 20)), some (.int 0), some (.int 0)]) (st' := []) 4 rfl ?_
    exact ok_X12_isFresh_29 hQ N p1 N c1 (c1.1 201 19) (c1.1 201 20) 0 0
  · refine l1_many mt_X12_isFresh (pc' := 29) (L' := [some (.ref 201), some (.int p1), some (.int (c1.1 201 19)), some (.int (c1.1 201 20)), some (.int 1), some (.int 0)]) (st' := []) 5 rfl ?_
    exact ok_X12_isFresh_29 hQ N p1 N c1 (c1.1 201 19) (c1.1 201 20) 1 0
theorem ok_X12_isFresh {Q : hS → am_H → Prop} (hQ : l1_em km Q) (N : Nat) (c : hS) (p1 : Int32) : l1_T wI Q am_i_X12_isFresh [.ref 201, .int p1] c (f_X12_isFresh N c p1) := l1_of (en_X12_isFresh hQ N c p1) ⟨rfl, rfl, trivial⟩
set_option maxRecDepth 100000 in
theorem ok_X12_child_89 {Q : hS → am_H → Prop} (hQ : l1_em km Q) (N : Nat) (p1 : Int32) (p2 : Int32) : ∀ (c : hS) (v4 : Int32) (w0 : Int32), l1_G (wN wI) Q am_i_X12_child 89 [some (.ref 201), none, some (.int p2), none, some (.int v4)] [.int w0, .ref 201] c (f_X12_child_89 N p1 p2 c v4 w0) := by
  intro c v4 w0
  rw [f_X12_child_89]
  refine l1_many mt_X12_child (pc' := 90) (L' := [some (.ref 201), none, some (.int p2), none, some (.int v4)]) (st' := [.int 1, .int w0, .ref 201]) 1 rfl ?_
  refine l1_callV hQ mt_X12_child mt_X12_refuses rfl rfl (o := 201) (ci := 11) (As := [.int w0, .int 1]) (rest := []) rfl rfl rfl rfl rfl rfl (st1 := fun x1 => [.int x1]) (fun _ => rfl) (ok_X12_refuses hQ c w0 1) (fun x1 c2 => ?_)
  refine l1_many mt_X12_child (pc' := bif am_cc .eq x1 0 then 100 else 96) (L' := [some (.ref 201), none, some (.int p2), none, some (.int v4)]) (st' := []) 1 rfl ?_
  refine l1_bif rfl ?_ ?_
  · refine l1_many mt_X12_child (pc' := bif am_cc .ne p2 (-1) then 112 else 105) (L' := [some (.ref 201), none, some (.int p2), none, some (.int v4)]) (st' := []) 3 rfl ?_
    refine l1_bin rfl ?_ ?_
    · refine l1_many mt_X12_child (pc' := 106) (L' := [some (.ref 201), none, some (.int p2), none, some (.int v4)]) (st' := [.ref 201]) 1 rfl ?_
      refine l1_getI hQ mt_X12_child rfl (o := 201) (ci := 11) (k := 20) (a := 0) (b := 0) rfl rfl rfl rfl rfl ?_
      refine l1_many mt_X12_child (pc' := 124) (L' := [some (.ref 201), none, some (.int p2), none, some (.int v4)]) (st' := [.int (c2.1 201 20)]) 1 rfl ?_
      exact l1_ret mt_X12_child rfl rfl rfl
    · refine l1_many mt_X12_child (pc' := 116) (L' := [some (.ref 201), none, some (.int p2), none, some (.int v4)]) (st' := [.ref 201, .int v4, .ref 201]) 3 rfl ?_
      refine l1_getI hQ mt_X12_child rfl (o := 201) (ci := 11) (k := 19) (a := 0) (b := 0) rfl rfl rfl rfl rfl ?_
      refine l1_many mt_X12_child (pc' := 121) (L' := [some (.ref 201), none, some (.int p2), none, some (.int v4)]) (st' := [.int ((c2.1 201 19) + p2), .int v4, .ref 201]) 2 rfl ?_
      refine l1_callV hQ mt_X12_child mt_X12_nameAt rfl rfl (o := 201) (ci := 11) (As := [.int v4, .int ((c2.1 201 19) + p2)]) (rest := []) rfl rfl rfl rfl rfl rfl (st1 := fun x3 => [.int x3]) (fun _ => rfl) (ok_X12_nameAt hQ c2 v4 ((c2.1 201 19) + p2)) (fun x3 c4 => ?_)
      exact l1_ret mt_X12_child rfl rfl rfl
  · refine l1_many mt_X12_child (pc' := 124) (L' := [some (.ref 201), none, some (.int p2), none, some (.int v4)]) (st' := [.int 0]) 2 rfl ?_
    exact l1_ret mt_X12_child rfl rfl rfl
set_option maxRecDepth 100000 in
theorem ok_X12_child_145 {Q : hS → am_H → Prop} (hQ : l1_em km Q) (N : Nat) (p1 : Int32) (p2 : Int32) : ∀ (c : hS) (v3 : Int32) (w0 : Int32), l1_G (wN wI) Q am_i_X12_child 145 [none, none, none, some (.int v3)] [.int w0, .ref 201] c (f_X12_child_145 N p1 p2 c v3 w0) := by
  intro c v3 w0
  rw [f_X12_child_145]
  refine l1_many mt_X12_child (pc' := 146) (L' := [none, none, none, some (.int v3)]) (st' := [.int 1, .int w0, .ref 201]) 1 rfl ?_
  refine l1_callV hQ mt_X12_child mt_X12_refuses rfl rfl (o := 201) (ci := 11) (As := [.int w0, .int 1]) (rest := []) rfl rfl rfl rfl rfl rfl (st1 := fun x1 => [.int x1]) (fun _ => rfl) (ok_X12_refuses hQ c w0 1) (fun x1 c2 => ?_)
  refine l1_many mt_X12_child (pc' := bif am_cc .eq x1 0 then 156 else 152) (L' := [none, none, none, some (.int v3)]) (st' := []) 1 rfl ?_
  refine l1_bif rfl ?_ ?_
  · refine l1_many mt_X12_child (pc' := 157) (L' := [none, none, none, some (.int v3)]) (st' := [.int v3]) 1 rfl ?_
    exact l1_ret mt_X12_child rfl rfl rfl
  · refine l1_many mt_X12_child (pc' := 157) (L' := [none, none, none, some (.int v3)]) (st' := [.int 0]) 2 rfl ?_
    exact l1_ret mt_X12_child rfl rfl rfl
set_option maxRecDepth 100000 in
theorem ok_X12_child_39 {Q : hS → am_H → Prop} (hQ : l1_em km Q) (N : Nat) (p1 : Int32) (p2 : Int32) : ∀ n : Nat, ∀ (c : hS) (v3 : Int32) (v4 : Int32), l1_G (wN wI) Q am_i_X12_child 39 [some (.ref 201), some (.int p1), some (.int p2), some (.int v3), some (.int v4)] [] c (f_X12_child_39 N p1 p2 n c v3 v4) := by
  intro n
  induction n with
  | zero => intro c v3 v4; exact l1_none
  | succ n ih =>
    intro c v3 v4
    rw [f_X12_child_39]
    refine l1_many mt_X12_child (pc' := 42) (L' := [some (.ref 201), some (.int p1), some (.int p2), some (.int v3), some (.int v4)]) (st' := [.ref 201, .int v4]) 2 rfl ?_
    refine l1_getI hQ mt_X12_child rfl (o := 201) (ci := 11) (k := 7) (a := 0) (b := 0) rfl rfl rfl rfl rfl ?_
    refine l1_many mt_X12_child (pc' := bif am_cc .ge v4 (c.1 201 7) then 134 else 48) (L' := [some (.ref 201), some (.int p1), some (.int p2), some (.int v3), some (.int v4)]) (st' := []) 1 rfl ?_
    refine l1_bif rfl ?_ ?_
    · refine l1_many mt_X12_child (pc' := bif am_cc .eq p1 (-1) then 144 else 140) (L' := [some (.ref 201), some (.int p1), some (.int p2), some (.int v3), some (.int v4)]) (st' := [.ref 201]) 4 rfl ?_
      refine l1_bif rfl ?_ ?_
      · refine l1_many mt_X12_child (pc' := 145) (L' := [some (.ref 201), some (.int p1), some (.int p2), some (.int v3), some (.int v4)]) (st' := [.int 0, .ref 201]) 1 rfl ?_
        refine l1_weak (m := [false, false, false, true, false]) (L' := [none, none, none, some (.int v3)]) rfl ?_
        exact ok_X12_child_145 hQ N p1 p2 c v3 0
      · refine l1_many mt_X12_child (pc' := 145) (L' := [some (.ref 201), some (.int p1), some (.int p2), some (.int v3), some (.int v4)]) (st' := [.int 1, .ref 201]) 2 rfl ?_
        refine l1_weak (m := [false, false, false, true, false]) (L' := [none, none, none, some (.int v3)]) rfl ?_
        exact ok_X12_child_145 hQ N p1 p2 c v3 1
    · refine l1_many mt_X12_child (pc' := 51) (L' := [some (.ref 201), some (.int p1), some (.int p2), some (.int v3), some (.int v4)]) (st' := [.int v4, .ref 201]) 2 rfl ?_
      refine l1_callV hQ mt_X12_child mt_X12_isFresh rfl rfl (o := 201) (ci := 11) (As := [.int v4]) (rest := []) rfl rfl rfl rfl rfl rfl (st1 := fun x1 => [.int x1]) (fun _ => rfl) (ok_X12_isFresh hQ N c v4) (fun x1 c2 => ?_)
      refine l1_many mt_X12_child (pc' := bif am_cc .ne x1 0 then 60 else 57) (L' := [some (.ref 201), some (.int p1), some (.int p2), some (.int v3), some (.int v4)]) (st' := []) 1 rfl ?_
      refine l1_bin rfl ?_ ?_
      · refine l1_many mt_X12_child (pc' := 39) (L' := [some (.ref 201), some (.int p1), some (.int p2), some (.int v3), some (.int (v4 + 1))]) (st' := []) 3 rfl ?_
        exact ih c2 v3 (v4 + 1)
      · refine l1_many mt_X12_child (pc' := bif am_cc .ne v3 p1 then 125 else 65) (L' := [some (.ref 201), some (.int p1), some (.int p2), some (.int v3), some (.int v4)]) (st' := []) 3 rfl ?_
        refine l1_bin rfl ?_ ?_
        · refine l1_many mt_X12_child (pc' := 72) (L' := [some (.ref 201), some (.int p1), some (.int p2), some (.int v3), some (.int v4)]) (st' := [.ref 201, .long (-1), .long p2.toInt64, .ref 201]) 5 rfl ?_
          refine l1_getI hQ mt_X12_child rfl (o := 201) (ci := 11) (k := 20) (a := 0) (b := 0) rfl rfl rfl rfl rfl ?_
          refine l1_many mt_X12_child (pc' := 78) (L' := [some (.ref 201), some (.int p1), some (.int p2), some (.int v3), some (.int v4)]) (st' := [.long (((c2.1 201 20) - 1).toInt64), .long (-1), .long p2.toInt64, .ref 201]) 3 rfl ?_
          refine l1_callS mt_X12_child mt_X12_in rfl rfl (As := [.long p2.toInt64, .long (-1), .long (((c2.1 201 20) - 1).toInt64)]) (rest := [.ref 201]) rfl rfl rfl (st1 := fun x3 => [.int x3, .ref 201]) (fun _ => rfl) (ok_X12_in hQ c2 p2.toInt64 (-1) (((c2.1 201 20) - 1).toInt64)) (fun x3 c4 => ?_)
          refine l1_many mt_X12_child (pc' := bif am_cc .ne x3 0 then 88 else 84) (L' := [some (.ref 201), some (.int p1), some (.int p2), some (.int v3), some (.int v4)]) (st' := [.ref 201]) 1 rfl ?_
          refine l1_bin rfl ?_ ?_
          · refine l1_many mt_X12_child (pc' := 89) (L' := [some (.ref 201), some (.int p1), some (.int p2), some (.int v3), some (.int v4)]) (st' := [.int 1, .ref 201]) 2 rfl ?_
            refine l1_weak (m := [true, false, true, false, true]) (L' := [some (.ref 201), none, some (.int p2), none, some (.int v4)]) rfl ?_
            exact ok_X12_child_89 hQ N p1 p2 c4 v4 1
          · refine l1_many mt_X12_child (pc' := 89) (L' := [some (.ref 201), some (.int p1), some (.int p2), some (.int v3), some (.int v4)]) (st' := [.int 0, .ref 201]) 1 rfl ?_
            refine l1_weak (m := [true, false, true, false, true]) (L' := [some (.ref 201), none, some (.int p2), none, some (.int v4)]) rfl ?_
            exact ok_X12_child_89 hQ N p1 p2 c4 v4 0
        · refine l1_many mt_X12_child (pc' := 39) (L' := [some (.ref 201), some (.int p1), some (.int p2), some (.int (v3 + 1)), some (.int (v4 + 1))]) (st' := []) 3 rfl ?_
          exact ih c2 (v3 + 1) (v4 + 1)
set_option maxRecDepth 100000 in
theorem ok_X12_child_21 {Q : hS → am_H → Prop} (hQ : l1_em km Q) (N : Nat) (p1 : Int32) (p2 : Int32) : ∀ (c : hS) (w0 : Int32), l1_G (wN wI) Q am_i_X12_child 21 [some (.ref 201), some (.int p1), some (.int p2)] [.int w0, .ref 201] c (f_X12_child_21 N p1 p2 c w0) := by
  intro c w0
  rw [f_X12_child_21]
  refine l1_many mt_X12_child (pc' := 22) (L' := [some (.ref 201), some (.int p1), some (.int p2)]) (st' := [.int 1, .int w0, .ref 201]) 1 rfl ?_
  refine l1_callV hQ mt_X12_child mt_X12_refuses rfl rfl (o := 201) (ci := 11) (As := [.int w0, .int 1]) (rest := []) rfl rfl rfl rfl rfl rfl (st1 := fun x1 => [.int x1]) (fun _ => rfl) (ok_X12_refuses hQ c w0 1) (fun x1 c2 => ?_)
  refine l1_many mt_X12_child (pc' := bif am_cc .eq x1 0 then 30 else 28) (L' := [some (.ref 201), some (.int p1), some (.int p2)]) (st' := []) 1 rfl ?_
  refine l1_bif rfl ?_ ?_
  · refine l1_many mt_X12_child (pc' := 31) (L' := [some (.ref 201), some (.int p1), some (.int p2)]) (st' := [.ref 201]) 1 rfl ?_
    refine l1_callV hQ mt_X12_child mt_X12_takePath rfl rfl (o := 201) (ci := 11) (As := []) (rest := []) rfl rfl rfl rfl rfl rfl (st1 := fun _ => []) (fun _ => rfl) (ok_X12_takePath hQ N c2) (fun _ c3 => ?_)
    refine l1_many mt_X12_child (pc' := 39) (L' := [some (.ref 201), some (.int p1), some (.int p2), some (.int 0), some (.int 0)]) (st' := []) 4 rfl ?_
    exact ok_X12_child_39 hQ N p1 p2 N c3 0 0
  · refine l1_many mt_X12_child (pc' := 29) (L' := [some (.ref 201), some (.int p1), some (.int p2)]) (st' := [.int 0]) 1 rfl ?_
    exact l1_ret mt_X12_child rfl rfl rfl
set_option maxRecDepth 100000 in
theorem ok_X12_child_20 {Q : hS → am_H → Prop} (hQ : l1_em km Q) (N : Nat) (p1 : Int32) (p2 : Int32) : ∀ (c : hS), l1_G (wN wI) Q am_i_X12_child 20 [some (.ref 201), some (.int p1), some (.int p2)] [.ref 201] c (f_X12_child_20 N p1 p2 c) := by
  intro c
  rw [f_X12_child_20]
  refine l1_many mt_X12_child (pc' := 21) (L' := [some (.ref 201), some (.int p1), some (.int p2)]) (st' := [.int 0, .ref 201]) 1 rfl ?_
  exact ok_X12_child_21 hQ N p1 p2 c 0
set_option maxRecDepth 100000 in
theorem en_X12_child {Q : hS → am_H → Prop} (hQ : l1_em km Q) (N : Nat) (c : hS) (p1 : Int32) (p2 : Int32) : l1_G (wN wI) Q am_i_X12_child 0 [some (.ref 201), some (.int p1), some (.int p2)] [] c (f_X12_child N c p1 p2) := by
  rw [f_X12_child]
  refine l1_many mt_X12_child (pc' := 2) (L' := [some (.ref 201), some (.int p1), some (.int p2)]) (st' := [.int 0, .ref 201]) 2 rfl ?_
  refine l1_putI hQ mt_X12_child rfl (o := 201) (ci := 11) (k := 0) (a := 0) rfl rfl rfl rfl rfl rfl (fun c1 => ?_)
  refine l1_many mt_X12_child (pc' := bif am_cc .ne p1 (-1) then 20 else 11) (L' := [some (.ref 201), some (.int p1), some (.int p2)]) (st' := [.ref 201]) 4 rfl ?_
  refine l1_bin rfl ?_ ?_
  · refine l1_many mt_X12_child (pc' := bif am_cc .eq p2 (-1) then 20 else 16) (L' := [some (.ref 201), some (.int p1), some (.int p2)]) (st' := [.ref 201]) 3 rfl ?_
    refine l1_bif rfl ?_ ?_
    · exact ok_X12_child_20 hQ N p1 p2 c1
    · refine l1_many mt_X12_child (pc' := 21) (L' := [some (.ref 201), some (.int p1), some (.int p2)]) (st' := [.int 1, .ref 201]) 2 rfl ?_
      exact ok_X12_child_21 hQ N p1 p2 c1 1
  · exact ok_X12_child_20 hQ N p1 p2 c1
theorem ok_X12_child {Q : hS → am_H → Prop} (hQ : l1_em km Q) (N : Nat) (c : hS) (p1 : Int32) (p2 : Int32) : l1_T wI Q am_i_X12_child [.ref 201, .int p1, .int p2] c (f_X12_child N c p1 p2) := l1_of (en_X12_child hQ N c p1 p2) ⟨rfl, rfl, rfl, trivial⟩
set_option maxRecDepth 100000 in
theorem ok_X12_isRow_41 {Q : hS → am_H → Prop} (hQ : l1_em km Q) (N : Nat) (p1 : Int32) (p2 : Int32) (p3 : Int32) (p4 : Int32) (p5 : Int32) (p6 : Int32) {k3 : hS → Int32 → Option (Int32 × hS)} (hk3 : ∀ c v7, l1_G (wN wI) Q am_i_X12_isRow 3 [some (.ref 201), some (.int p1), some (.int p2), some (.int p3), some (.int p4), some (.int p5), some (.int p6), some (.int v7)] [] c (k3 c v7)) : ∀ (c : hS) (v7 : Int32) (w0 : Int32), l1_G (wN wI) Q am_i_X12_isRow 41 [some (.ref 201), some (.int p1), some (.int p2), some (.int p3), some (.int p4), some (.int p5), some (.int p6), some (.int v7)] [.int w0] c (f_X12_isRow_41 N p1 p2 p3 p4 p5 p6 k3 c v7 w0) := by
  intro c v7 w0
  rw [f_X12_isRow_41]
  refine l1_many mt_X12_isRow (pc' := 44) (L' := [some (.ref 201), some (.int p1), some (.int p2), some (.int p3), some (.int p4), some (.int p5), some (.int p6), some (.int v7), some (.int w0)]) (st' := [.ref 201]) 2 rfl ?_
  refine l1_getR hQ mt_X12_isRow rfl (o := 201) (ci := 11) (k := 3) (a := 0) (b := 0) rfl rfl rfl rfl rfl (q := 203) rfl ?_
  refine l1_many mt_X12_isRow (pc' := 51) (L' := [some (.ref 201), some (.int p1), some (.int p2), some (.int p3), some (.int p4), some (.int p5), some (.int p6), some (.int v7), some (.int w0)]) (st' := [.int (p1 + v7), .ref 203]) 3 rfl ?_
  refine l1_ck (fun hx => ?_)
  refine l1_ald hQ mt_X12_isRow rfl (o := 203) rfl hx ?_
  refine l1_many mt_X12_isRow (pc' := bif am_cc .eq (c.1 203 (p1 + v7).toNatClampNeg) w0 then 68 else 57) (L' := [some (.ref 201), some (.int p1), some (.int p2), some (.int p3), some (.int p4), some (.int p5), some (.int p6), some (.int v7), some (.int w0)]) (st' := []) 2 rfl ?_
  refine l1_bif rfl ?_ ?_
  · refine l1_many mt_X12_isRow (pc' := 3) (L' := [some (.ref 201), some (.int p1), some (.int p2), some (.int p3), some (.int p4), some (.int p5), some (.int p6), some (.int (v7 + 1)), some (.int w0)]) (st' := []) 2 rfl ?_
    refine l1_weak (m := [true, true, true, true, true, true, true, true, false]) (L' := [some (.ref 201), some (.int p1), some (.int p2), some (.int p3), some (.int p4), some (.int p5), some (.int p6), some (.int (v7 + 1))]) rfl ?_
    exact hk3 c (v7 + 1)
  · refine l1_many mt_X12_isRow (pc' := 64) (L' := [some (.ref 201), some (.int p1), some (.int p2), some (.int p3), some (.int p4), some (.int p5), some (.int p6), some (.int v7), some (.int w0)]) (st' := [.int (p1 + v7), .int p6, .ref 201]) 5 rfl ?_
    refine l1_callV hQ mt_X12_isRow mt_X12_fails rfl rfl (o := 201) (ci := 11) (As := [.int p6, .int (p1 + v7)]) (rest := []) rfl rfl rfl rfl rfl rfl (st1 := fun x1 => [.int x1]) (fun _ => rfl) (ok_X12_fails hQ c p6 (p1 + v7)) (fun x1 c2 => ?_)
    refine l1_ck (fun hz => ?_)
    exact l1_retZ mt_X12_isRow rfl rfl rfl hz
set_option maxRecDepth 100000 in
theorem ok_X12_isRow_3 {Q : hS → am_H → Prop} (hQ : l1_em km Q) (N : Nat) (p1 : Int32) (p2 : Int32) (p3 : Int32) (p4 : Int32) (p5 : Int32) (p6 : Int32) : ∀ n : Nat, ∀ (c : hS) (v7 : Int32), l1_G (wN wI) Q am_i_X12_isRow 3 [some (.ref 201), some (.int p1), some (.int p2), some (.int p3), some (.int p4), some (.int p5), some (.int p6), some (.int v7)] [] c (f_X12_isRow_3 N p1 p2 p3 p4 p5 p6 n c v7) := by
  intro n
  induction n with
  | zero => intro c v7; exact l1_none
  | succ n ih =>
    intro c v7
    rw [f_X12_isRow_3]
    refine l1_many mt_X12_isRow (pc' := bif am_cc .ge v7 4 then 74 else 9) (L' := [some (.ref 201), some (.int p1), some (.int p2), some (.int p3), some (.int p4), some (.int p5), some (.int p6), some (.int v7)]) (st' := []) 3 rfl ?_
    refine l1_bif rfl ?_ ?_
    · refine l1_many mt_X12_isRow (pc' := 75) (L' := [some (.ref 201), some (.int p1), some (.int p2), some (.int p3), some (.int p4), some (.int p5), some (.int p6), some (.int v7)]) (st' := [.int 1]) 1 rfl ?_
      exact l1_ret mt_X12_isRow rfl rfl rfl
    · refine l1_many mt_X12_isRow (pc' := bif am_cc .ne v7 0 then 18 else 14) (L' := [some (.ref 201), some (.int p1), some (.int p2), some (.int p3), some (.int p4), some (.int p5), some (.int p6), some (.int v7)]) (st' := []) 2 rfl ?_
      refine l1_bin rfl ?_ ?_
      · refine l1_many mt_X12_isRow (pc' := 41) (L' := [some (.ref 201), some (.int p1), some (.int p2), some (.int p3), some (.int p4), some (.int p5), some (.int p6), some (.int v7)]) (st' := [.int p2]) 2 rfl ?_
        exact ok_X12_isRow_41 hQ N p1 p2 p3 p4 p5 p6 ih c v7 p2
      · refine l1_many mt_X12_isRow (pc' := bif am_cc .ne v7 1 then 28 else 24) (L' := [some (.ref 201), some (.int p1), some (.int p2), some (.int p3), some (.int p4), some (.int p5), some (.int p6), some (.int v7)]) (st' := []) 3 rfl ?_
        refine l1_bin rfl ?_ ?_
        · refine l1_many mt_X12_isRow (pc' := 41) (L' := [some (.ref 201), some (.int p1), some (.int p2), some (.int p3), some (.int p4), some (.int p5), some (.int p6), some (.int v7)]) (st' := [.int p3]) 2 rfl ?_
          exact ok_X12_isRow_41 hQ N p1 p2 p3 p4 p5 p6 ih c v7 p3
        · refine l1_many mt_X12_isRow (pc' := bif am_cc .ne v7 2 then 39 else 34) (L' := [some (.ref 201), some (.int p1), some (.int p2), some (.int p3), some (.int p4), some (.int p5), some (.int p6), some (.int v7)]) (st' := []) 3 rfl ?_
          refine l1_bin rfl ?_ ?_
          · refine l1_many mt_X12_isRow (pc' := 41) (L' := [some (.ref 201), some (.int p1), some (.int p2), some (.int p3), some (.int p4), some (.int p5), some (.int p6), some (.int v7)]) (st' := [.int p4]) 2 rfl ?_
            exact ok_X12_isRow_41 hQ N p1 p2 p3 p4 p5 p6 ih c v7 p4
          · refine l1_many mt_X12_isRow (pc' := 41) (L' := [some (.ref 201), some (.int p1), some (.int p2), some (.int p3), some (.int p4), some (.int p5), some (.int p6), some (.int v7)]) (st' := [.int p5]) 1 rfl ?_
            exact ok_X12_isRow_41 hQ N p1 p2 p3 p4 p5 p6 ih c v7 p5
set_option maxRecDepth 100000 in
theorem en_X12_isRow {Q : hS → am_H → Prop} (hQ : l1_em km Q) (N : Nat) (c : hS) (p1 : Int32) (p2 : Int32) (p3 : Int32) (p4 : Int32) (p5 : Int32) (p6 : Int32) : l1_G (wN wI) Q am_i_X12_isRow 0 [some (.ref 201), some (.int p1), some (.int p2), some (.int p3), some (.int p4), some (.int p5), some (.int p6)] [] c (f_X12_isRow N c p1 p2 p3 p4 p5 p6) := by
  rw [f_X12_isRow]
  refine l1_many mt_X12_isRow (pc' := 3) (L' := [some (.ref 201), some (.int p1), some (.int p2), some (.int p3), some (.int p4), some (.int p5), some (.int p6), some (.int 0)]) (st' := []) 2 rfl ?_
  exact ok_X12_isRow_3 hQ N p1 p2 p3 p4 p5 p6 N c 0
theorem ok_X12_isRow {Q : hS → am_H → Prop} (hQ : l1_em km Q) (N : Nat) (c : hS) (p1 : Int32) (p2 : Int32) (p3 : Int32) (p4 : Int32) (p5 : Int32) (p6 : Int32) : l1_T wI Q am_i_X12_isRow [.ref 201, .int p1, .int p2, .int p3, .int p4, .int p5, .int p6] c (f_X12_isRow N c p1 p2 p3 p4 p5 p6) := l1_of (en_X12_isRow hQ N c p1 p2 p3 p4 p5 p6) ⟨rfl, rfl, rfl, rfl, rfl, rfl, rfl, trivial⟩
set_option maxRecDepth 100000 in
theorem en_X12_reaches {Q : hS → am_H → Prop} (hQ : l1_em km Q) (c : hS) (p1 : Int64) : l1_G (wN wI) Q am_i_X12_reaches 0 [some (.ref 201), some (.long p1)] [] c (f_X12_reaches c p1) := by
  rw [f_X12_reaches]
  refine l1_many mt_X12_reaches (pc' := 2) (L' := [some (.ref 201), some (.long p1)]) (st' := [.ref 201, .long p1]) 2 rfl ?_
  refine l1_getI hQ mt_X12_reaches rfl (o := 201) (ci := 11) (k := 4) (a := 0) (b := 0) rfl rfl rfl rfl rfl ?_
  refine l1_many mt_X12_reaches (pc' := bif am_cc .le (j_cmp p1 ((c.1 201 4).toInt64)) 0 then 22 else 10) (L' := [some (.ref 201), some (.long p1)]) (st' := []) 3 rfl ?_
  refine l1_bif rfl ?_ ?_
  · refine l1_many mt_X12_reaches (pc' := 27) (L' := [some (.ref 201), some (.long p1)]) (st' := [.int 1]) 2 rfl ?_
    exact l1_ret mt_X12_reaches rfl rfl rfl
  · refine l1_many mt_X12_reaches (pc' := 13) (L' := [some (.ref 201), some (.long p1)]) (st' := [.ref 201, .int 1, .ref 201]) 3 rfl ?_
    refine l1_getI hQ mt_X12_reaches rfl (o := 201) (ci := 11) (k := 4) (a := 0) (b := 0) rfl rfl rfl rfl rfl ?_
    refine l1_callV hQ mt_X12_reaches mt_X12_fails rfl rfl (o := 201) (ci := 11) (As := [.int 1, .int (c.1 201 4)]) (rest := []) rfl rfl rfl rfl rfl rfl (st1 := fun x1 => [.int x1]) (fun _ => rfl) (ok_X12_fails hQ c 1 (c.1 201 4)) (fun x1 c2 => ?_)
    refine l1_many mt_X12_reaches (pc' := bif am_cc .eq x1 0 then 26 else 22) (L' := [some (.ref 201), some (.long p1)]) (st' := []) 1 rfl ?_
    refine l1_bif rfl ?_ ?_
    · refine l1_many mt_X12_reaches (pc' := 27) (L' := [some (.ref 201), some (.long p1)]) (st' := [.int 0]) 1 rfl ?_
      exact l1_ret mt_X12_reaches rfl rfl rfl
    · refine l1_many mt_X12_reaches (pc' := 27) (L' := [some (.ref 201), some (.long p1)]) (st' := [.int 1]) 2 rfl ?_
      exact l1_ret mt_X12_reaches rfl rfl rfl
theorem ok_X12_reaches {Q : hS → am_H → Prop} (hQ : l1_em km Q) (c : hS) (p1 : Int64) : l1_T wI Q am_i_X12_reaches [.ref 201, .long p1] c (f_X12_reaches c p1) := l1_of (en_X12_reaches hQ c p1) ⟨rfl, rfl, trivial⟩
set_option maxRecDepth 100000 in
theorem ok_X12_areZeros_2 {Q : hS → am_H → Prop} (hQ : l1_em km Q) (N : Nat) (p1 : Int32) : ∀ n : Nat, ∀ (c : hS) (v2 : Int32), l1_G (wN wI) Q am_i_X12_areZeros 2 [some (.ref 201), none, some (.int v2)] [] c (f_X12_areZeros_2 N p1 n c v2) := by
  intro n
  induction n with
  | zero => intro c v2; exact l1_none
  | succ n ih =>
    intro c v2
    rw [f_X12_areZeros_2]
    refine l1_many mt_X12_areZeros (pc' := 4) (L' := [some (.ref 201), none, some (.int v2)]) (st' := [.ref 201, .int v2]) 2 rfl ?_
    refine l1_getI hQ mt_X12_areZeros rfl (o := 201) (ci := 11) (k := 4) (a := 0) (b := 0) rfl rfl rfl rfl rfl ?_
    refine l1_many mt_X12_areZeros (pc' := bif am_cc .ge v2 (c.1 201 4) then 32 else 10) (L' := [some (.ref 201), none, some (.int v2)]) (st' := []) 1 rfl ?_
    refine l1_bif rfl ?_ ?_
    · refine l1_many mt_X12_areZeros (pc' := 33) (L' := [some (.ref 201), none, some (.int v2)]) (st' := [.int 1]) 1 rfl ?_
      exact l1_ret mt_X12_areZeros rfl rfl rfl
    · refine l1_many mt_X12_areZeros (pc' := 11) (L' := [some (.ref 201), none, some (.int v2)]) (st' := [.ref 201]) 1 rfl ?_
      refine l1_getR hQ mt_X12_areZeros rfl (o := 201) (ci := 11) (k := 3) (a := 0) (b := 0) rfl rfl rfl rfl rfl (q := 203) rfl ?_
      refine l1_many mt_X12_areZeros (pc' := 15) (L' := [some (.ref 201), none, some (.int v2)]) (st' := [.int v2, .ref 203]) 1 rfl ?_
      refine l1_ck (fun hx => ?_)
      refine l1_ald hQ mt_X12_areZeros rfl (o := 203) rfl hx ?_
      refine l1_many mt_X12_areZeros (pc' := bif am_cc .eq (c.1 203 v2.toNatClampNeg) 0 then 26 else 19) (L' := [some (.ref 201), none, some (.int v2)]) (st' := []) 1 rfl ?_
      refine l1_bif rfl ?_ ?_
      · refine l1_many mt_X12_areZeros (pc' := 2) (L' := [some (.ref 201), none, some (.int (v2 + 1))]) (st' := []) 2 rfl ?_
        exact ih c (v2 + 1)
      · refine l1_many mt_X12_areZeros (pc' := 22) (L' := [some (.ref 201), none, some (.int v2)]) (st' := [.int v2, .int 2, .ref 201]) 3 rfl ?_
        refine l1_callV hQ mt_X12_areZeros mt_X12_fails rfl rfl (o := 201) (ci := 11) (As := [.int 2, .int v2]) (rest := []) rfl rfl rfl rfl rfl rfl (st1 := fun x1 => [.int x1]) (fun _ => rfl) (ok_X12_fails hQ c 2 v2) (fun x1 c2 => ?_)
        refine l1_ck (fun hz => ?_)
        exact l1_retZ mt_X12_areZeros rfl rfl rfl hz
set_option maxRecDepth 100000 in
theorem en_X12_areZeros {Q : hS → am_H → Prop} (hQ : l1_em km Q) (N : Nat) (c : hS) (p1 : Int32) : l1_G (wN wI) Q am_i_X12_areZeros 0 [some (.ref 201), some (.int p1)] [] c (f_X12_areZeros N c p1) := by
  rw [f_X12_areZeros]
  refine l1_many mt_X12_areZeros (pc' := 2) (L' := [some (.ref 201), some (.int p1), some (.int p1)]) (st' := []) 2 rfl ?_
  refine l1_weak (m := [true, false, true]) (L' := [some (.ref 201), none, some (.int p1)]) rfl ?_
  exact ok_X12_areZeros_2 hQ N p1 N c p1
theorem ok_X12_areZeros {Q : hS → am_H → Prop} (hQ : l1_em km Q) (N : Nat) (c : hS) (p1 : Int32) : l1_T wI Q am_i_X12_areZeros [.ref 201, .int p1] c (f_X12_areZeros N c p1) := l1_of (en_X12_areZeros hQ N c p1) ⟨rfl, rfl, trivial⟩
set_option maxRecDepth 100000 in
theorem ok_X12_comes_43 {Q : hS → am_H → Prop} (hQ : l1_em km Q) (N : Nat) (p1 : Int32) : ∀ (c : hS), l1_G (wN wI) Q am_i_X12_comes 43 [some (.ref 201)] [] c (f_X12_comes_43 N p1 c) := by
  intro c
  rw [f_X12_comes_43]
  refine l1_many mt_X12_comes (pc' := 48) (L' := [some (.ref 201)]) (st' := [.ref 201, .int 17, .ref 201, .ref 201]) 4 rfl ?_
  refine l1_getI hQ mt_X12_comes rfl (o := 201) (ci := 11) (k := 8) (a := 0) (b := 0) rfl rfl rfl rfl rfl ?_
  refine l1_callV hQ mt_X12_comes mt_X12_stand rfl rfl (o := 201) (ci := 11) (As := [.int 17, .int (c.1 201 8)]) (rest := [.ref 201]) rfl rfl rfl rfl rfl rfl (st1 := fun x1 => [.int x1, .ref 201]) (fun _ => rfl) (ok_X12_stand hQ N c 17 (c.1 201 8)) (fun x1 c2 => ?_)
  refine l1_putI hQ mt_X12_comes rfl (o := 201) (ci := 11) (k := 8) (a := 0) rfl rfl rfl rfl rfl rfl (fun c3 => ?_)
  refine l1_many mt_X12_comes (pc' := 58) (L' := [some (.ref 201)]) (st' := [.int 1]) 1 rfl ?_
  exact l1_ret mt_X12_comes rfl rfl rfl
set_option maxRecDepth 100000 in
theorem en_X12_comes {Q : hS → am_H → Prop} (hQ : l1_em km Q) (N : Nat) (c : hS) (p1 : Int32) : l1_G (wN wI) Q am_i_X12_comes 0 [some (.ref 201), some (.int p1)] [] c (f_X12_comes N c p1) := by
  rw [f_X12_comes]
  refine l1_many mt_X12_comes (pc' := 4) (L' := [some (.ref 201), some (.int p1)]) (st' := [.ref 201, .int 17, .ref 201]) 3 rfl ?_
  refine l1_getI hQ mt_X12_comes rfl (o := 201) (ci := 11) (k := 8) (a := 0) (b := 0) rfl rfl rfl rfl rfl ?_
  refine l1_callV hQ mt_X12_comes mt_X12_isInTheWay rfl rfl (o := 201) (ci := 11) (As := [.int 17, .int (c.1 201 8)]) (rest := []) rfl rfl rfl rfl rfl rfl (st1 := fun x1 => [.int x1]) (fun _ => rfl) (ok_X12_isInTheWay hQ N c 17 (c.1 201 8)) (fun x1 c2 => ?_)
  refine l1_many mt_X12_comes (pc' := bif am_cc .ne x1 0 then 35 else 13) (L' := [some (.ref 201), some (.int p1)]) (st' := []) 1 rfl ?_
  refine l1_bin rfl ?_ ?_
  · refine l1_many mt_X12_comes (pc' := 14) (L' := [some (.ref 201), some (.int p1)]) (st' := [.ref 201]) 1 rfl ?_
    refine l1_getI hQ mt_X12_comes rfl (o := 201) (ci := 11) (k := 8) (a := 0) (b := 0) rfl rfl rfl rfl rfl ?_
    refine l1_many mt_X12_comes (pc' := bif am_cc .ne (c2.1 201 8) 16 then 43 else 22) (L' := [some (.ref 201), some (.int p1)]) (st' := []) 2 rfl ?_
    refine l1_bin rfl ?_ ?_
    · refine l1_many mt_X12_comes (pc' := 26) (L' := [some (.ref 201), some (.int p1)]) (st' := [.ref 201, .int 17, .ref 201]) 3 rfl ?_
      refine l1_getI hQ mt_X12_comes rfl (o := 201) (ci := 11) (k := 8) (a := 0) (b := 0) rfl rfl rfl rfl rfl ?_
      refine l1_callV hQ mt_X12_comes mt_X12_seek rfl rfl (o := 201) (ci := 11) (As := [.int 17, .int (c2.1 201 8)]) (rest := []) rfl rfl rfl rfl rfl rfl (st1 := fun x5 => [.int x5]) (fun _ => rfl) (ok_X12_seek hQ N c2 17 (c2.1 201 8)) (fun x5 c6 => ?_)
      refine l1_many mt_X12_comes (pc' := bif am_cc .ge x5 0 then 43 else 35) (L' := [some (.ref 201), some (.int p1)]) (st' := []) 1 rfl ?_
      refine l1_bif rfl ?_ ?_
      · refine l1_weak (m := [true, false]) (L' := [some (.ref 201)]) rfl ?_
        exact ok_X12_comes_43 hQ N p1 c6
      · refine l1_many mt_X12_comes (pc' := 39) (L' := [some (.ref 201), some (.int p1)]) (st' := [.int p1, .int 11, .ref 201]) 3 rfl ?_
        refine l1_callV hQ mt_X12_comes mt_X12_fails rfl rfl (o := 201) (ci := 11) (As := [.int 11, .int p1]) (rest := []) rfl rfl rfl rfl rfl rfl (st1 := fun x7 => [.int x7]) (fun _ => rfl) (ok_X12_fails hQ c6 11 p1) (fun x7 c8 => ?_)
        refine l1_ck (fun hz => ?_)
        exact l1_retZ mt_X12_comes rfl rfl rfl hz
    · refine l1_weak (m := [true, false]) (L' := [some (.ref 201)]) rfl ?_
      exact ok_X12_comes_43 hQ N p1 c2
  · refine l1_many mt_X12_comes (pc' := 39) (L' := [some (.ref 201), some (.int p1)]) (st' := [.int p1, .int 11, .ref 201]) 3 rfl ?_
    refine l1_callV hQ mt_X12_comes mt_X12_fails rfl rfl (o := 201) (ci := 11) (As := [.int 11, .int p1]) (rest := []) rfl rfl rfl rfl rfl rfl (st1 := fun x3 => [.int x3]) (fun _ => rfl) (ok_X12_fails hQ c2 11 p1) (fun x3 c4 => ?_)
    refine l1_ck (fun hz => ?_)
    exact l1_retZ mt_X12_comes rfl rfl rfl hz
theorem ok_X12_comes {Q : hS → am_H → Prop} (hQ : l1_em km Q) (N : Nat) (c : hS) (p1 : Int32) : l1_T wI Q am_i_X12_comes [.ref 201, .int p1] c (f_X12_comes N c p1) := l1_of (en_X12_comes hQ N c p1) ⟨rfl, rfl, trivial⟩
set_option maxRecDepth 100000 in
theorem ok_X12_takeBytes_7 {Q : hS → am_H → Prop} (hQ : l1_em km Q) (N : Nat) (p1 : Int32) (p2 : Int32) : ∀ n : Nat, ∀ (c : hS) (v3 : Int32), l1_G (wN wV) Q am_i_X12_takeBytes 7 [some (.ref 201), some (.int p1), some (.int p2), some (.int v3)] [] c (f_X12_takeBytes_7 N p1 p2 n c v3) := by
  intro n
  induction n with
  | zero => intro c v3; exact l1_none
  | succ n ih =>
    intro c v3
    rw [f_X12_takeBytes_7]
    refine l1_many mt_X12_takeBytes (pc' := bif am_cc .ge v3 p2 then 32 else 12) (L' := [some (.ref 201), some (.int p1), some (.int p2), some (.int v3)]) (st' := []) 3 rfl ?_
    refine l1_bif rfl ?_ ?_
    · exact l1_ret mt_X12_takeBytes rfl rfl rfl
    · refine l1_many mt_X12_takeBytes (pc' := 13) (L' := [some (.ref 201), some (.int p1), some (.int p2), some (.int v3)]) (st' := [.ref 201]) 1 rfl ?_
      refine l1_getR hQ mt_X12_takeBytes rfl (o := 201) (ci := 11) (k := 17) (a := 0) (b := 0) rfl rfl rfl rfl rfl (q := 210) rfl ?_
      refine l1_many mt_X12_takeBytes (pc' := 18) (L' := [some (.ref 201), some (.int p1), some (.int p2), some (.int v3)]) (st' := [.ref 201, .int v3, .ref 210]) 2 rfl ?_
      refine l1_getR hQ mt_X12_takeBytes rfl (o := 201) (ci := 11) (k := 3) (a := 0) (b := 0) rfl rfl rfl rfl rfl (q := 203) rfl ?_
      refine l1_many mt_X12_takeBytes (pc' := 24) (L' := [some (.ref 201), some (.int p1), some (.int p2), some (.int v3)]) (st' := [.int (p1 + v3), .ref 203, .int v3, .ref 210]) 3 rfl ?_
      refine l1_ck (fun hx => ?_)
      refine l1_ald hQ mt_X12_takeBytes rfl (o := 203) rfl hx ?_
      refine l1_ck (fun hx => ?_)
      refine l1_ast hQ mt_X12_takeBytes rfl (o := 210) rfl hx (fun c1 => ?_)
      refine l1_many mt_X12_takeBytes (pc' := 7) (L' := [some (.ref 201), some (.int p1), some (.int p2), some (.int (v3 + 1))]) (st' := []) 2 rfl ?_
      exact ih c1 (v3 + 1)
set_option maxRecDepth 100000 in
theorem en_X12_takeBytes {Q : hS → am_H → Prop} (hQ : l1_em km Q) (N : Nat) (c : hS) (p1 : Int32) (p2 : Int32) : l1_G (wN wV) Q am_i_X12_takeBytes 0 [some (.ref 201), some (.int p1), some (.int p2)] [] c (f_X12_takeBytes N c p1 p2) := by
  rw [f_X12_takeBytes]
  refine l1_many mt_X12_takeBytes (pc' := 2) (L' := [some (.ref 201), some (.int p1), some (.int p2)]) (st' := [.int p2, .ref 201]) 2 rfl ?_
  refine l1_putI hQ mt_X12_takeBytes rfl (o := 201) (ci := 11) (k := 16) (a := 0) rfl rfl rfl rfl rfl rfl (fun c1 => ?_)
  refine l1_many mt_X12_takeBytes (pc' := 7) (L' := [some (.ref 201), some (.int p1), some (.int p2), some (.int 0)]) (st' := []) 2 rfl ?_
  exact ok_X12_takeBytes_7 hQ N p1 p2 N c1 0
theorem ok_X12_takeBytes {Q : hS → am_H → Prop} (hQ : l1_em km Q) (N : Nat) (c : hS) (p1 : Int32) (p2 : Int32) : l1_T wV Q am_i_X12_takeBytes [.ref 201, .int p1, .int p2] c (f_X12_takeBytes N c p1 p2) := l1_of (en_X12_takeBytes hQ N c p1 p2) ⟨rfl, rfl, rfl, trivial⟩
set_option maxRecDepth 100000 in
theorem ok_X12_readOctal_7 {Q : hS → am_H → Prop} (hQ : l1_em km Q) (N : Nat) (p1 : Int32) (p2 : Int32) : ∀ n : Nat, ∀ (c : hS) (v3 : Int32), l1_G (wN wI) Q am_i_X12_readOctal 7 [some (.ref 201), some (.int p1), some (.int p2), some (.int v3)] [] c (f_X12_readOctal_7 N p1 p2 n c v3) := by
  intro n
  induction n with
  | zero => intro c v3; exact l1_none
  | succ n ih =>
    intro c v3
    rw [f_X12_readOctal_7]
    refine l1_many mt_X12_readOctal (pc' := bif am_cc .ge v3 (p2 - 1) then 77 else 14) (L' := [some (.ref 201), some (.int p1), some (.int p2), some (.int v3)]) (st' := []) 5 rfl ?_
    refine l1_bif rfl ?_ ?_
    · refine l1_many mt_X12_readOctal (pc' := 78) (L' := [some (.ref 201), some (.int p1), some (.int p2), some (.int v3)]) (st' := [.ref 201]) 1 rfl ?_
      refine l1_getR hQ mt_X12_readOctal rfl (o := 201) (ci := 11) (k := 3) (a := 0) (b := 0) rfl rfl rfl rfl rfl (q := 203) rfl ?_
      refine l1_many mt_X12_readOctal (pc' := 86) (L' := [some (.ref 201), some (.int p1), some (.int p2), some (.int v3)]) (st' := [.int ((p1 + p2) - 1), .ref 203]) 5 rfl ?_
      refine l1_ck (fun hx => ?_)
      refine l1_ald hQ mt_X12_readOctal rfl (o := 203) rfl hx ?_
      refine l1_many mt_X12_readOctal (pc' := bif am_cc .eq (c.1 203 ((p1 + p2) - 1).toNatClampNeg) 0 then 104 else 90) (L' := [some (.ref 201), some (.int p1), some (.int p2), some (.int v3)]) (st' := []) 1 rfl ?_
      refine l1_bif rfl ?_ ?_
      · refine l1_many mt_X12_readOctal (pc' := 109) (L' := [some (.ref 201), some (.int p1), some (.int p2), some (.int v3)]) (st' := [.int 1]) 2 rfl ?_
        exact l1_ret mt_X12_readOctal rfl rfl rfl
      · refine l1_many mt_X12_readOctal (pc' := 98) (L' := [some (.ref 201), some (.int p1), some (.int p2), some (.int v3)]) (st' := [.int ((p1 + p2) - 1), .int 6, .ref 201]) 7 rfl ?_
        refine l1_callV hQ mt_X12_readOctal mt_X12_fails rfl rfl (o := 201) (ci := 11) (As := [.int 6, .int ((p1 + p2) - 1)]) (rest := []) rfl rfl rfl rfl rfl rfl (st1 := fun x1 => [.int x1]) (fun _ => rfl) (ok_X12_fails hQ c 6 ((p1 + p2) - 1)) (fun x1 c2 => ?_)
        refine l1_many mt_X12_readOctal (pc' := bif am_cc .eq x1 0 then 108 else 104) (L' := [some (.ref 201), some (.int p1), some (.int p2), some (.int v3)]) (st' := []) 1 rfl ?_
        refine l1_bif rfl ?_ ?_
        · refine l1_many mt_X12_readOctal (pc' := 109) (L' := [some (.ref 201), some (.int p1), some (.int p2), some (.int v3)]) (st' := [.int 0]) 1 rfl ?_
          exact l1_ret mt_X12_readOctal rfl rfl rfl
        · refine l1_many mt_X12_readOctal (pc' := 109) (L' := [some (.ref 201), some (.int p1), some (.int p2), some (.int v3)]) (st' := [.int 1]) 2 rfl ?_
          exact l1_ret mt_X12_readOctal rfl rfl rfl
    · refine l1_many mt_X12_readOctal (pc' := 15) (L' := [some (.ref 201), some (.int p1), some (.int p2), some (.int v3)]) (st' := [.ref 201]) 1 rfl ?_
      refine l1_getR hQ mt_X12_readOctal rfl (o := 201) (ci := 11) (k := 3) (a := 0) (b := 0) rfl rfl rfl rfl rfl (q := 203) rfl ?_
      refine l1_many mt_X12_readOctal (pc' := 21) (L' := [some (.ref 201), some (.int p1), some (.int p2), some (.int v3)]) (st' := [.int (p1 + v3), .ref 203]) 3 rfl ?_
      refine l1_ck (fun hx => ?_)
      refine l1_ald hQ mt_X12_readOctal rfl (o := 203) rfl hx ?_
      refine l1_many mt_X12_readOctal (pc' := 29) (L' := [some (.ref 201), some (.int p1), some (.int p2), some (.int v3)]) (st' := [.long 55, .long 48, .long ((c.1 203 (p1 + v3).toNatClampNeg).toInt64)]) 3 rfl ?_
      refine l1_callS mt_X12_readOctal mt_X12_in rfl rfl (As := [.long ((c.1 203 (p1 + v3).toNatClampNeg).toInt64), .long 48, .long 55]) (rest := []) rfl rfl rfl (st1 := fun x3 => [.int x3]) (fun _ => rfl) (ok_X12_in hQ c ((c.1 203 (p1 + v3).toNatClampNeg).toInt64) 48 55) (fun x3 c4 => ?_)
      refine l1_many mt_X12_readOctal (pc' := bif am_cc .ne x3 0 then 45 else 35) (L' := [some (.ref 201), some (.int p1), some (.int p2), some (.int v3)]) (st' := []) 1 rfl ?_
      refine l1_bin rfl ?_ ?_
      · refine l1_many mt_X12_readOctal (pc' := 41) (L' := [some (.ref 201), some (.int p1), some (.int p2), some (.int v3)]) (st' := [.int (p1 + v3), .int 6, .ref 201]) 5 rfl ?_
        refine l1_callV hQ mt_X12_readOctal mt_X12_fails rfl rfl (o := 201) (ci := 11) (As := [.int 6, .int (p1 + v3)]) (rest := []) rfl rfl rfl rfl rfl rfl (st1 := fun x6 => [.int x6]) (fun _ => rfl) (ok_X12_fails hQ c4 6 (p1 + v3)) (fun x6 c7 => ?_)
        refine l1_ck (fun hz => ?_)
        exact l1_retZ mt_X12_readOctal rfl rfl rfl hz
      · refine l1_many mt_X12_readOctal (pc' := 50) (L' := [some (.ref 201), some (.int p1), some (.int p2), some (.int v3)]) (st' := [.ref 201, .long 8, .ref 201]) 3 rfl ?_
        refine l1_getJ hQ mt_X12_readOctal rfl (o := 201) (ci := 11) (k := 21) (a := 0) (b := 0) rfl rfl rfl rfl rfl ?_
        refine l1_many mt_X12_readOctal (pc' := 55) (L' := [some (.ref 201), some (.int p1), some (.int p2), some (.int v3)]) (st' := [.ref 201, .long (8 * (c4.2.1 201 21)), .ref 201]) 2 rfl ?_
        refine l1_getR hQ mt_X12_readOctal rfl (o := 201) (ci := 11) (k := 3) (a := 0) (b := 0) rfl rfl rfl rfl rfl (q := 203) rfl ?_
        refine l1_many mt_X12_readOctal (pc' := 61) (L' := [some (.ref 201), some (.int p1), some (.int p2), some (.int v3)]) (st' := [.int (p1 + v3), .ref 203, .long (8 * (c4.2.1 201 21)), .ref 201]) 3 rfl ?_
        refine l1_ck (fun hx => ?_)
        refine l1_ald hQ mt_X12_readOctal rfl (o := 203) rfl hx ?_
        refine l1_many mt_X12_readOctal (pc' := 68) (L' := [some (.ref 201), some (.int p1), some (.int p2), some (.int v3)]) (st' := [.long (((8 * (c4.2.1 201 21)) + ((c4.1 203 (p1 + v3).toNatClampNeg).toInt64)) - 48), .ref 201]) 4 rfl ?_
        refine l1_putJ hQ mt_X12_readOctal rfl (o := 201) (ci := 11) (k := 21) (a := 0) rfl rfl rfl rfl rfl rfl (fun c5 => ?_)
        refine l1_many mt_X12_readOctal (pc' := 7) (L' := [some (.ref 201), some (.int p1), some (.int p2), some (.int (v3 + 1))]) (st' := []) 2 rfl ?_
        exact ih c5 (v3 + 1)
set_option maxRecDepth 100000 in
theorem en_X12_readOctal {Q : hS → am_H → Prop} (hQ : l1_em km Q) (N : Nat) (c : hS) (p1 : Int32) (p2 : Int32) : l1_G (wN wI) Q am_i_X12_readOctal 0 [some (.ref 201), some (.int p1), some (.int p2)] [] c (f_X12_readOctal N c p1 p2) := by
  rw [f_X12_readOctal]
  refine l1_many mt_X12_readOctal (pc' := 2) (L' := [some (.ref 201), some (.int p1), some (.int p2)]) (st' := [.long 0, .ref 201]) 2 rfl ?_
  refine l1_putJ hQ mt_X12_readOctal rfl (o := 201) (ci := 11) (k := 21) (a := 0) rfl rfl rfl rfl rfl rfl (fun c1 => ?_)
  refine l1_many mt_X12_readOctal (pc' := 7) (L' := [some (.ref 201), some (.int p1), some (.int p2), some (.int 0)]) (st' := []) 2 rfl ?_
  exact ok_X12_readOctal_7 hQ N p1 p2 N c1 0
theorem ok_X12_readOctal {Q : hS → am_H → Prop} (hQ : l1_em km Q) (N : Nat) (c : hS) (p1 : Int32) (p2 : Int32) : l1_T wI Q am_i_X12_readOctal [.ref 201, .int p1, .int p2] c (f_X12_readOctal N c p1 p2) := l1_of (en_X12_readOctal hQ N c p1 p2) ⟨rfl, rfl, rfl, trivial⟩
set_option maxRecDepth 100000 in
theorem ok_X12_readSum_65 {Q : hS → am_H → Prop} (hQ : l1_em km Q) (N : Nat) (p1 : Int32) : ∀ (c : hS) (v3 : Int32), l1_G (wN wI) Q am_i_X12_readSum 65 [some (.ref 201), some (.int p1), none, some (.int v3)] [] c (f_X12_readSum_65 N p1 c v3) := by
  intro c v3
  rw [f_X12_readSum_65]
  refine l1_many mt_X12_readSum (pc' := 74) (L' := [some (.ref 201), some (.int p1), none, some (.int v3)]) (st' := [.int ((p1 + 148) + v3), .int 3, .ref 201]) 7 rfl ?_
  refine l1_callV hQ mt_X12_readSum mt_X12_fails rfl rfl (o := 201) (ci := 11) (As := [.int 3, .int ((p1 + 148) + v3)]) (rest := []) rfl rfl rfl rfl rfl rfl (st1 := fun x1 => [.int x1]) (fun _ => rfl) (ok_X12_fails hQ c 3 ((p1 + 148) + v3)) (fun x1 c2 => ?_)
  refine l1_ck (fun hz => ?_)
  exact l1_retZ mt_X12_readSum rfl rfl rfl hz
set_option maxRecDepth 100000 in
theorem ok_X12_readSum_78 {Q : hS → am_H → Prop} (hQ : l1_em km Q) (N : Nat) (p1 : Int32) {k4 : hS → Int32 → Int32 → Option (Int32 × hS)} (hk4 : ∀ c v2 v3, l1_G (wN wI) Q am_i_X12_readSum 4 [some (.ref 201), some (.int p1), some (.int v2), some (.int v3)] [] c (k4 c v2 v3)) : ∀ (c : hS) (v2 : Int32) (v3 : Int32) (v4 : Int32), l1_G (wN wI) Q am_i_X12_readSum 78 [some (.ref 201), some (.int p1), some (.int v2), some (.int v3), some (.int v4)] [] c (f_X12_readSum_78 N p1 k4 c v2 v3 v4) := by
  intro c v2 v3 v4
  rw [f_X12_readSum_78]
  refine l1_many mt_X12_readSum (pc' := bif am_cc .ge v3 6 then 97 else 84) (L' := [some (.ref 201), some (.int p1), some (.int v2), some (.int v3), some (.int v4)]) (st' := []) 3 rfl ?_
  refine l1_bif rfl ?_ ?_
  · refine l1_many mt_X12_readSum (pc' := 4) (L' := [some (.ref 201), some (.int p1), some (.int v2), some (.int (v3 + 1)), some (.int v4)]) (st' := []) 4 rfl ?_
    refine l1_weak (m := [true, true, true, true, false]) (L' := [some (.ref 201), some (.int p1), some (.int v2), some (.int (v3 + 1))]) rfl ?_
    exact hk4 c v2 (v3 + 1)
  · refine l1_many mt_X12_readSum (pc' := 4) (L' := [some (.ref 201), some (.int p1), some (.int (((8 * v2) + v4) - 48)), some (.int (v3 + 1)), some (.int v4)]) (st' := []) 11 rfl ?_
    refine l1_weak (m := [true, true, true, true, false]) (L' := [some (.ref 201), some (.int p1), some (.int (((8 * v2) + v4) - 48)), some (.int (v3 + 1))]) rfl ?_
    exact hk4 c (((8 * v2) + v4) - 48) (v3 + 1)
set_option maxRecDepth 100000 in
theorem ok_X12_readSum_62 {Q : hS → am_H → Prop} (hQ : l1_em km Q) (N : Nat) (p1 : Int32) {k4 : hS → Int32 → Int32 → Option (Int32 × hS)} (hk4 : ∀ c v2 v3, l1_G (wN wI) Q am_i_X12_readSum 4 [some (.ref 201), some (.int p1), some (.int v2), some (.int v3)] [] c (k4 c v2 v3)) : ∀ (c : hS) (v2 : Int32) (v3 : Int32) (v4 : Int32) (w0 : Int32) (w1 : Int32), l1_G (wN wI) Q am_i_X12_readSum 62 [some (.ref 201), some (.int p1), some (.int v2), some (.int v3), some (.int v4)] [.int w0, .int w1] c (f_X12_readSum_62 N p1 k4 c v2 v3 v4 w0 w1) := by
  intro c v2 v3 v4 w0 w1
  rw [f_X12_readSum_62]
  refine l1_many mt_X12_readSum (pc' := bif am_cc .eq w1 w0 then 78 else 65) (L' := [some (.ref 201), some (.int p1), some (.int v2), some (.int v3), some (.int v4)]) (st' := []) 1 rfl ?_
  refine l1_bif rfl ?_ ?_
  · exact ok_X12_readSum_78 hQ N p1 hk4 c v2 v3 v4
  · refine l1_weak (m := [true, true, false, true, false]) (L' := [some (.ref 201), some (.int p1), none, some (.int v3)]) rfl ?_
    exact ok_X12_readSum_65 hQ N p1 c v3
set_option maxRecDepth 100000 in
theorem ok_X12_readSum_112 {Q : hS → am_H → Prop} (hQ : l1_em km Q) (N : Nat) (p1 : Int32) : ∀ n : Nat, ∀ (c : hS) (v2 : Int32) (v3 : Int32) (v4 : Int32), l1_G (wN wI) Q am_i_X12_readSum 112 [some (.ref 201), some (.int p1), some (.int v2), some (.int v3), some (.int v4)] [] c (f_X12_readSum_112 N p1 n c v2 v3 v4) := by
  intro n
  induction n with
  | zero => intro c v2 v3 v4; exact l1_none
  | succ n ih =>
    intro c v2 v3 v4
    rw [f_X12_readSum_112]
    refine l1_many mt_X12_readSum (pc' := bif am_cc .ge v4 512 then 157 else 120) (L' := [some (.ref 201), some (.int p1), some (.int v2), some (.int v3), some (.int v4)]) (st' := []) 3 rfl ?_
    refine l1_bif rfl ?_ ?_
    · refine l1_many mt_X12_readSum (pc' := bif am_cc .eq v3 v2 then 175 else 162) (L' := [some (.ref 201), some (.int p1), some (.int v2), some (.int v3), some (.int v4)]) (st' := []) 3 rfl ?_
      refine l1_bif rfl ?_ ?_
      · refine l1_many mt_X12_readSum (pc' := 180) (L' := [some (.ref 201), some (.int p1), some (.int v2), some (.int v3), some (.int v4)]) (st' := [.int 1]) 2 rfl ?_
        exact l1_ret mt_X12_readSum rfl rfl rfl
      · refine l1_many mt_X12_readSum (pc' := 169) (L' := [some (.ref 201), some (.int p1), some (.int v2), some (.int v3), some (.int v4)]) (st' := [.int (p1 + 148), .int 4, .ref 201]) 5 rfl ?_
        refine l1_callV hQ mt_X12_readSum mt_X12_fails rfl rfl (o := 201) (ci := 11) (As := [.int 4, .int (p1 + 148)]) (rest := []) rfl rfl rfl rfl rfl rfl (st1 := fun x1 => [.int x1]) (fun _ => rfl) (ok_X12_fails hQ c 4 (p1 + 148)) (fun x1 c2 => ?_)
        refine l1_many mt_X12_readSum (pc' := bif am_cc .eq x1 0 then 179 else 175) (L' := [some (.ref 201), some (.int p1), some (.int v2), some (.int v3), some (.int v4)]) (st' := []) 1 rfl ?_
        refine l1_bif rfl ?_ ?_
        · refine l1_many mt_X12_readSum (pc' := 180) (L' := [some (.ref 201), some (.int p1), some (.int v2), some (.int v3), some (.int v4)]) (st' := [.int 0]) 1 rfl ?_
          exact l1_ret mt_X12_readSum rfl rfl rfl
        · refine l1_many mt_X12_readSum (pc' := 180) (L' := [some (.ref 201), some (.int p1), some (.int v2), some (.int v3), some (.int v4)]) (st' := [.int 1]) 2 rfl ?_
          exact l1_ret mt_X12_readSum rfl rfl rfl
    · refine l1_many mt_X12_readSum (pc' := 130) (L' := [some (.ref 201), some (.int p1), some (.int v2), some (.int v3), some (.int v4)]) (st' := [.long 155, .long 148, .long v4.toInt64, .int v3]) 5 rfl ?_
      refine l1_callS mt_X12_readSum mt_X12_in rfl rfl (As := [.long v4.toInt64, .long 148, .long 155]) (rest := [.int v3]) rfl rfl rfl (st1 := fun x3 => [.int x3, .int v3]) (fun _ => rfl) (ok_X12_in hQ c v4.toInt64 148 155) (fun x3 c4 => ?_)
      refine l1_many mt_X12_readSum (pc' := bif am_cc .eq x3 0 then 140 else 136) (L' := [some (.ref 201), some (.int p1), some (.int v2), some (.int v3), some (.int v4)]) (st' := [.int v3]) 1 rfl ?_
      refine l1_bif rfl ?_ ?_
      · refine l1_many mt_X12_readSum (pc' := 141) (L' := [some (.ref 201), some (.int p1), some (.int v2), some (.int v3), some (.int v4)]) (st' := [.ref 201, .int v3]) 1 rfl ?_
        refine l1_getR hQ mt_X12_readSum rfl (o := 201) (ci := 11) (k := 3) (a := 0) (b := 0) rfl rfl rfl rfl rfl (q := 203) rfl ?_
        refine l1_many mt_X12_readSum (pc' := 148) (L' := [some (.ref 201), some (.int p1), some (.int v2), some (.int v3), some (.int v4)]) (st' := [.int (p1 + v4), .ref 203, .int v3]) 3 rfl ?_
        refine l1_ck (fun hx => ?_)
        refine l1_ald hQ mt_X12_readSum rfl (o := 203) rfl hx ?_
        refine l1_many mt_X12_readSum (pc' := 112) (L' := [some (.ref 201), some (.int p1), some (.int v2), some (.int (v3 + (c4.1 203 (p1 + v4).toNatClampNeg))), some (.int (v4 + 1))]) (st' := []) 4 rfl ?_
        exact ih c4 v2 (v3 + (c4.1 203 (p1 + v4).toNatClampNeg)) (v4 + 1)
      · refine l1_many mt_X12_readSum (pc' := 112) (L' := [some (.ref 201), some (.int p1), some (.int v2), some (.int (v3 + 0)), some (.int (v4 + 1))]) (st' := []) 6 rfl ?_
        exact ih c4 v2 (v3 + 0) (v4 + 1)
set_option maxRecDepth 100000 in
theorem ok_X12_readSum_4 {Q : hS → am_H → Prop} (hQ : l1_em km Q) (N : Nat) (p1 : Int32) : ∀ n : Nat, ∀ (c : hS) (v2 : Int32) (v3 : Int32), l1_G (wN wI) Q am_i_X12_readSum 4 [some (.ref 201), some (.int p1), some (.int v2), some (.int v3)] [] c (f_X12_readSum_4 N p1 n c v2 v3) := by
  intro n
  induction n with
  | zero => intro c v2 v3; exact l1_none
  | succ n ih =>
    intro c v2 v3
    rw [f_X12_readSum_4]
    refine l1_many mt_X12_readSum (pc' := bif am_cc .ge v3 8 then 105 else 10) (L' := [some (.ref 201), some (.int p1), some (.int v2), some (.int v3)]) (st' := []) 3 rfl ?_
    refine l1_bif rfl ?_ ?_
    · refine l1_many mt_X12_readSum (pc' := 112) (L' := [some (.ref 201), some (.int p1), some (.int v2), some (.int 256), some (.int 0)]) (st' := []) 4 rfl ?_
      exact ok_X12_readSum_112 hQ N p1 N c v2 256 0
    · refine l1_many mt_X12_readSum (pc' := 11) (L' := [some (.ref 201), some (.int p1), some (.int v2), some (.int v3)]) (st' := [.ref 201]) 1 rfl ?_
      refine l1_getR hQ mt_X12_readSum rfl (o := 201) (ci := 11) (k := 3) (a := 0) (b := 0) rfl rfl rfl rfl rfl (q := 203) rfl ?_
      refine l1_many mt_X12_readSum (pc' := 21) (L' := [some (.ref 201), some (.int p1), some (.int v2), some (.int v3)]) (st' := [.int ((p1 + 148) + v3), .ref 203]) 5 rfl ?_
      refine l1_ck (fun hx => ?_)
      refine l1_ald hQ mt_X12_readSum rfl (o := 203) rfl hx ?_
      refine l1_many mt_X12_readSum (pc' := bif am_cc .ge v3 6 then 48 else 30) (L' := [some (.ref 201), some (.int p1), some (.int v2), some (.int v3), some (.int (c.1 203 ((p1 + 148) + v3).toNatClampNeg))]) (st' := []) 4 rfl ?_
      refine l1_bif rfl ?_ ?_
      · refine l1_many mt_X12_readSum (pc' := bif am_cc .ne v3 6 then 60 else 56) (L' := [some (.ref 201), some (.int p1), some (.int v2), some (.int v3), some (.int (c.1 203 ((p1 + 148) + v3).toNatClampNeg))]) (st' := [.int (c.1 203 ((p1 + 148) + v3).toNatClampNeg)]) 4 rfl ?_
        refine l1_bin rfl ?_ ?_
        · refine l1_many mt_X12_readSum (pc' := 62) (L' := [some (.ref 201), some (.int p1), some (.int v2), some (.int v3), some (.int (c.1 203 ((p1 + 148) + v3).toNatClampNeg))]) (st' := [.int 0, .int (c.1 203 ((p1 + 148) + v3).toNatClampNeg)]) 2 rfl ?_
          exact ok_X12_readSum_62 hQ N p1 ih c v2 v3 (c.1 203 ((p1 + 148) + v3).toNatClampNeg) 0 (c.1 203 ((p1 + 148) + v3).toNatClampNeg)
        · refine l1_many mt_X12_readSum (pc' := 62) (L' := [some (.ref 201), some (.int p1), some (.int v2), some (.int v3), some (.int (c.1 203 ((p1 + 148) + v3).toNatClampNeg))]) (st' := [.int 32, .int (c.1 203 ((p1 + 148) + v3).toNatClampNeg)]) 1 rfl ?_
          exact ok_X12_readSum_62 hQ N p1 ih c v2 v3 (c.1 203 ((p1 + 148) + v3).toNatClampNeg) 32 (c.1 203 ((p1 + 148) + v3).toNatClampNeg)
      · refine l1_many mt_X12_readSum (pc' := 39) (L' := [some (.ref 201), some (.int p1), some (.int v2), some (.int v3), some (.int (c.1 203 ((p1 + 148) + v3).toNatClampNeg))]) (st' := [.long 55, .long 48, .long ((c.1 203 ((p1 + 148) + v3).toNatClampNeg).toInt64)]) 4 rfl ?_
        refine l1_callS mt_X12_readSum mt_X12_in rfl rfl (As := [.long ((c.1 203 ((p1 + 148) + v3).toNatClampNeg).toInt64), .long 48, .long 55]) (rest := []) rfl rfl rfl (st1 := fun x1 => [.int x1]) (fun _ => rfl) (ok_X12_in hQ c ((c.1 203 ((p1 + 148) + v3).toNatClampNeg).toInt64) 48 55) (fun x1 c2 => ?_)
        refine l1_many mt_X12_readSum (pc' := bif am_cc .ne x1 0 then 78 else 45) (L' := [some (.ref 201), some (.int p1), some (.int v2), some (.int v3), some (.int (c.1 203 ((p1 + 148) + v3).toNatClampNeg))]) (st' := []) 1 rfl ?_
        refine l1_bin rfl ?_ ?_
        · refine l1_many mt_X12_readSum (pc' := 65) (L' := [some (.ref 201), some (.int p1), some (.int v2), some (.int v3), some (.int (c.1 203 ((p1 + 148) + v3).toNatClampNeg))]) (st' := []) 1 rfl ?_
          refine l1_weak (m := [true, true, false, true, false]) (L' := [some (.ref 201), some (.int p1), none, some (.int v3)]) rfl ?_
          exact ok_X12_readSum_65 hQ N p1 c2 v3
        · exact ok_X12_readSum_78 hQ N p1 ih c2 v2 v3 (c.1 203 ((p1 + 148) + v3).toNatClampNeg)
set_option maxRecDepth 100000 in
theorem en_X12_readSum {Q : hS → am_H → Prop} (hQ : l1_em km Q) (N : Nat) (c : hS) (p1 : Int32) : l1_G (wN wI) Q am_i_X12_readSum 0 [some (.ref 201), some (.int p1)] [] c (f_X12_readSum N c p1) := by
  rw [f_X12_readSum]
  refine l1_many mt_X12_readSum (pc' := 4) (L' := [some (.ref 201), some (.int p1), some (.int 0), some (.int 0)]) (st' := []) 4 rfl ?_
  exact ok_X12_readSum_4 hQ N p1 N c 0 0
theorem ok_X12_readSum {Q : hS → am_H → Prop} (hQ : l1_em km Q) (N : Nat) (c : hS) (p1 : Int32) : l1_T wI Q am_i_X12_readSum [.ref 201, .int p1] c (f_X12_readSum N c p1) := l1_of (en_X12_readSum hQ N c p1) ⟨rfl, rfl, trivial⟩
set_option maxRecDepth 100000 in
theorem ok_X12_readMark_68 {Q : hS → am_H → Prop} (hQ : l1_em km Q) (N : Nat) (p1 : Int32) {k2 : hS → Int32 → Option (Int32 × hS)} (hk2 : ∀ c v2, l1_G (wN wI) Q am_i_X12_readMark 2 [some (.ref 201), some (.int p1), some (.int v2)] [] c (k2 c v2)) : ∀ (c : hS) (v2 : Int32) (w0 : Int32), l1_G (wN wI) Q am_i_X12_readMark 68 [some (.ref 201), some (.int p1), some (.int v2)] [.int w0] c (f_X12_readMark_68 N p1 k2 c v2 w0) := by
  intro c v2 w0
  rw [f_X12_readMark_68]
  refine l1_many mt_X12_readMark (pc' := 70) (L' := [some (.ref 201), some (.int p1), some (.int v2), some (.int w0)]) (st' := [.ref 201]) 2 rfl ?_
  refine l1_getR hQ mt_X12_readMark rfl (o := 201) (ci := 11) (k := 3) (a := 0) (b := 0) rfl rfl rfl rfl rfl (q := 203) rfl ?_
  refine l1_many mt_X12_readMark (pc' := 76) (L' := [some (.ref 201), some (.int p1), some (.int v2), some (.int w0)]) (st' := [.int (p1 + v2), .ref 203]) 3 rfl ?_
  refine l1_ck (fun hx => ?_)
  refine l1_ald hQ mt_X12_readMark rfl (o := 203) rfl hx ?_
  refine l1_many mt_X12_readMark (pc' := bif am_cc .eq (c.1 203 (p1 + v2).toNatClampNeg) w0 then 90 else 81) (L' := [some (.ref 201), some (.int p1), some (.int v2), some (.int w0)]) (st' := []) 2 rfl ?_
  refine l1_bif rfl ?_ ?_
  · refine l1_many mt_X12_readMark (pc' := 2) (L' := [some (.ref 201), some (.int p1), some (.int (v2 + 1)), some (.int w0)]) (st' := []) 2 rfl ?_
    refine l1_weak (m := [true, true, true, false]) (L' := [some (.ref 201), some (.int p1), some (.int (v2 + 1))]) rfl ?_
    exact hk2 c (v2 + 1)
  · refine l1_many mt_X12_readMark (pc' := 86) (L' := [some (.ref 201), some (.int p1), some (.int v2), some (.int w0)]) (st' := [.int (p1 + v2), .int 5, .ref 201]) 5 rfl ?_
    refine l1_callV hQ mt_X12_readMark mt_X12_fails rfl rfl (o := 201) (ci := 11) (As := [.int 5, .int (p1 + v2)]) (rest := []) rfl rfl rfl rfl rfl rfl (st1 := fun x1 => [.int x1]) (fun _ => rfl) (ok_X12_fails hQ c 5 (p1 + v2)) (fun x1 c2 => ?_)
    refine l1_ck (fun hz => ?_)
    exact l1_retZ mt_X12_readMark rfl rfl rfl hz
set_option maxRecDepth 100000 in
theorem ok_X12_readMark_2 {Q : hS → am_H → Prop} (hQ : l1_em km Q) (N : Nat) (p1 : Int32) : ∀ n : Nat, ∀ (c : hS) (v2 : Int32), l1_G (wN wI) Q am_i_X12_readMark 2 [some (.ref 201), some (.int p1), some (.int v2)] [] c (f_X12_readMark_2 N p1 n c v2) := by
  intro n
  induction n with
  | zero => intro c v2; exact l1_none
  | succ n ih =>
    intro c v2
    rw [f_X12_readMark_2]
    refine l1_many mt_X12_readMark (pc' := bif am_cc .ge v2 8 then 96 else 8) (L' := [some (.ref 201), some (.int p1), some (.int v2)]) (st' := []) 3 rfl ?_
    refine l1_bif rfl ?_ ?_
    · refine l1_many mt_X12_readMark (pc' := 97) (L' := [some (.ref 201), some (.int p1), some (.int v2)]) (st' := [.int 1]) 1 rfl ?_
      exact l1_ret mt_X12_readMark rfl rfl rfl
    · refine l1_many mt_X12_readMark (pc' := bif am_cc .ne v2 0 then 17 else 12) (L' := [some (.ref 201), some (.int p1), some (.int v2)]) (st' := []) 2 rfl ?_
      refine l1_bin rfl ?_ ?_
      · refine l1_many mt_X12_readMark (pc' := 68) (L' := [some (.ref 201), some (.int p1), some (.int v2)]) (st' := [.int 117]) 2 rfl ?_
        exact ok_X12_readMark_68 hQ N p1 ih c v2 117
      · refine l1_many mt_X12_readMark (pc' := bif am_cc .ne v2 1 then 27 else 22) (L' := [some (.ref 201), some (.int p1), some (.int v2)]) (st' := []) 3 rfl ?_
        refine l1_bin rfl ?_ ?_
        · refine l1_many mt_X12_readMark (pc' := 68) (L' := [some (.ref 201), some (.int p1), some (.int v2)]) (st' := [.int 115]) 2 rfl ?_
          exact ok_X12_readMark_68 hQ N p1 ih c v2 115
        · refine l1_many mt_X12_readMark (pc' := bif am_cc .ne v2 2 then 37 else 32) (L' := [some (.ref 201), some (.int p1), some (.int v2)]) (st' := []) 3 rfl ?_
          refine l1_bin rfl ?_ ?_
          · refine l1_many mt_X12_readMark (pc' := 68) (L' := [some (.ref 201), some (.int p1), some (.int v2)]) (st' := [.int 116]) 2 rfl ?_
            exact ok_X12_readMark_68 hQ N p1 ih c v2 116
          · refine l1_many mt_X12_readMark (pc' := bif am_cc .ne v2 3 then 47 else 42) (L' := [some (.ref 201), some (.int p1), some (.int v2)]) (st' := []) 3 rfl ?_
            refine l1_bin rfl ?_ ?_
            · refine l1_many mt_X12_readMark (pc' := 68) (L' := [some (.ref 201), some (.int p1), some (.int v2)]) (st' := [.int 97]) 2 rfl ?_
              exact ok_X12_readMark_68 hQ N p1 ih c v2 97
            · refine l1_many mt_X12_readMark (pc' := bif am_cc .ne v2 4 then 57 else 52) (L' := [some (.ref 201), some (.int p1), some (.int v2)]) (st' := []) 3 rfl ?_
              refine l1_bin rfl ?_ ?_
              · refine l1_many mt_X12_readMark (pc' := 68) (L' := [some (.ref 201), some (.int p1), some (.int v2)]) (st' := [.int 114]) 2 rfl ?_
                exact ok_X12_readMark_68 hQ N p1 ih c v2 114
              · refine l1_many mt_X12_readMark (pc' := bif am_cc .ne v2 5 then 66 else 62) (L' := [some (.ref 201), some (.int p1), some (.int v2)]) (st' := []) 3 rfl ?_
                refine l1_bin rfl ?_ ?_
                · refine l1_many mt_X12_readMark (pc' := 68) (L' := [some (.ref 201), some (.int p1), some (.int v2)]) (st' := [.int 0]) 2 rfl ?_
                  exact ok_X12_readMark_68 hQ N p1 ih c v2 0
                · refine l1_many mt_X12_readMark (pc' := 68) (L' := [some (.ref 201), some (.int p1), some (.int v2)]) (st' := [.int 48]) 1 rfl ?_
                  exact ok_X12_readMark_68 hQ N p1 ih c v2 48
set_option maxRecDepth 100000 in
theorem en_X12_readMark {Q : hS → am_H → Prop} (hQ : l1_em km Q) (N : Nat) (c : hS) (p1 : Int32) : l1_G (wN wI) Q am_i_X12_readMark 0 [some (.ref 201), some (.int p1)] [] c (f_X12_readMark N c p1) := by
  rw [f_X12_readMark]
  refine l1_many mt_X12_readMark (pc' := 2) (L' := [some (.ref 201), some (.int p1), some (.int 0)]) (st' := []) 2 rfl ?_
  exact ok_X12_readMark_2 hQ N p1 N c 0
theorem ok_X12_readMark {Q : hS → am_H → Prop} (hQ : l1_em km Q) (N : Nat) (c : hS) (p1 : Int32) : l1_T wI Q am_i_X12_readMark [.ref 201, .int p1] c (f_X12_readMark N c p1) := l1_of (en_X12_readMark hQ N c p1) ⟨rfl, rfl, trivial⟩
set_option maxRecDepth 100000 in
theorem ok_X12_addName_2 {Q : hS → am_H → Prop} (hQ : l1_em km Q) (N : Nat) (p1 : Int32) (p2 : Int32) : ∀ n : Nat, ∀ (c : hS) (v3 : Int32), l1_G (wN wV) Q am_i_X12_addName 2 [some (.ref 201), some (.int p1), some (.int p2), some (.int v3)] [] c (f_X12_addName_2 N p1 p2 n c v3) := by
  intro n
  induction n with
  | zero => intro c v3; exact l1_none
  | succ n ih =>
    intro c v3
    rw [f_X12_addName_2]
    refine l1_many mt_X12_addName (pc' := bif am_cc .ge v3 p2 then 51 else 7) (L' := [some (.ref 201), some (.int p1), some (.int p2), some (.int v3)]) (st' := []) 3 rfl ?_
    refine l1_bif rfl ?_ ?_
    · exact l1_ret mt_X12_addName rfl rfl rfl
    · refine l1_many mt_X12_addName (pc' := 8) (L' := [some (.ref 201), some (.int p1), some (.int p2), some (.int v3)]) (st' := [.ref 201]) 1 rfl ?_
      refine l1_getR hQ mt_X12_addName rfl (o := 201) (ci := 11) (k := 3) (a := 0) (b := 0) rfl rfl rfl rfl rfl (q := 203) rfl ?_
      refine l1_many mt_X12_addName (pc' := 14) (L' := [some (.ref 201), some (.int p1), some (.int p2), some (.int v3)]) (st' := [.int (p1 + v3), .ref 203]) 3 rfl ?_
      refine l1_ck (fun hx => ?_)
      refine l1_ald hQ mt_X12_addName rfl (o := 203) rfl hx ?_
      refine l1_many mt_X12_addName (pc' := bif am_cc .eq (c.1 203 (p1 + v3).toNatClampNeg) 0 then 51 else 18) (L' := [some (.ref 201), some (.int p1), some (.int p2), some (.int v3)]) (st' := []) 1 rfl ?_
      refine l1_bif rfl ?_ ?_
      · exact l1_ret mt_X12_addName rfl rfl rfl
      · refine l1_many mt_X12_addName (pc' := 19) (L' := [some (.ref 201), some (.int p1), some (.int p2), some (.int v3)]) (st' := [.ref 201]) 1 rfl ?_
        refine l1_getR hQ mt_X12_addName rfl (o := 201) (ci := 11) (k := 15) (a := 0) (b := 0) rfl rfl rfl rfl rfl (q := 209) rfl ?_
        refine l1_many mt_X12_addName (pc' := 23) (L' := [some (.ref 201), some (.int p1), some (.int p2), some (.int v3)]) (st' := [.ref 201, .ref 209]) 1 rfl ?_
        refine l1_getI hQ mt_X12_addName rfl (o := 201) (ci := 11) (k := 14) (a := 0) (b := 0) rfl rfl rfl rfl rfl ?_
        refine l1_many mt_X12_addName (pc' := 27) (L' := [some (.ref 201), some (.int p1), some (.int p2), some (.int v3)]) (st' := [.ref 201, .int (c.1 201 14), .ref 209]) 1 rfl ?_
        refine l1_getR hQ mt_X12_addName rfl (o := 201) (ci := 11) (k := 3) (a := 0) (b := 0) rfl rfl rfl rfl rfl (q := 203) rfl ?_
        refine l1_many mt_X12_addName (pc' := 33) (L' := [some (.ref 201), some (.int p1), some (.int p2), some (.int v3)]) (st' := [.int (p1 + v3), .ref 203, .int (c.1 201 14), .ref 209]) 3 rfl ?_
        refine l1_ck (fun hx => ?_)
        refine l1_ald hQ mt_X12_addName rfl (o := 203) rfl hx ?_
        refine l1_ck (fun hx => ?_)
        refine l1_ast hQ mt_X12_addName rfl (o := 209) rfl hx (fun c1 => ?_)
        refine l1_many mt_X12_addName (pc' := 37) (L' := [some (.ref 201), some (.int p1), some (.int p2), some (.int v3)]) (st' := [.ref 201, .ref 201]) 2 rfl ?_
        refine l1_getI hQ mt_X12_addName rfl (o := 201) (ci := 11) (k := 14) (a := 0) (b := 0) rfl rfl rfl rfl rfl ?_
        refine l1_many mt_X12_addName (pc' := 42) (L' := [some (.ref 201), some (.int p1), some (.int p2), some (.int v3)]) (st' := [.int ((c1.1 201 14) + 1), .ref 201]) 2 rfl ?_
        refine l1_putI hQ mt_X12_addName rfl (o := 201) (ci := 11) (k := 14) (a := 0) rfl rfl rfl rfl rfl rfl (fun c2 => ?_)
        refine l1_many mt_X12_addName (pc' := 2) (L' := [some (.ref 201), some (.int p1), some (.int p2), some (.int (v3 + 1))]) (st' := []) 2 rfl ?_
        exact ih c2 (v3 + 1)
set_option maxRecDepth 100000 in
theorem en_X12_addName {Q : hS → am_H → Prop} (hQ : l1_em km Q) (N : Nat) (c : hS) (p1 : Int32) (p2 : Int32) : l1_G (wN wV) Q am_i_X12_addName 0 [some (.ref 201), some (.int p1), some (.int p2)] [] c (f_X12_addName N c p1 p2) := by
  rw [f_X12_addName]
  refine l1_many mt_X12_addName (pc' := 2) (L' := [some (.ref 201), some (.int p1), some (.int p2), some (.int 0)]) (st' := []) 2 rfl ?_
  exact ok_X12_addName_2 hQ N p1 p2 N c 0
theorem ok_X12_addName {Q : hS → am_H → Prop} (hQ : l1_em km Q) (N : Nat) (c : hS) (p1 : Int32) (p2 : Int32) : l1_T wV Q am_i_X12_addName [.ref 201, .int p1, .int p2] c (f_X12_addName N c p1 p2) := l1_of (en_X12_addName hQ N c p1 p2) ⟨rfl, rfl, rfl, trivial⟩
set_option maxRecDepth 100000 in
theorem ok_X12_readBlockHead_277 {Q : hS → am_H → Prop} (hQ : l1_em km Q) (N : Nat) (p1 : Int32) : ∀ (c : hS) (v2 : Int64), l1_G (wN wI) Q am_i_X12_readBlockHead 277 [some (.ref 201), some (.int p1), some (.long v2)] [] c (f_X12_readBlockHead_277 N p1 c v2) := by
  intro c v2
  rw [f_X12_readBlockHead_277]
  refine l1_many mt_X12_readBlockHead (pc' := 280) (L' := [some (.ref 201), some (.int p1), some (.long v2)]) (st' := [.int v2.toInt32, .ref 201]) 3 rfl ?_
  refine l1_putI hQ mt_X12_readBlockHead rfl (o := 201) (ci := 11) (k := 16) (a := 0) rfl rfl rfl rfl rfl rfl (fun c1 => ?_)
  refine l1_many mt_X12_readBlockHead (pc' := 284) (L' := [some (.ref 201), some (.int p1), some (.long v2)]) (st' := [.ref 201]) 1 rfl ?_
  refine l1_callV hQ mt_X12_readBlockHead mt_X12_isName rfl rfl (o := 201) (ci := 11) (As := []) (rest := []) rfl rfl rfl rfl rfl rfl (st1 := fun x2 => [.int x2]) (fun _ => rfl) (ok_X12_isName hQ N c1) (fun x2 c3 => ?_)
  refine l1_many mt_X12_readBlockHead (pc' := bif am_cc .ne x2 0 then 300 else 290) (L' := [some (.ref 201), some (.int p1), some (.long v2)]) (st' := []) 1 rfl ?_
  refine l1_bin rfl ?_ ?_
  · refine l1_many mt_X12_readBlockHead (pc' := 294) (L' := [some (.ref 201), some (.int p1), some (.long v2)]) (st' := [.int p1, .int 10, .ref 201]) 3 rfl ?_
    refine l1_callV hQ mt_X12_readBlockHead mt_X12_fails rfl rfl (o := 201) (ci := 11) (As := [.int 10, .int p1]) (rest := []) rfl rfl rfl rfl rfl rfl (st1 := fun x4 => [.int x4]) (fun _ => rfl) (ok_X12_fails hQ c3 10 p1) (fun x4 c5 => ?_)
    refine l1_many mt_X12_readBlockHead (pc' := bif am_cc .eq x4 0 then 304 else 300) (L' := [some (.ref 201), some (.int p1), some (.long v2)]) (st' := []) 1 rfl ?_
    refine l1_bif rfl ?_ ?_
    · refine l1_many mt_X12_readBlockHead (pc' := 305) (L' := [some (.ref 201), some (.int p1), some (.long v2)]) (st' := [.int 0]) 1 rfl ?_
      exact l1_ret mt_X12_readBlockHead rfl rfl rfl
    · refine l1_many mt_X12_readBlockHead (pc' := 305) (L' := [some (.ref 201), some (.int p1), some (.long v2)]) (st' := [.int 1]) 2 rfl ?_
      exact l1_ret mt_X12_readBlockHead rfl rfl rfl
  · refine l1_many mt_X12_readBlockHead (pc' := 305) (L' := [some (.ref 201), some (.int p1), some (.long v2)]) (st' := [.int 1]) 2 rfl ?_
    exact l1_ret mt_X12_readBlockHead rfl rfl rfl
set_option maxRecDepth 100000 in
theorem ok_X12_readBlockHead_230 {Q : hS → am_H → Prop} (hQ : l1_em km Q) (N : Nat) (p1 : Int32) : ∀ (c : hS) (v2 : Int64), l1_G (wN wI) Q am_i_X12_readBlockHead 230 [some (.ref 201), some (.int p1), some (.long v2)] [] c (f_X12_readBlockHead_230 N p1 c v2) := by
  intro c v2
  rw [f_X12_readBlockHead_230]
  refine l1_many mt_X12_readBlockHead (pc' := 234) (L' := [some (.ref 201), some (.int p1), some (.long v2)]) (st' := [.int 100, .int p1, .ref 201]) 3 rfl ?_
  refine l1_callV hQ mt_X12_readBlockHead mt_X12_addName rfl rfl (o := 201) (ci := 11) (As := [.int p1, .int 100]) (rest := []) rfl rfl rfl rfl rfl rfl (st1 := fun _ => []) (fun _ => rfl) (ok_X12_addName hQ N c p1 100) (fun _ c1 => ?_)
  refine l1_many mt_X12_readBlockHead (pc' := 238) (L' := [some (.ref 201), some (.int p1), some (.long v2)]) (st' := [.ref 201]) 1 rfl ?_
  refine l1_getI hQ mt_X12_readBlockHead rfl (o := 201) (ci := 11) (k := 18) (a := 0) (b := 0) rfl rfl rfl rfl rfl ?_
  refine l1_many mt_X12_readBlockHead (pc' := bif am_cc .eq (c1.1 201 18) 0 then 277 else 244) (L' := [some (.ref 201), some (.int p1), some (.long v2)]) (st' := []) 1 rfl ?_
  refine l1_bif rfl ?_ ?_
  · exact ok_X12_readBlockHead_277 hQ N p1 c1 v2
  · refine l1_many mt_X12_readBlockHead (pc' := 245) (L' := [some (.ref 201), some (.int p1), some (.long v2)]) (st' := [.ref 201]) 1 rfl ?_
    refine l1_getI hQ mt_X12_readBlockHead rfl (o := 201) (ci := 11) (k := 14) (a := 0) (b := 0) rfl rfl rfl rfl rfl ?_
    refine l1_many mt_X12_readBlockHead (pc' := bif am_cc .le (c1.1 201 14) 0 then 277 else 251) (L' := [some (.ref 201), some (.int p1), some (.long v2)]) (st' := []) 1 rfl ?_
    refine l1_bif rfl ?_ ?_
    · exact ok_X12_readBlockHead_277 hQ N p1 c1 v2
    · refine l1_many mt_X12_readBlockHead (pc' := 252) (L' := [some (.ref 201), some (.int p1), some (.long v2)]) (st' := [.ref 201]) 1 rfl ?_
      refine l1_getR hQ mt_X12_readBlockHead rfl (o := 201) (ci := 11) (k := 15) (a := 0) (b := 0) rfl rfl rfl rfl rfl (q := 209) rfl ?_
      refine l1_many mt_X12_readBlockHead (pc' := 256) (L' := [some (.ref 201), some (.int p1), some (.long v2)]) (st' := [.ref 201, .ref 209]) 1 rfl ?_
      refine l1_getI hQ mt_X12_readBlockHead rfl (o := 201) (ci := 11) (k := 14) (a := 0) (b := 0) rfl rfl rfl rfl rfl ?_
      refine l1_many mt_X12_readBlockHead (pc' := 261) (L' := [some (.ref 201), some (.int p1), some (.long v2)]) (st' := [.int ((c1.1 201 14) - 1), .ref 209]) 2 rfl ?_
      refine l1_ck (fun hx => ?_)
      refine l1_ald hQ mt_X12_readBlockHead rfl (o := 209) rfl hx ?_
      refine l1_many mt_X12_readBlockHead (pc' := bif am_cc .ne (c1.1 209 ((c1.1 201 14) - 1).toNatClampNeg) 47 then 277 else 267) (L' := [some (.ref 201), some (.int p1), some (.long v2)]) (st' := []) 2 rfl ?_
      refine l1_bin rfl ?_ ?_
      · refine l1_many mt_X12_readBlockHead (pc' := 269) (L' := [some (.ref 201), some (.int p1), some (.long v2)]) (st' := [.ref 201, .ref 201]) 2 rfl ?_
        refine l1_getI hQ mt_X12_readBlockHead rfl (o := 201) (ci := 11) (k := 14) (a := 0) (b := 0) rfl rfl rfl rfl rfl ?_
        refine l1_many mt_X12_readBlockHead (pc' := 274) (L' := [some (.ref 201), some (.int p1), some (.long v2)]) (st' := [.int ((c1.1 201 14) - 1), .ref 201]) 2 rfl ?_
        refine l1_putI hQ mt_X12_readBlockHead rfl (o := 201) (ci := 11) (k := 14) (a := 0) rfl rfl rfl rfl rfl rfl (fun c2 => ?_)
        exact ok_X12_readBlockHead_277 hQ N p1 c2 v2
      · exact ok_X12_readBlockHead_277 hQ N p1 c1 v2
set_option maxRecDepth 100000 in
theorem ok_X12_readBlockHead_169 {Q : hS → am_H → Prop} (hQ : l1_em km Q) (N : Nat) (p1 : Int32) : ∀ (c : hS) (v2 : Int64) (w0 : Int32) (w1 : Int64), l1_G (wN wI) Q am_i_X12_readBlockHead 169 [some (.ref 201), some (.int p1), some (.long v2)] [.int w0, .long w1] c (f_X12_readBlockHead_169 N p1 c v2 w0 w1) := by
  intro c v2 w0 w1
  rw [f_X12_readBlockHead_169]
  refine l1_many mt_X12_readBlockHead (pc' := bif am_cc .le (j_cmp w1 w0.toInt64) 0 then 185 else 174) (L' := [some (.ref 201), some (.int p1), some (.long v2)]) (st' := []) 3 rfl ?_
  refine l1_bif rfl ?_ ?_
  · refine l1_many mt_X12_readBlockHead (pc' := 187) (L' := [some (.ref 201), some (.int p1), some (.long v2)]) (st' := [.int 0, .ref 201]) 2 rfl ?_
    refine l1_putI hQ mt_X12_readBlockHead rfl (o := 201) (ci := 11) (k := 14) (a := 0) rfl rfl rfl rfl rfl rfl (fun c1 => ?_)
    refine l1_many mt_X12_readBlockHead (pc' := 199) (L' := [some (.ref 201), some (.int p1), some (.long v2)]) (st' := [.int 155, .int (p1 + 345), .ref 201]) 5 rfl ?_
    refine l1_callV hQ mt_X12_readBlockHead mt_X12_addName rfl rfl (o := 201) (ci := 11) (As := [.int (p1 + 345), .int 155]) (rest := []) rfl rfl rfl rfl rfl rfl (st1 := fun _ => []) (fun _ => rfl) (ok_X12_addName hQ N c1 (p1 + 345) 155) (fun _ c2 => ?_)
    refine l1_many mt_X12_readBlockHead (pc' := 203) (L' := [some (.ref 201), some (.int p1), some (.long v2)]) (st' := [.ref 201]) 1 rfl ?_
    refine l1_getI hQ mt_X12_readBlockHead rfl (o := 201) (ci := 11) (k := 14) (a := 0) (b := 0) rfl rfl rfl rfl rfl ?_
    refine l1_many mt_X12_readBlockHead (pc' := bif am_cc .le (c2.1 201 14) 0 then 230 else 209) (L' := [some (.ref 201), some (.int p1), some (.long v2)]) (st' := []) 1 rfl ?_
    refine l1_bif rfl ?_ ?_
    · exact ok_X12_readBlockHead_230 hQ N p1 c2 v2
    · refine l1_many mt_X12_readBlockHead (pc' := 210) (L' := [some (.ref 201), some (.int p1), some (.long v2)]) (st' := [.ref 201]) 1 rfl ?_
      refine l1_getR hQ mt_X12_readBlockHead rfl (o := 201) (ci := 11) (k := 15) (a := 0) (b := 0) rfl rfl rfl rfl rfl (q := 209) rfl ?_
      refine l1_many mt_X12_readBlockHead (pc' := 214) (L' := [some (.ref 201), some (.int p1), some (.long v2)]) (st' := [.ref 201, .ref 209]) 1 rfl ?_
      refine l1_getI hQ mt_X12_readBlockHead rfl (o := 201) (ci := 11) (k := 14) (a := 0) (b := 0) rfl rfl rfl rfl rfl ?_
      refine l1_many mt_X12_readBlockHead (pc' := 219) (L' := [some (.ref 201), some (.int p1), some (.long v2)]) (st' := [.int 47, .int (c2.1 201 14), .ref 209]) 1 rfl ?_
      refine l1_ck (fun hx => ?_)
      refine l1_ast hQ mt_X12_readBlockHead rfl (o := 209) rfl hx (fun c3 => ?_)
      refine l1_many mt_X12_readBlockHead (pc' := 222) (L' := [some (.ref 201), some (.int p1), some (.long v2)]) (st' := [.ref 201, .ref 201]) 2 rfl ?_
      refine l1_getI hQ mt_X12_readBlockHead rfl (o := 201) (ci := 11) (k := 14) (a := 0) (b := 0) rfl rfl rfl rfl rfl ?_
      refine l1_many mt_X12_readBlockHead (pc' := 227) (L' := [some (.ref 201), some (.int p1), some (.long v2)]) (st' := [.int ((c3.1 201 14) + 1), .ref 201]) 2 rfl ?_
      refine l1_putI hQ mt_X12_readBlockHead rfl (o := 201) (ci := 11) (k := 14) (a := 0) rfl rfl rfl rfl rfl rfl (fun c4 => ?_)
      exact ok_X12_readBlockHead_230 hQ N p1 c4 v2
  · refine l1_many mt_X12_readBlockHead (pc' := 181) (L' := [some (.ref 201), some (.int p1), some (.long v2)]) (st' := [.int (p1 + 124), .int 7, .ref 201]) 5 rfl ?_
    refine l1_callV hQ mt_X12_readBlockHead mt_X12_fails rfl rfl (o := 201) (ci := 11) (As := [.int 7, .int (p1 + 124)]) (rest := []) rfl rfl rfl rfl rfl rfl (st1 := fun x5 => [.int x5]) (fun _ => rfl) (ok_X12_fails hQ c 7 (p1 + 124)) (fun x5 c6 => ?_)
    refine l1_ck (fun hz => ?_)
    exact l1_retZ mt_X12_readBlockHead rfl rfl rfl hz
set_option maxRecDepth 100000 in
theorem ok_X12_readBlockHead_151 {Q : hS → am_H → Prop} (hQ : l1_em km Q) (N : Nat) (p1 : Int32) : ∀ (c : hS) (v2 : Int64) (w0 : Int32), l1_G (wN wI) Q am_i_X12_readBlockHead 151 [some (.ref 201), some (.int p1), some (.long v2)] [.int w0, .ref 201] c (f_X12_readBlockHead_151 N p1 c v2 w0) := by
  intro c v2 w0
  rw [f_X12_readBlockHead_151]
  refine l1_ck (fun hz => ?_)
  refine l1_putI hQ mt_X12_readBlockHead rfl (o := 201) (ci := 11) (k := 18) (a := 0) rfl rfl rfl rfl rfl (l1_fz (ci := 11) (j := 18) rfl hz) (fun c1 => ?_)
  refine l1_many mt_X12_readBlockHead (pc' := 156) (L' := [some (.ref 201), some (.int p1), some (.long v2)]) (st' := [.ref 201, .long v2]) 2 rfl ?_
  refine l1_getI hQ mt_X12_readBlockHead rfl (o := 201) (ci := 11) (k := 18) (a := 0) (b := 0) rfl rfl rfl rfl rfl ?_
  refine l1_many mt_X12_readBlockHead (pc' := bif am_cc .eq (c1.1 201 18) 0 then 166 else 162) (L' := [some (.ref 201), some (.int p1), some (.long v2)]) (st' := [.long v2]) 1 rfl ?_
  refine l1_bif rfl ?_ ?_
  · refine l1_many mt_X12_readBlockHead (pc' := 169) (L' := [some (.ref 201), some (.int p1), some (.long v2)]) (st' := [.int 400, .long v2]) 1 rfl ?_
    exact ok_X12_readBlockHead_169 hQ N p1 c1 v2 400 v2
  · refine l1_many mt_X12_readBlockHead (pc' := 169) (L' := [some (.ref 201), some (.int p1), some (.long v2)]) (st' := [.int 0, .long v2]) 2 rfl ?_
    exact ok_X12_readBlockHead_169 hQ N p1 c1 v2 0 v2
set_option maxRecDepth 100000 in
theorem ok_X12_readBlockHead_138 {Q : hS → am_H → Prop} (hQ : l1_em km Q) (N : Nat) (p1 : Int32) : ∀ (c : hS) (v2 : Int64) (v4 : Int32), l1_G (wN wI) Q am_i_X12_readBlockHead 138 [some (.ref 201), some (.int p1), some (.long v2), none, some (.int v4)] [] c (f_X12_readBlockHead_138 N p1 c v2 v4) := by
  intro c v2 v4
  rw [f_X12_readBlockHead_138]
  refine l1_many mt_X12_readBlockHead (pc' := bif am_cc .ne v4 53 then 150 else 146) (L' := [some (.ref 201), some (.int p1), some (.long v2), none, some (.int v4)]) (st' := [.ref 201]) 4 rfl ?_
  refine l1_bin rfl ?_ ?_
  · refine l1_many mt_X12_readBlockHead (pc' := 151) (L' := [some (.ref 201), some (.int p1), some (.long v2), none, some (.int v4)]) (st' := [.int 1, .ref 201]) 2 rfl ?_
    refine l1_weak (m := [true, true, true, false, false]) (L' := [some (.ref 201), some (.int p1), some (.long v2)]) rfl ?_
    exact ok_X12_readBlockHead_151 hQ N p1 c v2 1
  · refine l1_many mt_X12_readBlockHead (pc' := 151) (L' := [some (.ref 201), some (.int p1), some (.long v2), none, some (.int v4)]) (st' := [.int 0, .ref 201]) 1 rfl ?_
    refine l1_weak (m := [true, true, true, false, false]) (L' := [some (.ref 201), some (.int p1), some (.long v2)]) rfl ?_
    exact ok_X12_readBlockHead_151 hQ N p1 c v2 0
set_option maxRecDepth 100000 in
theorem en_X12_readBlockHead {Q : hS → am_H → Prop} (hQ : l1_em km Q) (N : Nat) (c : hS) (p1 : Int32) : l1_G (wN wI) Q am_i_X12_readBlockHead 0 [some (.ref 201), some (.int p1)] [] c (f_X12_readBlockHead N c p1) := by
  rw [f_X12_readBlockHead]
  refine l1_many mt_X12_readBlockHead (pc' := 2) (L' := [some (.ref 201), some (.int p1)]) (st' := [.int p1, .ref 201]) 2 rfl ?_
  refine l1_callV hQ mt_X12_readBlockHead mt_X12_readSum rfl rfl (o := 201) (ci := 11) (As := [.int p1]) (rest := []) rfl rfl rfl rfl rfl rfl (st1 := fun x1 => [.int x1]) (fun _ => rfl) (ok_X12_readSum hQ N c p1) (fun x1 c2 => ?_)
  refine l1_many mt_X12_readBlockHead (pc' := bif am_cc .eq x1 0 then 72 else 8) (L' := [some (.ref 201), some (.int p1)]) (st' := []) 1 rfl ?_
  refine l1_bif rfl ?_ ?_
  · refine l1_many mt_X12_readBlockHead (pc' := 73) (L' := [some (.ref 201), some (.int p1)]) (st' := [.int 0]) 1 rfl ?_
    exact l1_ret mt_X12_readBlockHead rfl rfl rfl
  · refine l1_many mt_X12_readBlockHead (pc' := 14) (L' := [some (.ref 201), some (.int p1)]) (st' := [.int (p1 + 257), .ref 201]) 4 rfl ?_
    refine l1_callV hQ mt_X12_readBlockHead mt_X12_readMark rfl rfl (o := 201) (ci := 11) (As := [.int (p1 + 257)]) (rest := []) rfl rfl rfl rfl rfl rfl (st1 := fun x3 => [.int x3]) (fun _ => rfl) (ok_X12_readMark hQ N c2 (p1 + 257)) (fun x3 c4 => ?_)
    refine l1_many mt_X12_readBlockHead (pc' := bif am_cc .eq x3 0 then 72 else 20) (L' := [some (.ref 201), some (.int p1)]) (st' := []) 1 rfl ?_
    refine l1_bif rfl ?_ ?_
    · refine l1_many mt_X12_readBlockHead (pc' := 73) (L' := [some (.ref 201), some (.int p1)]) (st' := [.int 0]) 1 rfl ?_
      exact l1_ret mt_X12_readBlockHead rfl rfl rfl
    · refine l1_many mt_X12_readBlockHead (pc' := 27) (L' := [some (.ref 201), some (.int p1)]) (st' := [.int 8, .int (p1 + 100), .ref 201]) 5 rfl ?_
      refine l1_callV hQ mt_X12_readBlockHead mt_X12_readOctal rfl rfl (o := 201) (ci := 11) (As := [.int (p1 + 100), .int 8]) (rest := []) rfl rfl rfl rfl rfl rfl (st1 := fun x5 => [.int x5]) (fun _ => rfl) (ok_X12_readOctal hQ N c4 (p1 + 100) 8) (fun x5 c6 => ?_)
      refine l1_many mt_X12_readBlockHead (pc' := bif am_cc .eq x5 0 then 72 else 33) (L' := [some (.ref 201), some (.int p1)]) (st' := []) 1 rfl ?_
      refine l1_bif rfl ?_ ?_
      · refine l1_many mt_X12_readBlockHead (pc' := 73) (L' := [some (.ref 201), some (.int p1)]) (st' := [.int 0]) 1 rfl ?_
        exact l1_ret mt_X12_readBlockHead rfl rfl rfl
      · refine l1_many mt_X12_readBlockHead (pc' := 40) (L' := [some (.ref 201), some (.int p1)]) (st' := [.int 8, .int (p1 + 108), .ref 201]) 5 rfl ?_
        refine l1_callV hQ mt_X12_readBlockHead mt_X12_readOctal rfl rfl (o := 201) (ci := 11) (As := [.int (p1 + 108), .int 8]) (rest := []) rfl rfl rfl rfl rfl rfl (st1 := fun x7 => [.int x7]) (fun _ => rfl) (ok_X12_readOctal hQ N c6 (p1 + 108) 8) (fun x7 c8 => ?_)
        refine l1_many mt_X12_readBlockHead (pc' := bif am_cc .eq x7 0 then 72 else 46) (L' := [some (.ref 201), some (.int p1)]) (st' := []) 1 rfl ?_
        refine l1_bif rfl ?_ ?_
        · refine l1_many mt_X12_readBlockHead (pc' := 73) (L' := [some (.ref 201), some (.int p1)]) (st' := [.int 0]) 1 rfl ?_
          exact l1_ret mt_X12_readBlockHead rfl rfl rfl
        · refine l1_many mt_X12_readBlockHead (pc' := 53) (L' := [some (.ref 201), some (.int p1)]) (st' := [.int 8, .int (p1 + 116), .ref 201]) 5 rfl ?_
          refine l1_callV hQ mt_X12_readBlockHead mt_X12_readOctal rfl rfl (o := 201) (ci := 11) (As := [.int (p1 + 116), .int 8]) (rest := []) rfl rfl rfl rfl rfl rfl (st1 := fun x9 => [.int x9]) (fun _ => rfl) (ok_X12_readOctal hQ N c8 (p1 + 116) 8) (fun x9 c10 => ?_)
          refine l1_many mt_X12_readBlockHead (pc' := bif am_cc .eq x9 0 then 72 else 59) (L' := [some (.ref 201), some (.int p1)]) (st' := []) 1 rfl ?_
          refine l1_bif rfl ?_ ?_
          · refine l1_many mt_X12_readBlockHead (pc' := 73) (L' := [some (.ref 201), some (.int p1)]) (st' := [.int 0]) 1 rfl ?_
            exact l1_ret mt_X12_readBlockHead rfl rfl rfl
          · refine l1_many mt_X12_readBlockHead (pc' := 66) (L' := [some (.ref 201), some (.int p1)]) (st' := [.int 12, .int (p1 + 124), .ref 201]) 5 rfl ?_
            refine l1_callV hQ mt_X12_readBlockHead mt_X12_readOctal rfl rfl (o := 201) (ci := 11) (As := [.int (p1 + 124), .int 12]) (rest := []) rfl rfl rfl rfl rfl rfl (st1 := fun x11 => [.int x11]) (fun _ => rfl) (ok_X12_readOctal hQ N c10 (p1 + 124) 12) (fun x11 c12 => ?_)
            refine l1_many mt_X12_readBlockHead (pc' := bif am_cc .ne x11 0 then 74 else 72) (L' := [some (.ref 201), some (.int p1)]) (st' := []) 1 rfl ?_
            refine l1_bin rfl ?_ ?_
            · refine l1_many mt_X12_readBlockHead (pc' := 73) (L' := [some (.ref 201), some (.int p1)]) (st' := [.int 0]) 1 rfl ?_
              exact l1_ret mt_X12_readBlockHead rfl rfl rfl
            · refine l1_many mt_X12_readBlockHead (pc' := 75) (L' := [some (.ref 201), some (.int p1)]) (st' := [.ref 201]) 1 rfl ?_
              refine l1_getJ hQ mt_X12_readBlockHead rfl (o := 201) (ci := 11) (k := 21) (a := 0) (b := 0) rfl rfl rfl rfl rfl ?_
              refine l1_many mt_X12_readBlockHead (pc' := 87) (L' := [some (.ref 201), some (.int p1), some (.long (c12.2.1 201 21))]) (st' := [.int 12, .int (p1 + 136), .ref 201]) 6 rfl ?_
              refine l1_callV hQ mt_X12_readBlockHead mt_X12_readOctal rfl rfl (o := 201) (ci := 11) (As := [.int (p1 + 136), .int 12]) (rest := []) rfl rfl rfl rfl rfl rfl (st1 := fun x13 => [.int x13]) (fun _ => rfl) (ok_X12_readOctal hQ N c12 (p1 + 136) 12) (fun x13 c14 => ?_)
              refine l1_many mt_X12_readBlockHead (pc' := bif am_cc .ne x13 0 then 95 else 93) (L' := [some (.ref 201), some (.int p1), some (.long (c12.2.1 201 21))]) (st' := []) 1 rfl ?_
              refine l1_bin rfl ?_ ?_
              · refine l1_many mt_X12_readBlockHead (pc' := 94) (L' := [some (.ref 201), some (.int p1), some (.long (c12.2.1 201 21))]) (st' := [.int 0]) 1 rfl ?_
                exact l1_ret mt_X12_readBlockHead rfl rfl rfl
              · refine l1_many mt_X12_readBlockHead (pc' := 96) (L' := [some (.ref 201), some (.int p1), some (.long (c12.2.1 201 21))]) (st' := [.ref 201]) 1 rfl ?_
                refine l1_getR hQ mt_X12_readBlockHead rfl (o := 201) (ci := 11) (k := 3) (a := 0) (b := 0) rfl rfl rfl rfl rfl (q := 203) rfl ?_
                refine l1_many mt_X12_readBlockHead (pc' := 104) (L' := [some (.ref 201), some (.int p1), some (.long (c12.2.1 201 21))]) (st' := [.int (p1 + 156), .ref 203]) 3 rfl ?_
                refine l1_ck (fun hx => ?_)
                refine l1_ald hQ mt_X12_readBlockHead rfl (o := 203) rfl hx ?_
                refine l1_many mt_X12_readBlockHead (pc' := bif am_cc .eq (c14.1 203 (p1 + 156).toNatClampNeg) 48 then 138 else 114) (L' := [some (.ref 201), some (.int p1), some (.long (c12.2.1 201 21)), none, some (.int (c14.1 203 (p1 + 156).toNatClampNeg))]) (st' := []) 4 rfl ?_
                refine l1_bif rfl ?_ ?_
                · exact ok_X12_readBlockHead_138 hQ N p1 c14 (c12.2.1 201 21) (c14.1 203 (p1 + 156).toNatClampNeg)
                · refine l1_many mt_X12_readBlockHead (pc' := bif am_cc .eq (c14.1 203 (p1 + 156).toNatClampNeg) 0 then 138 else 119) (L' := [some (.ref 201), some (.int p1), some (.long (c12.2.1 201 21)), none, some (.int (c14.1 203 (p1 + 156).toNatClampNeg))]) (st' := []) 2 rfl ?_
                  refine l1_bif rfl ?_ ?_
                  · exact ok_X12_readBlockHead_138 hQ N p1 c14 (c12.2.1 201 21) (c14.1 203 (p1 + 156).toNatClampNeg)
                  · refine l1_many mt_X12_readBlockHead (pc' := bif am_cc .eq (c14.1 203 (p1 + 156).toNatClampNeg) 53 then 138 else 126) (L' := [some (.ref 201), some (.int p1), some (.long (c12.2.1 201 21)), none, some (.int (c14.1 203 (p1 + 156).toNatClampNeg))]) (st' := []) 3 rfl ?_
                    refine l1_bif rfl ?_ ?_
                    · exact ok_X12_readBlockHead_138 hQ N p1 c14 (c12.2.1 201 21) (c14.1 203 (p1 + 156).toNatClampNeg)
                    · refine l1_many mt_X12_readBlockHead (pc' := 134) (L' := [some (.ref 201), some (.int p1), some (.long (c12.2.1 201 21)), none, some (.int (c14.1 203 (p1 + 156).toNatClampNeg))]) (st' := [.int (p1 + 156), .int 8, .ref 201]) 5 rfl ?_
                      refine l1_callV hQ mt_X12_readBlockHead mt_X12_fails rfl rfl (o := 201) (ci := 11) (As := [.int 8, .int (p1 + 156)]) (rest := []) rfl rfl rfl rfl rfl rfl (st1 := fun x15 => [.int x15]) (fun _ => rfl) (ok_X12_fails hQ c14 8 (p1 + 156)) (fun x15 c16 => ?_)
                      refine l1_ck (fun hz => ?_)
                      exact l1_retZ mt_X12_readBlockHead rfl rfl rfl hz
theorem ok_X12_readBlockHead {Q : hS → am_H → Prop} (hQ : l1_em km Q) (N : Nat) (c : hS) (p1 : Int32) : l1_T wI Q am_i_X12_readBlockHead [.ref 201, .int p1] c (f_X12_readBlockHead N c p1) := l1_of (en_X12_readBlockHead hQ N c p1) ⟨rfl, rfl, trivial⟩
