/-! THAT THE MACHINE FOLLOWS THEM, printed by gen_l1.py -/
set_option maxRecDepth 100000 in
theorem en_X12_refuses {Q : hS → am_H → Prop} (hQ : l1_em km Q) (c : hS) (p1 : Int32) (p2 : Int32) : l1_G (wN wI) Q am_i_X12_refuses 0 [some (.ref 201), some (.int p1), some (.int p2)] [] c (f_X12_refuses c p1 p2) := by
  rw [f_X12_refuses]
  refine l1_many mt_X12_refuses (pc' := 1) (L' := [some (.ref 201), some (.int p1), some (.int p2)]) (st' := [.ref 201]) 1 rfl ?_
  refine l1_getI hQ mt_X12_refuses rfl (o := 201) (ci := 11) (k := 0) (a := 0) (b := 0) rfl rfl rfl rfl rfl ?_
  refine l1_many mt_X12_refuses (pc' := bif am_cc .ne (c.1 201 0) 0 then 16 else 7) (L' := [some (.ref 201), some (.int p1), some (.int p2)]) (st' := []) 1 rfl ?_
  refine l1_bin rfl ?_ ?_
  · refine l1_many mt_X12_refuses (pc' := bif am_cc .eq p1 0 then 16 else 11) (L' := [some (.ref 201), some (.int p1), some (.int p2)]) (st' := []) 2 rfl ?_
    refine l1_bif rfl ?_ ?_
    · refine l1_many mt_X12_refuses (pc' := 17) (L' := [some (.ref 201), some (.int p1), some (.int p2)]) (st' := [.ref 201]) 1 rfl ?_
      refine l1_getI hQ mt_X12_refuses rfl (o := 201) (ci := 11) (k := 0) (a := 0) (b := 0) rfl rfl rfl rfl rfl ?_
      refine l1_many mt_X12_refuses (pc' := bif am_cc .le (c.1 201 0) 0 then 27 else 23) (L' := [some (.ref 201), some (.int p1), some (.int p2)]) (st' := []) 1 rfl ?_
      refine l1_bif rfl ?_ ?_
      · refine l1_many mt_X12_refuses (pc' := 28) (L' := [some (.ref 201), some (.int p1), some (.int p2)]) (st' := [.int 0]) 1 rfl ?_
        exact l1_ret mt_X12_refuses rfl rfl rfl
      · refine l1_many mt_X12_refuses (pc' := 28) (L' := [some (.ref 201), some (.int p1), some (.int p2)]) (st' := [.int 1]) 2 rfl ?_
        exact l1_ret mt_X12_refuses rfl rfl rfl
    · refine l1_many mt_X12_refuses (pc' := 13) (L' := [some (.ref 201), some (.int p1), some (.int p2)]) (st' := [.int p2, .ref 201]) 2 rfl ?_
      refine l1_putI hQ mt_X12_refuses rfl (o := 201) (ci := 11) (k := 0) (a := 0) rfl rfl rfl rfl rfl rfl (fun c1 => ?_)
      refine l1_many mt_X12_refuses (pc' := 17) (L' := [some (.ref 201), some (.int p1), some (.int p2)]) (st' := [.ref 201]) 1 rfl ?_
      refine l1_getI hQ mt_X12_refuses rfl (o := 201) (ci := 11) (k := 0) (a := 0) (b := 0) rfl rfl rfl rfl rfl ?_
      refine l1_many mt_X12_refuses (pc' := bif am_cc .le (c1.1 201 0) 0 then 27 else 23) (L' := [some (.ref 201), some (.int p1), some (.int p2)]) (st' := []) 1 rfl ?_
      refine l1_bif rfl ?_ ?_
      · refine l1_many mt_X12_refuses (pc' := 28) (L' := [some (.ref 201), some (.int p1), some (.int p2)]) (st' := [.int 0]) 1 rfl ?_
        exact l1_ret mt_X12_refuses rfl rfl rfl
      · refine l1_many mt_X12_refuses (pc' := 28) (L' := [some (.ref 201), some (.int p1), some (.int p2)]) (st' := [.int 1]) 2 rfl ?_
        exact l1_ret mt_X12_refuses rfl rfl rfl
  · refine l1_many mt_X12_refuses (pc' := 17) (L' := [some (.ref 201), some (.int p1), some (.int p2)]) (st' := [.ref 201]) 1 rfl ?_
    refine l1_getI hQ mt_X12_refuses rfl (o := 201) (ci := 11) (k := 0) (a := 0) (b := 0) rfl rfl rfl rfl rfl ?_
    refine l1_many mt_X12_refuses (pc' := bif am_cc .le (c.1 201 0) 0 then 27 else 23) (L' := [some (.ref 201), some (.int p1), some (.int p2)]) (st' := []) 1 rfl ?_
    refine l1_bif rfl ?_ ?_
    · refine l1_many mt_X12_refuses (pc' := 28) (L' := [some (.ref 201), some (.int p1), some (.int p2)]) (st' := [.int 0]) 1 rfl ?_
      exact l1_ret mt_X12_refuses rfl rfl rfl
    · refine l1_many mt_X12_refuses (pc' := 28) (L' := [some (.ref 201), some (.int p1), some (.int p2)]) (st' := [.int 1]) 2 rfl ?_
      exact l1_ret mt_X12_refuses rfl rfl rfl
theorem ok_X12_refuses {Q : hS → am_H → Prop} (hQ : l1_em km Q) (c : hS) (p1 : Int32) (p2 : Int32) : l1_T wI Q am_i_X12_refuses [.ref 201, .int p1, .int p2] c (f_X12_refuses c p1 p2) := l1_of (en_X12_refuses hQ c p1 p2) ⟨rfl, rfl, rfl, trivial⟩
set_option maxRecDepth 100000 in
theorem en_X12_fails {Q : hS → am_H → Prop} (hQ : l1_em km Q) (c : hS) (p1 : Int32) (p2 : Int32) : l1_G (wN wI) Q am_i_X12_fails 0 [some (.ref 201), some (.int p1), some (.int p2)] [] c (f_X12_fails c p1 p2) := by
  rw [f_X12_fails]
  refine l1_many mt_X12_fails (pc' := 1) (L' := [some (.ref 201), some (.int p1), some (.int p2)]) (st' := [.ref 201]) 1 rfl ?_
  refine l1_getI hQ mt_X12_fails rfl (o := 201) (ci := 11) (k := 5) (a := 0) (b := 0) rfl rfl rfl rfl rfl ?_
  refine l1_many mt_X12_fails (pc' := bif am_cc .ne (c.1 201 5) 0 then 17 else 7) (L' := [some (.ref 201), some (.int p1), some (.int p2)]) (st' := []) 1 rfl ?_
  refine l1_bin rfl ?_ ?_
  · refine l1_many mt_X12_fails (pc' := 9) (L' := [some (.ref 201), some (.int p1), some (.int p2)]) (st' := [.int p1, .ref 201]) 2 rfl ?_
    refine l1_putI hQ mt_X12_fails rfl (o := 201) (ci := 11) (k := 5) (a := 0) rfl rfl rfl rfl rfl rfl (fun c1 => ?_)
    refine l1_many mt_X12_fails (pc' := 14) (L' := [some (.ref 201), some (.int p1), some (.int p2)]) (st' := [.int p2, .ref 201]) 2 rfl ?_
    refine l1_putI hQ mt_X12_fails rfl (o := 201) (ci := 11) (k := 6) (a := 0) rfl rfl rfl rfl rfl rfl (fun c2 => ?_)
    refine l1_many mt_X12_fails (pc' := 18) (L' := [some (.ref 201), some (.int p1), some (.int p2)]) (st' := [.int 0]) 1 rfl ?_
    exact l1_ret mt_X12_fails rfl rfl rfl
  · refine l1_many mt_X12_fails (pc' := 18) (L' := [some (.ref 201), some (.int p1), some (.int p2)]) (st' := [.int 0]) 1 rfl ?_
    exact l1_ret mt_X12_fails rfl rfl rfl
theorem ok_X12_fails {Q : hS → am_H → Prop} (hQ : l1_em km Q) (c : hS) (p1 : Int32) (p2 : Int32) : l1_T wI Q am_i_X12_fails [.ref 201, .int p1, .int p2] c (f_X12_fails c p1 p2) := l1_of (en_X12_fails hQ c p1 p2) ⟨rfl, rfl, rfl, trivial⟩
set_option maxRecDepth 100000 in
theorem ok_X12_type_62 {Q : hS → am_H → Prop} (hQ : l1_em km Q) (N : Nat) (p1 : Int64) (p3 : Int32) : ∀ n : Nat, ∀ (c : hS) (v4 : Int32), l1_G (wN wI) Q am_i_X12_type 62 [some (.ref 201), some (.long p1), none, none, some (.int v4)] [] c (f_X12_type_62 N p1 p3 n c v4) := by
  intro n
  induction n with
  | zero => intro c v4; exact l1_none
  | succ n ih =>
    intro c v4
    rw [f_X12_type_62]
    refine l1_many mt_X12_type (pc' := bif am_cc .lt v4 0 then 104 else 67) (L' := [some (.ref 201), some (.long p1), none, none, some (.int v4)]) (st' := []) 2 rfl ?_
    refine l1_bif rfl ?_ ?_
    · refine l1_many mt_X12_type (pc' := 105) (L' := [some (.ref 201), some (.long p1), none, none, some (.int v4)]) (st' := [.ref 201]) 1 rfl ?_
      refine l1_getI hQ mt_X12_type rfl (o := 201) (ci := 11) (k := 2) (a := 0) (b := 0) rfl rfl rfl rfl rfl ?_
      exact l1_ret mt_X12_type rfl rfl rfl
    · refine l1_many mt_X12_type (pc' := 68) (L' := [some (.ref 201), some (.long p1), none, none, some (.int v4)]) (st' := [.ref 201]) 1 rfl ?_
      refine l1_getR hQ mt_X12_type rfl (o := 201) (ci := 11) (k := 1) (a := 0) (b := 0) rfl rfl rfl rfl rfl (q := 202) rfl ?_
      refine l1_many mt_X12_type (pc' := 72) (L' := [some (.ref 201), some (.long p1), none, none, some (.int v4)]) (st' := [.ref 201, .ref 202]) 1 rfl ?_
      refine l1_getI hQ mt_X12_type rfl (o := 201) (ci := 11) (k := 2) (a := 0) (b := 0) rfl rfl rfl rfl rfl ?_
      refine l1_many mt_X12_type (pc' := 87) (L' := [some (.ref 201), some (.long p1), none, none, some (.int v4)]) (st' := [.int (((j_lushr p1 (8 * v4)) &&& 255).toInt32), .int (c.1 201 2), .ref 202]) 8 rfl ?_
      refine l1_ck (fun hx => ?_)
      refine l1_ast hQ mt_X12_type rfl (o := 202) rfl hx (fun c1 => ?_)
      refine l1_many mt_X12_type (pc' := 90) (L' := [some (.ref 201), some (.long p1), none, none, some (.int v4)]) (st' := [.ref 201, .ref 201]) 2 rfl ?_
      refine l1_getI hQ mt_X12_type rfl (o := 201) (ci := 11) (k := 2) (a := 0) (b := 0) rfl rfl rfl rfl rfl ?_
      refine l1_many mt_X12_type (pc' := 95) (L' := [some (.ref 201), some (.long p1), none, none, some (.int v4)]) (st' := [.int ((c1.1 201 2) + 1), .ref 201]) 2 rfl ?_
      refine l1_putI hQ mt_X12_type rfl (o := 201) (ci := 11) (k := 2) (a := 0) rfl rfl rfl rfl rfl rfl (fun c2 => ?_)
      refine l1_many mt_X12_type (pc' := 62) (L' := [some (.ref 201), some (.long p1), none, none, some (.int (v4 + (-1)))]) (st' := []) 2 rfl ?_
      exact ih c2 (v4 + (-1))
set_option maxRecDepth 100000 in
theorem ok_X12_type_48 {Q : hS → am_H → Prop} (hQ : l1_em km Q) (N : Nat) (p1 : Int64) (p3 : Int32) : ∀ (c : hS) (w0 : Int32), l1_G (wN wI) Q am_i_X12_type 48 [some (.ref 201), some (.long p1), none, some (.int p3)] [.int w0, .ref 201] c (f_X12_type_48 N p1 p3 c w0) := by
  intro c w0
  rw [f_X12_type_48]
  refine l1_many mt_X12_type (pc' := 49) (L' := [some (.ref 201), some (.long p1), none, some (.int p3)]) (st' := [.int 2, .int w0, .ref 201]) 1 rfl ?_
  refine l1_callV hQ mt_X12_type mt_X12_refuses rfl rfl (o := 201) (ci := 11) (As := [.int w0, .int 2]) (rest := []) rfl rfl rfl rfl rfl rfl (st1 := fun x1 => [.int x1]) (fun _ => rfl) (ok_X12_refuses hQ c w0 2) (fun x1 c2 => ?_)
  refine l1_many mt_X12_type (pc' := bif am_cc .eq x1 0 then 57 else 55) (L' := [some (.ref 201), some (.long p1), none, some (.int p3)]) (st' := []) 1 rfl ?_
  refine l1_bif rfl ?_ ?_
  · refine l1_many mt_X12_type (pc' := 62) (L' := [some (.ref 201), some (.long p1), none, some (.int p3), some (.int (p3 - 1))]) (st' := []) 4 rfl ?_
    refine l1_weak (m := [true, true, false, false, true]) (L' := [some (.ref 201), some (.long p1), none, none, some (.int (p3 - 1))]) rfl ?_
    exact ok_X12_type_62 hQ N p1 p3 N c2 (p3 - 1)
  · refine l1_many mt_X12_type (pc' := 56) (L' := [some (.ref 201), some (.long p1), none, some (.int p3)]) (st' := [.int 0]) 1 rfl ?_
    exact l1_ret mt_X12_type rfl rfl rfl
set_option maxRecDepth 100000 in
theorem ok_X12_type_23 {Q : hS → am_H → Prop} (hQ : l1_em km Q) (N : Nat) (p1 : Int64) (p3 : Int32) : ∀ (c : hS) (w0 : Int32), l1_G (wN wI) Q am_i_X12_type 23 [some (.ref 201), some (.long p1), none, some (.int p3)] [.int w0, .ref 201] c (f_X12_type_23 N p1 p3 c w0) := by
  intro c w0
  rw [f_X12_type_23]
  refine l1_many mt_X12_type (pc' := 24) (L' := [some (.ref 201), some (.long p1), none, some (.int p3)]) (st' := [.int 1, .int w0, .ref 201]) 1 rfl ?_
  refine l1_callV hQ mt_X12_type mt_X12_refuses rfl rfl (o := 201) (ci := 11) (As := [.int w0, .int 1]) (rest := []) rfl rfl rfl rfl rfl rfl (st1 := fun x1 => [.int x1]) (fun _ => rfl) (ok_X12_refuses hQ c w0 1) (fun x1 c2 => ?_)
  refine l1_many mt_X12_type (pc' := bif am_cc .ne x1 0 then 55 else 30) (L' := [some (.ref 201), some (.long p1), none, some (.int p3)]) (st' := []) 1 rfl ?_
  refine l1_bin rfl ?_ ?_
  · refine l1_many mt_X12_type (pc' := 32) (L' := [some (.ref 201), some (.long p1), none, some (.int p3)]) (st' := [.ref 201, .ref 201]) 2 rfl ?_
    refine l1_getI hQ mt_X12_type rfl (o := 201) (ci := 11) (k := 2) (a := 0) (b := 0) rfl rfl rfl rfl rfl ?_
    refine l1_many mt_X12_type (pc' := bif am_cc .le ((c2.1 201 2) + p3) 512 then 47 else 43) (L' := [some (.ref 201), some (.long p1), none, some (.int p3)]) (st' := [.ref 201]) 4 rfl ?_
    refine l1_bif rfl ?_ ?_
    · refine l1_many mt_X12_type (pc' := 48) (L' := [some (.ref 201), some (.long p1), none, some (.int p3)]) (st' := [.int 0, .ref 201]) 1 rfl ?_
      exact ok_X12_type_48 hQ N p1 p3 c2 0
    · refine l1_many mt_X12_type (pc' := 48) (L' := [some (.ref 201), some (.long p1), none, some (.int p3)]) (st' := [.int 1, .ref 201]) 2 rfl ?_
      exact ok_X12_type_48 hQ N p1 p3 c2 1
  · refine l1_many mt_X12_type (pc' := 56) (L' := [some (.ref 201), some (.long p1), none, some (.int p3)]) (st' := [.int 0]) 1 rfl ?_
    exact l1_ret mt_X12_type rfl rfl rfl
set_option maxRecDepth 100000 in
theorem en_X12_type {Q : hS → am_H → Prop} (hQ : l1_em km Q) (N : Nat) (c : hS) (p1 : Int64) (p3 : Int32) : l1_G (wN wI) Q am_i_X12_type 0 [some (.ref 201), some (.long p1), none, some (.int p3)] [] c (f_X12_type N c p1 p3) := by
  rw [f_X12_type]
  refine l1_many mt_X12_type (pc' := 2) (L' := [some (.ref 201), some (.long p1), none, some (.int p3)]) (st' := [.int 0, .ref 201]) 2 rfl ?_
  refine l1_putI hQ mt_X12_type rfl (o := 201) (ci := 11) (k := 0) (a := 0) rfl rfl rfl rfl rfl rfl (fun c1 => ?_)
  refine l1_many mt_X12_type (pc' := 12) (L' := [some (.ref 201), some (.long p1), none, some (.int p3)]) (st' := [.long 8, .long 1, .long p3.toInt64, .ref 201]) 5 rfl ?_
  refine l1_callS mt_X12_type mt_X12_in rfl rfl (As := [.long p3.toInt64, .long 1, .long 8]) (rest := [.ref 201]) rfl rfl rfl (st1 := fun x2 => [.int x2, .ref 201]) (fun _ => rfl) (ok_X12_in hQ c1 p3.toInt64 1 8) (fun x2 c3 => ?_)
  refine l1_many mt_X12_type (pc' := bif am_cc .ne x2 0 then 22 else 18) (L' := [some (.ref 201), some (.long p1), none, some (.int p3)]) (st' := [.ref 201]) 1 rfl ?_
  refine l1_bin rfl ?_ ?_
  · refine l1_many mt_X12_type (pc' := 23) (L' := [some (.ref 201), some (.long p1), none, some (.int p3)]) (st' := [.int 1, .ref 201]) 2 rfl ?_
    exact ok_X12_type_23 hQ N p1 p3 c3 1
  · refine l1_many mt_X12_type (pc' := 23) (L' := [some (.ref 201), some (.long p1), none, some (.int p3)]) (st' := [.int 0, .ref 201]) 1 rfl ?_
    exact ok_X12_type_23 hQ N p1 p3 c3 0
theorem ok_X12_type {Q : hS → am_H → Prop} (hQ : l1_em km Q) (N : Nat) (c : hS) (p1 : Int64) (p3 : Int32) : l1_T wI Q am_i_X12_type [.ref 201, .long p1, .int p3] c (f_X12_type N c p1 p3) := l1_of (en_X12_type hQ N c p1 p3) ⟨rfl, rfl, rfl, trivial⟩
set_option maxRecDepth 100000 in
theorem ok_X12_keep_25 {Q : hS → am_H → Prop} (hQ : l1_em km Q) (p1 : Int32) : ∀ (c : hS) (w0 : Int32), l1_G (wN wV) Q am_i_X12_keep 25 [some (.ref 201), some (.int p1)] [.int w0, .ref 201] c (f_X12_keep_25 p1 c w0) := by
  intro c w0
  rw [f_X12_keep_25]
  refine l1_many mt_X12_keep (pc' := 26) (L' := [some (.ref 201), some (.int p1)]) (st' := [.int 1, .int w0, .ref 201]) 1 rfl ?_
  refine l1_callV hQ mt_X12_keep mt_X12_refuses rfl rfl (o := 201) (ci := 11) (As := [.int w0, .int 1]) (rest := []) rfl rfl rfl rfl rfl rfl (st1 := fun x1 => [.int x1]) (fun _ => rfl) (ok_X12_refuses hQ c w0 1) (fun x1 c2 => ?_)
  refine l1_many mt_X12_keep (pc' := bif am_cc .ne x1 0 then 37 else 32) (L' := [some (.ref 201), some (.int p1)]) (st' := []) 1 rfl ?_
  refine l1_bin rfl ?_ ?_
  · refine l1_many mt_X12_keep (pc' := 34) (L' := [some (.ref 201), some (.int p1)]) (st' := [.int p1, .ref 201]) 2 rfl ?_
    refine l1_putI hQ mt_X12_keep rfl (o := 201) (ci := 11) (k := 2) (a := 0) rfl rfl rfl rfl rfl rfl (fun c3 => ?_)
    exact l1_ret mt_X12_keep rfl rfl rfl
  · exact l1_ret mt_X12_keep rfl rfl rfl
set_option maxRecDepth 100000 in
theorem en_X12_keep {Q : hS → am_H → Prop} (hQ : l1_em km Q) (c : hS) (p1 : Int32) : l1_G (wN wV) Q am_i_X12_keep 0 [some (.ref 201), some (.int p1)] [] c (f_X12_keep c p1) := by
  rw [f_X12_keep]
  refine l1_many mt_X12_keep (pc' := 2) (L' := [some (.ref 201), some (.int p1)]) (st' := [.int 0, .ref 201]) 2 rfl ?_
  refine l1_putI hQ mt_X12_keep rfl (o := 201) (ci := 11) (k := 0) (a := 0) rfl rfl rfl rfl rfl rfl (fun c1 => ?_)
  refine l1_many mt_X12_keep (pc' := 10) (L' := [some (.ref 201), some (.int p1)]) (st' := [.ref 201, .long 0, .long p1.toInt64, .ref 201]) 5 rfl ?_
  refine l1_getI hQ mt_X12_keep rfl (o := 201) (ci := 11) (k := 2) (a := 0) (b := 0) rfl rfl rfl rfl rfl ?_
  refine l1_many mt_X12_keep (pc' := 14) (L' := [some (.ref 201), some (.int p1)]) (st' := [.long ((c1.1 201 2).toInt64), .long 0, .long p1.toInt64, .ref 201]) 1 rfl ?_
  refine l1_callS mt_X12_keep mt_X12_in rfl rfl (As := [.long p1.toInt64, .long 0, .long ((c1.1 201 2).toInt64)]) (rest := [.ref 201]) rfl rfl rfl (st1 := fun x2 => [.int x2, .ref 201]) (fun _ => rfl) (ok_X12_in hQ c1 p1.toInt64 0 ((c1.1 201 2).toInt64)) (fun x2 c3 => ?_)
  refine l1_many mt_X12_keep (pc' := bif am_cc .ne x2 0 then 24 else 20) (L' := [some (.ref 201), some (.int p1)]) (st' := [.ref 201]) 1 rfl ?_
  refine l1_bin rfl ?_ ?_
  · refine l1_many mt_X12_keep (pc' := 25) (L' := [some (.ref 201), some (.int p1)]) (st' := [.int 1, .ref 201]) 2 rfl ?_
    exact ok_X12_keep_25 hQ p1 c3 1
  · refine l1_many mt_X12_keep (pc' := 25) (L' := [some (.ref 201), some (.int p1)]) (st' := [.int 0, .ref 201]) 1 rfl ?_
    exact ok_X12_keep_25 hQ p1 c3 0
theorem ok_X12_keep {Q : hS → am_H → Prop} (hQ : l1_em km Q) (c : hS) (p1 : Int32) : l1_T wV Q am_i_X12_keep [.ref 201, .int p1] c (f_X12_keep c p1) := l1_of (en_X12_keep hQ c p1) ⟨rfl, rfl, trivial⟩
set_option maxRecDepth 100000 in
theorem ok_X12_typed_27 {Q : hS → am_H → Prop} (hQ : l1_em km Q) (p1 : Int32) : ∀ (c : hS) (w0 : Int32), l1_G (wN wI) Q am_i_X12_typed 27 [some (.ref 201), some (.int p1)] [.int w0, .ref 201] c (f_X12_typed_27 p1 c w0) := by
  intro c w0
  rw [f_X12_typed_27]
  refine l1_many mt_X12_typed (pc' := 28) (L' := [some (.ref 201), some (.int p1)]) (st' := [.int 1, .int w0, .ref 201]) 1 rfl ?_
  refine l1_callV hQ mt_X12_typed mt_X12_refuses rfl rfl (o := 201) (ci := 11) (As := [.int w0, .int 1]) (rest := []) rfl rfl rfl rfl rfl rfl (st1 := fun x1 => [.int x1]) (fun _ => rfl) (ok_X12_refuses hQ c w0 1) (fun x1 c2 => ?_)
  refine l1_many mt_X12_typed (pc' := bif am_cc .eq x1 0 then 38 else 34) (L' := [some (.ref 201), some (.int p1)]) (st' := []) 1 rfl ?_
  refine l1_bif rfl ?_ ?_
  · refine l1_many mt_X12_typed (pc' := 39) (L' := [some (.ref 201), some (.int p1)]) (st' := [.ref 201]) 1 rfl ?_
    refine l1_getR hQ mt_X12_typed rfl (o := 201) (ci := 11) (k := 1) (a := 0) (b := 0) rfl rfl rfl rfl rfl (q := 202) rfl ?_
    refine l1_many mt_X12_typed (pc' := 43) (L' := [some (.ref 201), some (.int p1)]) (st' := [.int p1, .ref 202]) 1 rfl ?_
    refine l1_ck (fun hx => ?_)
    refine l1_ald hQ mt_X12_typed rfl (o := 202) rfl hx ?_
    exact l1_ret mt_X12_typed rfl rfl rfl
  · refine l1_many mt_X12_typed (pc' := 44) (L' := [some (.ref 201), some (.int p1)]) (st' := [.int 0]) 2 rfl ?_
    exact l1_ret mt_X12_typed rfl rfl rfl
set_option maxRecDepth 100000 in
theorem en_X12_typed {Q : hS → am_H → Prop} (hQ : l1_em km Q) (c : hS) (p1 : Int32) : l1_G (wN wI) Q am_i_X12_typed 0 [some (.ref 201), some (.int p1)] [] c (f_X12_typed c p1) := by
  rw [f_X12_typed]
  refine l1_many mt_X12_typed (pc' := 2) (L' := [some (.ref 201), some (.int p1)]) (st' := [.int 0, .ref 201]) 2 rfl ?_
  refine l1_putI hQ mt_X12_typed rfl (o := 201) (ci := 11) (k := 0) (a := 0) rfl rfl rfl rfl rfl rfl (fun c1 => ?_)
  refine l1_many mt_X12_typed (pc' := 10) (L' := [some (.ref 201), some (.int p1)]) (st' := [.ref 201, .long 0, .long p1.toInt64, .ref 201]) 5 rfl ?_
  refine l1_getI hQ mt_X12_typed rfl (o := 201) (ci := 11) (k := 2) (a := 0) (b := 0) rfl rfl rfl rfl rfl ?_
  refine l1_many mt_X12_typed (pc' := 16) (L' := [some (.ref 201), some (.int p1)]) (st' := [.long (((c1.1 201 2) - 1).toInt64), .long 0, .long p1.toInt64, .ref 201]) 3 rfl ?_
  refine l1_callS mt_X12_typed mt_X12_in rfl rfl (As := [.long p1.toInt64, .long 0, .long (((c1.1 201 2) - 1).toInt64)]) (rest := [.ref 201]) rfl rfl rfl (st1 := fun x2 => [.int x2, .ref 201]) (fun _ => rfl) (ok_X12_in hQ c1 p1.toInt64 0 (((c1.1 201 2) - 1).toInt64)) (fun x2 c3 => ?_)
  refine l1_many mt_X12_typed (pc' := bif am_cc .ne x2 0 then 26 else 22) (L' := [some (.ref 201), some (.int p1)]) (st' := [.ref 201]) 1 rfl ?_
  refine l1_bin rfl ?_ ?_
  · refine l1_many mt_X12_typed (pc' := 27) (L' := [some (.ref 201), some (.int p1)]) (st' := [.int 1, .ref 201]) 2 rfl ?_
    exact ok_X12_typed_27 hQ p1 c3 1
  · refine l1_many mt_X12_typed (pc' := 27) (L' := [some (.ref 201), some (.int p1)]) (st' := [.int 0, .ref 201]) 1 rfl ?_
    exact ok_X12_typed_27 hQ p1 c3 0
theorem ok_X12_typed {Q : hS → am_H → Prop} (hQ : l1_em km Q) (c : hS) (p1 : Int32) : l1_T wI Q am_i_X12_typed [.ref 201, .int p1] c (f_X12_typed c p1) := l1_of (en_X12_typed hQ c p1) ⟨rfl, rfl, trivial⟩
set_option maxRecDepth 100000 in
theorem en_X12_put {Q : hS → am_H → Prop} (hQ : l1_em km Q) (c : hS) (p1 : Int32) : l1_G (wN wV) Q am_i_X12_put 0 [some (.ref 201), some (.int p1)] [] c (f_X12_put c p1) := by
  rw [f_X12_put]
  refine l1_many mt_X12_put (pc' := 1) (L' := [some (.ref 201), some (.int p1)]) (st' := [.ref 201]) 1 rfl ?_
  refine l1_getR hQ mt_X12_put rfl (o := 201) (ci := 11) (k := 3) (a := 0) (b := 0) rfl rfl rfl rfl rfl (q := 203) rfl ?_
  refine l1_many mt_X12_put (pc' := 5) (L' := [some (.ref 201), some (.int p1)]) (st' := [.ref 201, .ref 203]) 1 rfl ?_
  refine l1_getI hQ mt_X12_put rfl (o := 201) (ci := 11) (k := 4) (a := 0) (b := 0) rfl rfl rfl rfl rfl ?_
  refine l1_many mt_X12_put (pc' := 13) (L' := [some (.ref 201), some (.int p1)]) (st' := [.int (p1 &&& 255), .int (c.1 201 4), .ref 203]) 3 rfl ?_
  refine l1_ck (fun hx => ?_)
  refine l1_ast hQ mt_X12_put rfl (o := 203) rfl hx (fun c1 => ?_)
  refine l1_many mt_X12_put (pc' := 16) (L' := [some (.ref 201), some (.int p1)]) (st' := [.ref 201, .ref 201]) 2 rfl ?_
  refine l1_getI hQ mt_X12_put rfl (o := 201) (ci := 11) (k := 4) (a := 0) (b := 0) rfl rfl rfl rfl rfl ?_
  refine l1_many mt_X12_put (pc' := 21) (L' := [some (.ref 201), some (.int p1)]) (st' := [.int ((c1.1 201 4) + 1), .ref 201]) 2 rfl ?_
  refine l1_putI hQ mt_X12_put rfl (o := 201) (ci := 11) (k := 4) (a := 0) rfl rfl rfl rfl rfl rfl (fun c2 => ?_)
  exact l1_ret mt_X12_put rfl rfl rfl
theorem ok_X12_put {Q : hS → am_H → Prop} (hQ : l1_em km Q) (c : hS) (p1 : Int32) : l1_T wV Q am_i_X12_put [.ref 201, .int p1] c (f_X12_put c p1) := l1_of (en_X12_put hQ c p1) ⟨rfl, rfl, trivial⟩
set_option maxRecDepth 100000 in
theorem ok_X12_feed_89 {Q : hS → am_H → Prop} (hQ : l1_em km Q) (N : Nat) (p1 : Int32) (p2 : Int32) (p3 : Int32) (p4 : Int32) (p5 : Int32) {k36 : hS → Int32 → Option (Int32 × hS)} (hk36 : ∀ c v6, l1_G (wN wI) Q am_i_X12_feed 36 [some (.ref 201), some (.int p1), some (.int p2), some (.int p3), some (.int p4), some (.int p5), some (.int v6)] [] c (k36 c v6)) : ∀ (c : hS) (v6 : Int32) (w0 : Int32), l1_G (wN wI) Q am_i_X12_feed 89 [some (.ref 201), some (.int p1), some (.int p2), some (.int p3), some (.int p4), some (.int p5), some (.int v6)] [.int w0] c (f_X12_feed_89 N p1 p2 p3 p4 p5 k36 c v6 w0) := by
  intro c v6 w0
  rw [f_X12_feed_89]
  refine l1_many mt_X12_feed (pc' := 105) (L' := [some (.ref 201), some (.int p1), some (.int p2), some (.int p3), some (.int p4), some (.int p5), some (.int v6), some (.int w0)]) (st' := [.int (j_shr w0 (24 - (8 * (j_rem v6 4)))), .ref 201]) 11 rfl ?_
  refine l1_callV hQ mt_X12_feed mt_X12_put rfl rfl (o := 201) (ci := 11) (As := [.int (j_shr w0 (24 - (8 * (j_rem v6 4))))]) (rest := []) rfl rfl rfl rfl rfl rfl (st1 := fun _ => []) (fun _ => rfl) (ok_X12_put hQ c (j_shr w0 (24 - (8 * (j_rem v6 4))))) (fun _ c1 => ?_)
  refine l1_many mt_X12_feed (pc' := 36) (L' := [some (.ref 201), some (.int p1), some (.int p2), some (.int p3), some (.int p4), some (.int p5), some (.int (v6 + 1)), some (.int w0)]) (st' := []) 2 rfl ?_
  refine l1_weak (m := [true, true, true, true, true, true, true, false]) (L' := [some (.ref 201), some (.int p1), some (.int p2), some (.int p3), some (.int p4), some (.int p5), some (.int (v6 + 1))]) rfl ?_
  exact hk36 c1 (v6 + 1)
set_option maxRecDepth 100000 in
theorem ok_X12_feed_36 {Q : hS → am_H → Prop} (hQ : l1_em km Q) (N : Nat) (p1 : Int32) (p2 : Int32) (p3 : Int32) (p4 : Int32) (p5 : Int32) : ∀ n : Nat, ∀ (c : hS) (v6 : Int32), l1_G (wN wI) Q am_i_X12_feed 36 [some (.ref 201), some (.int p1), some (.int p2), some (.int p3), some (.int p4), some (.int p5), some (.int v6)] [] c (f_X12_feed_36 N p1 p2 p3 p4 p5 n c v6) := by
  intro n
  induction n with
  | zero => intro c v6; exact l1_none
  | succ n ih =>
    intro c v6
    rw [f_X12_feed_36]
    refine l1_many mt_X12_feed (pc' := bif am_cc .ge v6 20 then 114 else 43) (L' := [some (.ref 201), some (.int p1), some (.int p2), some (.int p3), some (.int p4), some (.int p5), some (.int v6)]) (st' := []) 3 rfl ?_
    refine l1_bif rfl ?_ ?_
    · refine l1_many mt_X12_feed (pc' := 115) (L' := [some (.ref 201), some (.int p1), some (.int p2), some (.int p3), some (.int p4), some (.int p5), some (.int v6)]) (st' := [.ref 201]) 1 rfl ?_
      refine l1_getI hQ mt_X12_feed rfl (o := 201) (ci := 11) (k := 4) (a := 0) (b := 0) rfl rfl rfl rfl rfl ?_
      exact l1_ret mt_X12_feed rfl rfl rfl
    · refine l1_many mt_X12_feed (pc' := bif am_cc .ge v6 4 then 53 else 49) (L' := [some (.ref 201), some (.int p1), some (.int p2), some (.int p3), some (.int p4), some (.int p5), some (.int v6)]) (st' := []) 3 rfl ?_
      refine l1_bif rfl ?_ ?_
      · refine l1_many mt_X12_feed (pc' := bif am_cc .ge v6 8 then 64 else 60) (L' := [some (.ref 201), some (.int p1), some (.int p2), some (.int p3), some (.int p4), some (.int p5), some (.int v6)]) (st' := []) 3 rfl ?_
        refine l1_bif rfl ?_ ?_
        · refine l1_many mt_X12_feed (pc' := bif am_cc .ge v6 12 then 75 else 71) (L' := [some (.ref 201), some (.int p1), some (.int p2), some (.int p3), some (.int p4), some (.int p5), some (.int v6)]) (st' := []) 3 rfl ?_
          refine l1_bif rfl ?_ ?_
          · refine l1_many mt_X12_feed (pc' := bif am_cc .ge v6 16 then 87 else 82) (L' := [some (.ref 201), some (.int p1), some (.int p2), some (.int p3), some (.int p4), some (.int p5), some (.int v6)]) (st' := []) 3 rfl ?_
            refine l1_bif rfl ?_ ?_
            · refine l1_many mt_X12_feed (pc' := 89) (L' := [some (.ref 201), some (.int p1), some (.int p2), some (.int p3), some (.int p4), some (.int p5), some (.int v6)]) (st' := [.int p5]) 1 rfl ?_
              exact ok_X12_feed_89 hQ N p1 p2 p3 p4 p5 ih c v6 p5
            · refine l1_many mt_X12_feed (pc' := 89) (L' := [some (.ref 201), some (.int p1), some (.int p2), some (.int p3), some (.int p4), some (.int p5), some (.int v6)]) (st' := [.int p4]) 2 rfl ?_
              exact ok_X12_feed_89 hQ N p1 p2 p3 p4 p5 ih c v6 p4
          · refine l1_many mt_X12_feed (pc' := 89) (L' := [some (.ref 201), some (.int p1), some (.int p2), some (.int p3), some (.int p4), some (.int p5), some (.int v6)]) (st' := [.int p3]) 2 rfl ?_
            exact ok_X12_feed_89 hQ N p1 p2 p3 p4 p5 ih c v6 p3
        · refine l1_many mt_X12_feed (pc' := 89) (L' := [some (.ref 201), some (.int p1), some (.int p2), some (.int p3), some (.int p4), some (.int p5), some (.int v6)]) (st' := [.int p2]) 2 rfl ?_
          exact ok_X12_feed_89 hQ N p1 p2 p3 p4 p5 ih c v6 p2
      · refine l1_many mt_X12_feed (pc' := 89) (L' := [some (.ref 201), some (.int p1), some (.int p2), some (.int p3), some (.int p4), some (.int p5), some (.int v6)]) (st' := [.int p1]) 2 rfl ?_
        exact ok_X12_feed_89 hQ N p1 p2 p3 p4 p5 ih c v6 p1
set_option maxRecDepth 100000 in
theorem ok_X12_feed_24 {Q : hS → am_H → Prop} (hQ : l1_em km Q) (N : Nat) (p1 : Int32) (p2 : Int32) (p3 : Int32) (p4 : Int32) (p5 : Int32) : ∀ (c : hS) (w0 : Int32), l1_G (wN wI) Q am_i_X12_feed 24 [some (.ref 201), some (.int p1), some (.int p2), some (.int p3), some (.int p4), some (.int p5)] [.int w0, .ref 201] c (f_X12_feed_24 N p1 p2 p3 p4 p5 c w0) := by
  intro c w0
  rw [f_X12_feed_24]
  refine l1_many mt_X12_feed (pc' := 25) (L' := [some (.ref 201), some (.int p1), some (.int p2), some (.int p3), some (.int p4), some (.int p5)]) (st' := [.int 1, .int w0, .ref 201]) 1 rfl ?_
  refine l1_callV hQ mt_X12_feed mt_X12_refuses rfl rfl (o := 201) (ci := 11) (As := [.int w0, .int 1]) (rest := []) rfl rfl rfl rfl rfl rfl (st1 := fun x1 => [.int x1]) (fun _ => rfl) (ok_X12_refuses hQ c w0 1) (fun x1 c2 => ?_)
  refine l1_many mt_X12_feed (pc' := bif am_cc .eq x1 0 then 33 else 31) (L' := [some (.ref 201), some (.int p1), some (.int p2), some (.int p3), some (.int p4), some (.int p5)]) (st' := []) 1 rfl ?_
  refine l1_bif rfl ?_ ?_
  · refine l1_many mt_X12_feed (pc' := 36) (L' := [some (.ref 201), some (.int p1), some (.int p2), some (.int p3), some (.int p4), some (.int p5), some (.int 0)]) (st' := []) 2 rfl ?_
    exact ok_X12_feed_36 hQ N p1 p2 p3 p4 p5 N c2 0
  · refine l1_many mt_X12_feed (pc' := 32) (L' := [some (.ref 201), some (.int p1), some (.int p2), some (.int p3), some (.int p4), some (.int p5)]) (st' := [.int 0]) 1 rfl ?_
    exact l1_ret mt_X12_feed rfl rfl rfl
set_option maxRecDepth 100000 in
theorem en_X12_feed {Q : hS → am_H → Prop} (hQ : l1_em km Q) (N : Nat) (c : hS) (p1 : Int32) (p2 : Int32) (p3 : Int32) (p4 : Int32) (p5 : Int32) : l1_G (wN wI) Q am_i_X12_feed 0 [some (.ref 201), some (.int p1), some (.int p2), some (.int p3), some (.int p4), some (.int p5)] [] c (f_X12_feed N c p1 p2 p3 p4 p5) := by
  rw [f_X12_feed]
  refine l1_many mt_X12_feed (pc' := 2) (L' := [some (.ref 201), some (.int p1), some (.int p2), some (.int p3), some (.int p4), some (.int p5)]) (st' := [.int 0, .ref 201]) 2 rfl ?_
  refine l1_putI hQ mt_X12_feed rfl (o := 201) (ci := 11) (k := 0) (a := 0) rfl rfl rfl rfl rfl rfl (fun c1 => ?_)
  refine l1_many mt_X12_feed (pc' := 7) (L' := [some (.ref 201), some (.int p1), some (.int p2), some (.int p3), some (.int p4), some (.int p5)]) (st' := [.ref 201, .ref 201]) 2 rfl ?_
  refine l1_getI hQ mt_X12_feed rfl (o := 201) (ci := 11) (k := 4) (a := 0) (b := 0) rfl rfl rfl rfl rfl ?_
  refine l1_many mt_X12_feed (pc' := bif am_cc .le ((c1.1 201 4) + 20) 20000 then 23 else 19) (L' := [some (.ref 201), some (.int p1), some (.int p2), some (.int p3), some (.int p4), some (.int p5)]) (st' := [.ref 201]) 4 rfl ?_
  refine l1_bif rfl ?_ ?_
  · refine l1_many mt_X12_feed (pc' := 24) (L' := [some (.ref 201), some (.int p1), some (.int p2), some (.int p3), some (.int p4), some (.int p5)]) (st' := [.int 0, .ref 201]) 1 rfl ?_
    exact ok_X12_feed_24 hQ N p1 p2 p3 p4 p5 c1 0
  · refine l1_many mt_X12_feed (pc' := 24) (L' := [some (.ref 201), some (.int p1), some (.int p2), some (.int p3), some (.int p4), some (.int p5)]) (st' := [.int 1, .ref 201]) 2 rfl ?_
    exact ok_X12_feed_24 hQ N p1 p2 p3 p4 p5 c1 1
theorem ok_X12_feed {Q : hS → am_H → Prop} (hQ : l1_em km Q) (N : Nat) (c : hS) (p1 : Int32) (p2 : Int32) (p3 : Int32) (p4 : Int32) (p5 : Int32) : l1_T wI Q am_i_X12_feed [.ref 201, .int p1, .int p2, .int p3, .int p4, .int p5] c (f_X12_feed N c p1 p2 p3 p4 p5) := l1_of (en_X12_feed hQ N c p1 p2 p3 p4 p5) ⟨rfl, rfl, rfl, rfl, rfl, rfl, trivial⟩
set_option maxRecDepth 100000 in
theorem ok_X12_end_25 {Q : hS → am_H → Prop} (hQ : l1_em km Q) (p1 : Int32) : ∀ (c : hS) (w0 : Int32), l1_G (wN wV) Q am_i_X12_end 25 [some (.ref 201), some (.int p1)] [.int w0, .ref 201] c (f_X12_end_25 p1 c w0) := by
  intro c w0
  rw [f_X12_end_25]
  refine l1_many mt_X12_end (pc' := 26) (L' := [some (.ref 201), some (.int p1)]) (st' := [.int 1, .int w0, .ref 201]) 1 rfl ?_
  refine l1_callV hQ mt_X12_end mt_X12_refuses rfl rfl (o := 201) (ci := 11) (As := [.int w0, .int 1]) (rest := []) rfl rfl rfl rfl rfl rfl (st1 := fun x1 => [.int x1]) (fun _ => rfl) (ok_X12_refuses hQ c w0 1) (fun x1 c2 => ?_)
  refine l1_many mt_X12_end (pc' := bif am_cc .ne x1 0 then 37 else 32) (L' := [some (.ref 201), some (.int p1)]) (st' := []) 1 rfl ?_
  refine l1_bin rfl ?_ ?_
  · refine l1_many mt_X12_end (pc' := 34) (L' := [some (.ref 201), some (.int p1)]) (st' := [.int p1, .ref 201]) 2 rfl ?_
    refine l1_putI hQ mt_X12_end rfl (o := 201) (ci := 11) (k := 4) (a := 0) rfl rfl rfl rfl rfl rfl (fun c3 => ?_)
    exact l1_ret mt_X12_end rfl rfl rfl
  · exact l1_ret mt_X12_end rfl rfl rfl
set_option maxRecDepth 100000 in
theorem en_X12_end {Q : hS → am_H → Prop} (hQ : l1_em km Q) (c : hS) (p1 : Int32) : l1_G (wN wV) Q am_i_X12_end 0 [some (.ref 201), some (.int p1)] [] c (f_X12_end c p1) := by
  rw [f_X12_end]
  refine l1_many mt_X12_end (pc' := 2) (L' := [some (.ref 201), some (.int p1)]) (st' := [.int 0, .ref 201]) 2 rfl ?_
  refine l1_putI hQ mt_X12_end rfl (o := 201) (ci := 11) (k := 0) (a := 0) rfl rfl rfl rfl rfl rfl (fun c1 => ?_)
  refine l1_many mt_X12_end (pc' := 10) (L' := [some (.ref 201), some (.int p1)]) (st' := [.ref 201, .long 0, .long p1.toInt64, .ref 201]) 5 rfl ?_
  refine l1_getI hQ mt_X12_end rfl (o := 201) (ci := 11) (k := 4) (a := 0) (b := 0) rfl rfl rfl rfl rfl ?_
  refine l1_many mt_X12_end (pc' := 14) (L' := [some (.ref 201), some (.int p1)]) (st' := [.long ((c1.1 201 4).toInt64), .long 0, .long p1.toInt64, .ref 201]) 1 rfl ?_
  refine l1_callS mt_X12_end mt_X12_in rfl rfl (As := [.long p1.toInt64, .long 0, .long ((c1.1 201 4).toInt64)]) (rest := [.ref 201]) rfl rfl rfl (st1 := fun x2 => [.int x2, .ref 201]) (fun _ => rfl) (ok_X12_in hQ c1 p1.toInt64 0 ((c1.1 201 4).toInt64)) (fun x2 c3 => ?_)
  refine l1_many mt_X12_end (pc' := bif am_cc .ne x2 0 then 24 else 20) (L' := [some (.ref 201), some (.int p1)]) (st' := [.ref 201]) 1 rfl ?_
  refine l1_bin rfl ?_ ?_
  · refine l1_many mt_X12_end (pc' := 25) (L' := [some (.ref 201), some (.int p1)]) (st' := [.int 1, .ref 201]) 2 rfl ?_
    exact ok_X12_end_25 hQ p1 c3 1
  · refine l1_many mt_X12_end (pc' := 25) (L' := [some (.ref 201), some (.int p1)]) (st' := [.int 0, .ref 201]) 1 rfl ?_
    exact ok_X12_end_25 hQ p1 c3 0
theorem ok_X12_end {Q : hS → am_H → Prop} (hQ : l1_em km Q) (c : hS) (p1 : Int32) : l1_T wV Q am_i_X12_end [.ref 201, .int p1] c (f_X12_end c p1) := l1_of (en_X12_end hQ c p1) ⟨rfl, rfl, trivial⟩
set_option maxRecDepth 100000 in
theorem ok_X12_poke_52 {Q : hS → am_H → Prop} (hQ : l1_em km Q) (p1 : Int32) (p2 : Int32) : ∀ (c : hS) (w0 : Int32), l1_G (wN wI) Q am_i_X12_poke 52 [some (.ref 201), some (.int p1), some (.int p2)] [.int w0, .ref 201] c (f_X12_poke_52 p1 p2 c w0) := by
  intro c w0
  rw [f_X12_poke_52]
  refine l1_many mt_X12_poke (pc' := 53) (L' := [some (.ref 201), some (.int p1), some (.int p2)]) (st' := [.int 2, .int w0, .ref 201]) 1 rfl ?_
  refine l1_callV hQ mt_X12_poke mt_X12_refuses rfl rfl (o := 201) (ci := 11) (As := [.int w0, .int 2]) (rest := []) rfl rfl rfl rfl rfl rfl (st1 := fun x1 => [.int x1]) (fun _ => rfl) (ok_X12_refuses hQ c w0 2) (fun x1 c2 => ?_)
  refine l1_many mt_X12_poke (pc' := bif am_cc .eq x1 0 then 61 else 59) (L' := [some (.ref 201), some (.int p1), some (.int p2)]) (st' := []) 1 rfl ?_
  refine l1_bif rfl ?_ ?_
  · refine l1_many mt_X12_poke (pc' := 62) (L' := [some (.ref 201), some (.int p1), some (.int p2)]) (st' := [.ref 201]) 1 rfl ?_
    refine l1_getR hQ mt_X12_poke rfl (o := 201) (ci := 11) (k := 3) (a := 0) (b := 0) rfl rfl rfl rfl rfl (q := 203) rfl ?_
    refine l1_many mt_X12_poke (pc' := 66) (L' := [some (.ref 201), some (.int p1), some (.int p2)]) (st' := [.int p1, .ref 203]) 1 rfl ?_
    refine l1_ck (fun hx => ?_)
    refine l1_ald hQ mt_X12_poke rfl (o := 203) rfl hx ?_
    refine l1_many mt_X12_poke (pc' := 69) (L' := [some (.ref 201), some (.int p1), some (.int p2), some (.int (c2.1 203 p1.toNatClampNeg))]) (st' := [.ref 201]) 2 rfl ?_
    refine l1_getR hQ mt_X12_poke rfl (o := 201) (ci := 11) (k := 3) (a := 0) (b := 0) rfl rfl rfl rfl rfl (q := 203) rfl ?_
    refine l1_many mt_X12_poke (pc' := 74) (L' := [some (.ref 201), some (.int p1), some (.int p2), some (.int (c2.1 203 p1.toNatClampNeg))]) (st' := [.int p2, .int p1, .ref 203]) 2 rfl ?_
    refine l1_ck (fun hx => ?_)
    refine l1_ast hQ mt_X12_poke rfl (o := 203) rfl hx (fun c3 => ?_)
    refine l1_many mt_X12_poke (pc' := 76) (L' := [some (.ref 201), some (.int p1), some (.int p2), some (.int (c2.1 203 p1.toNatClampNeg))]) (st' := [.int (c2.1 203 p1.toNatClampNeg)]) 1 rfl ?_
    exact l1_ret mt_X12_poke rfl rfl rfl
  · refine l1_many mt_X12_poke (pc' := 60) (L' := [some (.ref 201), some (.int p1), some (.int p2)]) (st' := [.int 0]) 1 rfl ?_
    exact l1_ret mt_X12_poke rfl rfl rfl
set_option maxRecDepth 100000 in
theorem ok_X12_poke_27 {Q : hS → am_H → Prop} (hQ : l1_em km Q) (p1 : Int32) (p2 : Int32) : ∀ (c : hS) (w0 : Int32), l1_G (wN wI) Q am_i_X12_poke 27 [some (.ref 201), some (.int p1), some (.int p2)] [.int w0, .ref 201] c (f_X12_poke_27 p1 p2 c w0) := by
  intro c w0
  rw [f_X12_poke_27]
  refine l1_many mt_X12_poke (pc' := 28) (L' := [some (.ref 201), some (.int p1), some (.int p2)]) (st' := [.int 1, .int w0, .ref 201]) 1 rfl ?_
  refine l1_callV hQ mt_X12_poke mt_X12_refuses rfl rfl (o := 201) (ci := 11) (As := [.int w0, .int 1]) (rest := []) rfl rfl rfl rfl rfl rfl (st1 := fun x1 => [.int x1]) (fun _ => rfl) (ok_X12_refuses hQ c w0 1) (fun x1 c2 => ?_)
  refine l1_many mt_X12_poke (pc' := bif am_cc .ne x1 0 then 59 else 34) (L' := [some (.ref 201), some (.int p1), some (.int p2)]) (st' := []) 1 rfl ?_
  refine l1_bin rfl ?_ ?_
  · refine l1_many mt_X12_poke (pc' := 41) (L' := [some (.ref 201), some (.int p1), some (.int p2)]) (st' := [.long 255, .long 0, .long p2.toInt64, .ref 201]) 5 rfl ?_
    refine l1_callS mt_X12_poke mt_X12_in rfl rfl (As := [.long p2.toInt64, .long 0, .long 255]) (rest := [.ref 201]) rfl rfl rfl (st1 := fun x3 => [.int x3, .ref 201]) (fun _ => rfl) (ok_X12_in hQ c2 p2.toInt64 0 255) (fun x3 c4 => ?_)
    refine l1_many mt_X12_poke (pc' := bif am_cc .ne x3 0 then 51 else 47) (L' := [some (.ref 201), some (.int p1), some (.int p2)]) (st' := [.ref 201]) 1 rfl ?_
    refine l1_bin rfl ?_ ?_
    · refine l1_many mt_X12_poke (pc' := 52) (L' := [some (.ref 201), some (.int p1), some (.int p2)]) (st' := [.int 1, .ref 201]) 2 rfl ?_
      exact ok_X12_poke_52 hQ p1 p2 c4 1
    · refine l1_many mt_X12_poke (pc' := 52) (L' := [some (.ref 201), some (.int p1), some (.int p2)]) (st' := [.int 0, .ref 201]) 1 rfl ?_
      exact ok_X12_poke_52 hQ p1 p2 c4 0
  · refine l1_many mt_X12_poke (pc' := 60) (L' := [some (.ref 201), some (.int p1), some (.int p2)]) (st' := [.int 0]) 1 rfl ?_
    exact l1_ret mt_X12_poke rfl rfl rfl
set_option maxRecDepth 100000 in
theorem en_X12_poke {Q : hS → am_H → Prop} (hQ : l1_em km Q) (c : hS) (p1 : Int32) (p2 : Int32) : l1_G (wN wI) Q am_i_X12_poke 0 [some (.ref 201), some (.int p1), some (.int p2)] [] c (f_X12_poke c p1 p2) := by
  rw [f_X12_poke]
  refine l1_many mt_X12_poke (pc' := 2) (L' := [some (.ref 201), some (.int p1), some (.int p2)]) (st' := [.int 0, .ref 201]) 2 rfl ?_
  refine l1_putI hQ mt_X12_poke rfl (o := 201) (ci := 11) (k := 0) (a := 0) rfl rfl rfl rfl rfl rfl (fun c1 => ?_)
  refine l1_many mt_X12_poke (pc' := 10) (L' := [some (.ref 201), some (.int p1), some (.int p2)]) (st' := [.ref 201, .long 0, .long p1.toInt64, .ref 201]) 5 rfl ?_
  refine l1_getI hQ mt_X12_poke rfl (o := 201) (ci := 11) (k := 4) (a := 0) (b := 0) rfl rfl rfl rfl rfl ?_
  refine l1_many mt_X12_poke (pc' := 16) (L' := [some (.ref 201), some (.int p1), some (.int p2)]) (st' := [.long (((c1.1 201 4) - 1).toInt64), .long 0, .long p1.toInt64, .ref 201]) 3 rfl ?_
  refine l1_callS mt_X12_poke mt_X12_in rfl rfl (As := [.long p1.toInt64, .long 0, .long (((c1.1 201 4) - 1).toInt64)]) (rest := [.ref 201]) rfl rfl rfl (st1 := fun x2 => [.int x2, .ref 201]) (fun _ => rfl) (ok_X12_in hQ c1 p1.toInt64 0 (((c1.1 201 4) - 1).toInt64)) (fun x2 c3 => ?_)
  refine l1_many mt_X12_poke (pc' := bif am_cc .ne x2 0 then 26 else 22) (L' := [some (.ref 201), some (.int p1), some (.int p2)]) (st' := [.ref 201]) 1 rfl ?_
  refine l1_bin rfl ?_ ?_
  · refine l1_many mt_X12_poke (pc' := 27) (L' := [some (.ref 201), some (.int p1), some (.int p2)]) (st' := [.int 1, .ref 201]) 2 rfl ?_
    exact ok_X12_poke_27 hQ p1 p2 c3 1
  · refine l1_many mt_X12_poke (pc' := 27) (L' := [some (.ref 201), some (.int p1), some (.int p2)]) (st' := [.int 0, .ref 201]) 1 rfl ?_
    exact ok_X12_poke_27 hQ p1 p2 c3 0
theorem ok_X12_poke {Q : hS → am_H → Prop} (hQ : l1_em km Q) (c : hS) (p1 : Int32) (p2 : Int32) : l1_T wI Q am_i_X12_poke [.ref 201, .int p1, .int p2] c (f_X12_poke c p1 p2) := l1_of (en_X12_poke hQ c p1 p2) ⟨rfl, rfl, rfl, trivial⟩
set_option maxRecDepth 100000 in
theorem ok_X12_at_64 {Q : hS → am_H → Prop} (hQ : l1_em km Q) (N : Nat) (p1 : Int32) (p2 : Int32) : ∀ n : Nat, ∀ (c : hS) (v3 : Int64) (v5 : Int32), l1_G (wN wL) Q am_i_X12_at 64 [some (.ref 201), some (.int p1), some (.int p2), some (.long v3), none, some (.int v5)] [] c (f_X12_at_64 N p1 p2 n c v3 v5) := by
  intro n
  induction n with
  | zero => intro c v3 v5; exact l1_none
  | succ n ih =>
    intro c v3 v5
    rw [f_X12_at_64]
    refine l1_many mt_X12_at (pc' := bif am_cc .ge v5 p2 then 92 else 70) (L' := [some (.ref 201), some (.int p1), some (.int p2), some (.long v3), none, some (.int v5)]) (st' := []) 3 rfl ?_
    refine l1_bif rfl ?_ ?_
    · refine l1_many mt_X12_at (pc' := 93) (L' := [some (.ref 201), some (.int p1), some (.int p2), some (.long v3), none, some (.int v5)]) (st' := [.long v3]) 1 rfl ?_
      exact l1_ret mt_X12_at rfl rfl rfl
    · refine l1_many mt_X12_at (pc' := 75) (L' := [some (.ref 201), some (.int p1), some (.int p2), some (.long v3), none, some (.int v5)]) (st' := [.ref 201, .long (j_lshl v3 8)]) 4 rfl ?_
      refine l1_getR hQ mt_X12_at rfl (o := 201) (ci := 11) (k := 3) (a := 0) (b := 0) rfl rfl rfl rfl rfl (q := 203) rfl ?_
      refine l1_many mt_X12_at (pc' := 82) (L' := [some (.ref 201), some (.int p1), some (.int p2), some (.long v3), none, some (.int v5)]) (st' := [.int (p1 + v5), .ref 203, .long (j_lshl v3 8)]) 3 rfl ?_
      refine l1_ck (fun hx => ?_)
      refine l1_ald hQ mt_X12_at rfl (o := 203) rfl hx ?_
      refine l1_many mt_X12_at (pc' := 64) (L' := [some (.ref 201), some (.int p1), some (.int p2), some (.long ((j_lshl v3 8) ||| ((c.1 203 (p1 + v5).toNatClampNeg).toInt64))), none, some (.int (v5 + 1))]) (st' := []) 5 rfl ?_
      exact ih c ((j_lshl v3 8) ||| ((c.1 203 (p1 + v5).toNatClampNeg).toInt64)) (v5 + 1)
set_option maxRecDepth 100000 in
theorem ok_X12_at_50 {Q : hS → am_H → Prop} (hQ : l1_em km Q) (N : Nat) (p1 : Int32) (p2 : Int32) : ∀ (c : hS) (w0 : Int32), l1_G (wN wL) Q am_i_X12_at 50 [some (.ref 201), some (.int p1), some (.int p2)] [.int w0, .ref 201] c (f_X12_at_50 N p1 p2 c w0) := by
  intro c w0
  rw [f_X12_at_50]
  refine l1_many mt_X12_at (pc' := 51) (L' := [some (.ref 201), some (.int p1), some (.int p2)]) (st' := [.int 2, .int w0, .ref 201]) 1 rfl ?_
  refine l1_callV hQ mt_X12_at mt_X12_refuses rfl rfl (o := 201) (ci := 11) (As := [.int w0, .int 2]) (rest := []) rfl rfl rfl rfl rfl rfl (st1 := fun x1 => [.int x1]) (fun _ => rfl) (ok_X12_refuses hQ c w0 2) (fun x1 c2 => ?_)
  refine l1_many mt_X12_at (pc' := bif am_cc .eq x1 0 then 59 else 57) (L' := [some (.ref 201), some (.int p1), some (.int p2)]) (st' := []) 1 rfl ?_
  refine l1_bif rfl ?_ ?_
  · refine l1_many mt_X12_at (pc' := 64) (L' := [some (.ref 201), some (.int p1), some (.int p2), some (.long 0), none, some (.int 0)]) (st' := []) 4 rfl ?_
    exact ok_X12_at_64 hQ N p1 p2 N c2 0 0
  · refine l1_many mt_X12_at (pc' := 58) (L' := [some (.ref 201), some (.int p1), some (.int p2)]) (st' := [.long 0]) 1 rfl ?_
    exact l1_ret mt_X12_at rfl rfl rfl
set_option maxRecDepth 100000 in
theorem ok_X12_at_45 {Q : hS → am_H → Prop} (hQ : l1_em km Q) (N : Nat) (p1 : Int32) (p2 : Int32) : ∀ (c : hS), l1_G (wN wL) Q am_i_X12_at 45 [some (.ref 201), some (.int p1), some (.int p2)] [.ref 201] c (f_X12_at_45 N p1 p2 c) := by
  intro c
  rw [f_X12_at_45]
  refine l1_many mt_X12_at (pc' := 50) (L' := [some (.ref 201), some (.int p1), some (.int p2)]) (st' := [.int 1, .ref 201]) 2 rfl ?_
  exact ok_X12_at_50 hQ N p1 p2 c 1
set_option maxRecDepth 100000 in
theorem ok_X12_at_23 {Q : hS → am_H → Prop} (hQ : l1_em km Q) (N : Nat) (p1 : Int32) (p2 : Int32) : ∀ (c : hS) (w0 : Int32), l1_G (wN wL) Q am_i_X12_at 23 [some (.ref 201), some (.int p1), some (.int p2)] [.int w0, .ref 201] c (f_X12_at_23 N p1 p2 c w0) := by
  intro c w0
  rw [f_X12_at_23]
  refine l1_many mt_X12_at (pc' := 24) (L' := [some (.ref 201), some (.int p1), some (.int p2)]) (st' := [.int 1, .int w0, .ref 201]) 1 rfl ?_
  refine l1_callV hQ mt_X12_at mt_X12_refuses rfl rfl (o := 201) (ci := 11) (As := [.int w0, .int 1]) (rest := []) rfl rfl rfl rfl rfl rfl (st1 := fun x1 => [.int x1]) (fun _ => rfl) (ok_X12_refuses hQ c w0 1) (fun x1 c2 => ?_)
  refine l1_many mt_X12_at (pc' := bif am_cc .ne x1 0 then 57 else 30) (L' := [some (.ref 201), some (.int p1), some (.int p2)]) (st' := []) 1 rfl ?_
  refine l1_bin rfl ?_ ?_
  · refine l1_many mt_X12_at (pc' := bif am_cc .lt p1 0 then 45 else 35) (L' := [some (.ref 201), some (.int p1), some (.int p2)]) (st' := [.ref 201]) 3 rfl ?_
    refine l1_bif rfl ?_ ?_
    · exact ok_X12_at_45 hQ N p1 p2 c2
    · refine l1_many mt_X12_at (pc' := 37) (L' := [some (.ref 201), some (.int p1), some (.int p2)]) (st' := [.ref 201, .int p1, .ref 201]) 2 rfl ?_
      refine l1_getI hQ mt_X12_at rfl (o := 201) (ci := 11) (k := 4) (a := 0) (b := 0) rfl rfl rfl rfl rfl ?_
      refine l1_many mt_X12_at (pc' := bif am_cc .le p1 ((c2.1 201 4) - p2) then 49 else 45) (L' := [some (.ref 201), some (.int p1), some (.int p2)]) (st' := [.ref 201]) 3 rfl ?_
      refine l1_bif rfl ?_ ?_
      · refine l1_many mt_X12_at (pc' := 50) (L' := [some (.ref 201), some (.int p1), some (.int p2)]) (st' := [.int 0, .ref 201]) 1 rfl ?_
        exact ok_X12_at_50 hQ N p1 p2 c2 0
      · exact ok_X12_at_45 hQ N p1 p2 c2
  · refine l1_many mt_X12_at (pc' := 58) (L' := [some (.ref 201), some (.int p1), some (.int p2)]) (st' := [.long 0]) 1 rfl ?_
    exact l1_ret mt_X12_at rfl rfl rfl
set_option maxRecDepth 100000 in
theorem en_X12_at {Q : hS → am_H → Prop} (hQ : l1_em km Q) (N : Nat) (c : hS) (p1 : Int32) (p2 : Int32) : l1_G (wN wL) Q am_i_X12_at 0 [some (.ref 201), some (.int p1), some (.int p2)] [] c (f_X12_at N c p1 p2) := by
  rw [f_X12_at]
  refine l1_many mt_X12_at (pc' := 2) (L' := [some (.ref 201), some (.int p1), some (.int p2)]) (st' := [.int 0, .ref 201]) 2 rfl ?_
  refine l1_putI hQ mt_X12_at rfl (o := 201) (ci := 11) (k := 0) (a := 0) rfl rfl rfl rfl rfl rfl (fun c1 => ?_)
  refine l1_many mt_X12_at (pc' := 12) (L' := [some (.ref 201), some (.int p1), some (.int p2)]) (st' := [.long 8, .long 1, .long p2.toInt64, .ref 201]) 5 rfl ?_
  refine l1_callS mt_X12_at mt_X12_in rfl rfl (As := [.long p2.toInt64, .long 1, .long 8]) (rest := [.ref 201]) rfl rfl rfl (st1 := fun x2 => [.int x2, .ref 201]) (fun _ => rfl) (ok_X12_in hQ c1 p2.toInt64 1 8) (fun x2 c3 => ?_)
  refine l1_many mt_X12_at (pc' := bif am_cc .ne x2 0 then 22 else 18) (L' := [some (.ref 201), some (.int p1), some (.int p2)]) (st' := [.ref 201]) 1 rfl ?_
  refine l1_bin rfl ?_ ?_
  · refine l1_many mt_X12_at (pc' := 23) (L' := [some (.ref 201), some (.int p1), some (.int p2)]) (st' := [.int 1, .ref 201]) 2 rfl ?_
    exact ok_X12_at_23 hQ N p1 p2 c3 1
  · refine l1_many mt_X12_at (pc' := 23) (L' := [some (.ref 201), some (.int p1), some (.int p2)]) (st' := [.int 0, .ref 201]) 1 rfl ?_
    exact ok_X12_at_23 hQ N p1 p2 c3 0
theorem ok_X12_at {Q : hS → am_H → Prop} (hQ : l1_em km Q) (N : Nat) (c : hS) (p1 : Int32) (p2 : Int32) : l1_T wL Q am_i_X12_at [.ref 201, .int p1, .int p2] c (f_X12_at N c p1 p2) := l1_of (en_X12_at hQ N c p1 p2) ⟨rfl, rfl, rfl, trivial⟩
set_option maxRecDepth 100000 in
theorem ok_X12_count_23 {Q : hS → am_H → Prop} (hQ : l1_em km Q) (p1 : Int32) : ∀ (c : hS) (w0 : Int32), l1_G (wN wI) Q am_i_X12_count 23 [some (.ref 201), some (.int p1)] [.int w0, .ref 201] c (f_X12_count_23 p1 c w0) := by
  intro c w0
  rw [f_X12_count_23]
  refine l1_many mt_X12_count (pc' := 24) (L' := [some (.ref 201), some (.int p1)]) (st' := [.int 1, .int w0, .ref 201]) 1 rfl ?_
  refine l1_callV hQ mt_X12_count mt_X12_refuses rfl rfl (o := 201) (ci := 11) (As := [.int w0, .int 1]) (rest := []) rfl rfl rfl rfl rfl rfl (st1 := fun x1 => [.int x1]) (fun _ => rfl) (ok_X12_refuses hQ c w0 1) (fun x1 c2 => ?_)
  refine l1_many mt_X12_count (pc' := bif am_cc .eq x1 0 then 34 else 30) (L' := [some (.ref 201), some (.int p1)]) (st' := []) 1 rfl ?_
  refine l1_bif rfl ?_ ?_
  · refine l1_many mt_X12_count (pc' := bif am_cc .ne p1 0 then 45 else 38) (L' := [some (.ref 201), some (.int p1)]) (st' := []) 2 rfl ?_
    refine l1_bin rfl ?_ ?_
    · refine l1_many mt_X12_count (pc' := 39) (L' := [some (.ref 201), some (.int p1)]) (st' := [.ref 201]) 1 rfl ?_
      refine l1_getI hQ mt_X12_count rfl (o := 201) (ci := 11) (k := 7) (a := 0) (b := 0) rfl rfl rfl rfl rfl ?_
      refine l1_many mt_X12_count (pc' := 61) (L' := [some (.ref 201), some (.int p1)]) (st' := [.int (c2.1 201 7)]) 1 rfl ?_
      exact l1_ret mt_X12_count rfl rfl rfl
    · refine l1_many mt_X12_count (pc' := bif am_cc .ne p1 1 then 57 else 50) (L' := [some (.ref 201), some (.int p1)]) (st' := []) 3 rfl ?_
      refine l1_bin rfl ?_ ?_
      · refine l1_many mt_X12_count (pc' := 51) (L' := [some (.ref 201), some (.int p1)]) (st' := [.ref 201]) 1 rfl ?_
        refine l1_getI hQ mt_X12_count rfl (o := 201) (ci := 11) (k := 2) (a := 0) (b := 0) rfl rfl rfl rfl rfl ?_
        refine l1_many mt_X12_count (pc' := 61) (L' := [some (.ref 201), some (.int p1)]) (st' := [.int (c2.1 201 2)]) 1 rfl ?_
        exact l1_ret mt_X12_count rfl rfl rfl
      · refine l1_many mt_X12_count (pc' := 58) (L' := [some (.ref 201), some (.int p1)]) (st' := [.ref 201]) 1 rfl ?_
        refine l1_getI hQ mt_X12_count rfl (o := 201) (ci := 11) (k := 4) (a := 0) (b := 0) rfl rfl rfl rfl rfl ?_
        exact l1_ret mt_X12_count rfl rfl rfl
  · refine l1_many mt_X12_count (pc' := 61) (L' := [some (.ref 201), some (.int p1)]) (st' := [.int 0]) 2 rfl ?_
    exact l1_ret mt_X12_count rfl rfl rfl
set_option maxRecDepth 100000 in
theorem en_X12_count {Q : hS → am_H → Prop} (hQ : l1_em km Q) (c : hS) (p1 : Int32) : l1_G (wN wI) Q am_i_X12_count 0 [some (.ref 201), some (.int p1)] [] c (f_X12_count c p1) := by
  rw [f_X12_count]
  refine l1_many mt_X12_count (pc' := 2) (L' := [some (.ref 201), some (.int p1)]) (st' := [.int 0, .ref 201]) 2 rfl ?_
  refine l1_putI hQ mt_X12_count rfl (o := 201) (ci := 11) (k := 0) (a := 0) rfl rfl rfl rfl rfl rfl (fun c1 => ?_)
  refine l1_many mt_X12_count (pc' := 12) (L' := [some (.ref 201), some (.int p1)]) (st' := [.long 2, .long 0, .long p1.toInt64, .ref 201]) 5 rfl ?_
  refine l1_callS mt_X12_count mt_X12_in rfl rfl (As := [.long p1.toInt64, .long 0, .long 2]) (rest := [.ref 201]) rfl rfl rfl (st1 := fun x2 => [.int x2, .ref 201]) (fun _ => rfl) (ok_X12_in hQ c1 p1.toInt64 0 2) (fun x2 c3 => ?_)
  refine l1_many mt_X12_count (pc' := bif am_cc .ne x2 0 then 22 else 18) (L' := [some (.ref 201), some (.int p1)]) (st' := [.ref 201]) 1 rfl ?_
  refine l1_bin rfl ?_ ?_
  · refine l1_many mt_X12_count (pc' := 23) (L' := [some (.ref 201), some (.int p1)]) (st' := [.int 1, .ref 201]) 2 rfl ?_
    exact ok_X12_count_23 hQ p1 c3 1
  · refine l1_many mt_X12_count (pc' := 23) (L' := [some (.ref 201), some (.int p1)]) (st' := [.int 0, .ref 201]) 1 rfl ?_
    exact ok_X12_count_23 hQ p1 c3 0
theorem ok_X12_count {Q : hS → am_H → Prop} (hQ : l1_em km Q) (c : hS) (p1 : Int32) : l1_T wI Q am_i_X12_count [.ref 201, .int p1] c (f_X12_count c p1) := l1_of (en_X12_count hQ c p1) ⟨rfl, rfl, trivial⟩
set_option maxRecDepth 100000 in
theorem ok_X12_fault_21 {Q : hS → am_H → Prop} (hQ : l1_em km Q) (p1 : Int32) : ∀ (c : hS) (w0 : Int32), l1_G (wN wI) Q am_i_X12_fault 21 [some (.ref 201), some (.int p1)] [.int w0, .ref 201] c (f_X12_fault_21 p1 c w0) := by
  intro c w0
  rw [f_X12_fault_21]
  refine l1_many mt_X12_fault (pc' := 22) (L' := [some (.ref 201), some (.int p1)]) (st' := [.int 1, .int w0, .ref 201]) 1 rfl ?_
  refine l1_callV hQ mt_X12_fault mt_X12_refuses rfl rfl (o := 201) (ci := 11) (As := [.int w0, .int 1]) (rest := []) rfl rfl rfl rfl rfl rfl (st1 := fun x1 => [.int x1]) (fun _ => rfl) (ok_X12_refuses hQ c w0 1) (fun x1 c2 => ?_)
  refine l1_many mt_X12_fault (pc' := bif am_cc .eq x1 0 then 32 else 28) (L' := [some (.ref 201), some (.int p1)]) (st' := []) 1 rfl ?_
  refine l1_bif rfl ?_ ?_
  · refine l1_many mt_X12_fault (pc' := bif am_cc .ne p1 0 then 43 else 36) (L' := [some (.ref 201), some (.int p1)]) (st' := []) 2 rfl ?_
    refine l1_bin rfl ?_ ?_
    · refine l1_many mt_X12_fault (pc' := 37) (L' := [some (.ref 201), some (.int p1)]) (st' := [.ref 201]) 1 rfl ?_
      refine l1_getI hQ mt_X12_fault rfl (o := 201) (ci := 11) (k := 5) (a := 0) (b := 0) rfl rfl rfl rfl rfl ?_
      refine l1_many mt_X12_fault (pc' := 47) (L' := [some (.ref 201), some (.int p1)]) (st' := [.int (c2.1 201 5)]) 1 rfl ?_
      exact l1_ret mt_X12_fault rfl rfl rfl
    · refine l1_many mt_X12_fault (pc' := 44) (L' := [some (.ref 201), some (.int p1)]) (st' := [.ref 201]) 1 rfl ?_
      refine l1_getI hQ mt_X12_fault rfl (o := 201) (ci := 11) (k := 6) (a := 0) (b := 0) rfl rfl rfl rfl rfl ?_
      exact l1_ret mt_X12_fault rfl rfl rfl
  · refine l1_many mt_X12_fault (pc' := 47) (L' := [some (.ref 201), some (.int p1)]) (st' := [.int 0]) 2 rfl ?_
    exact l1_ret mt_X12_fault rfl rfl rfl
set_option maxRecDepth 100000 in
theorem en_X12_fault {Q : hS → am_H → Prop} (hQ : l1_em km Q) (c : hS) (p1 : Int32) : l1_G (wN wI) Q am_i_X12_fault 0 [some (.ref 201), some (.int p1)] [] c (f_X12_fault c p1) := by
  rw [f_X12_fault]
  refine l1_many mt_X12_fault (pc' := 2) (L' := [some (.ref 201), some (.int p1)]) (st' := [.int 0, .ref 201]) 2 rfl ?_
  refine l1_putI hQ mt_X12_fault rfl (o := 201) (ci := 11) (k := 0) (a := 0) rfl rfl rfl rfl rfl rfl (fun c1 => ?_)
  refine l1_many mt_X12_fault (pc' := 10) (L' := [some (.ref 201), some (.int p1)]) (st' := [.long 1, .long 0, .long p1.toInt64, .ref 201]) 5 rfl ?_
  refine l1_callS mt_X12_fault mt_X12_in rfl rfl (As := [.long p1.toInt64, .long 0, .long 1]) (rest := [.ref 201]) rfl rfl rfl (st1 := fun x2 => [.int x2, .ref 201]) (fun _ => rfl) (ok_X12_in hQ c1 p1.toInt64 0 1) (fun x2 c3 => ?_)
  refine l1_many mt_X12_fault (pc' := bif am_cc .ne x2 0 then 20 else 16) (L' := [some (.ref 201), some (.int p1)]) (st' := [.ref 201]) 1 rfl ?_
  refine l1_bin rfl ?_ ?_
  · refine l1_many mt_X12_fault (pc' := 21) (L' := [some (.ref 201), some (.int p1)]) (st' := [.int 1, .ref 201]) 2 rfl ?_
    exact ok_X12_fault_21 hQ p1 c3 1
  · refine l1_many mt_X12_fault (pc' := 21) (L' := [some (.ref 201), some (.int p1)]) (st' := [.int 0, .ref 201]) 1 rfl ?_
    exact ok_X12_fault_21 hQ p1 c3 0
theorem ok_X12_fault {Q : hS → am_H → Prop} (hQ : l1_em km Q) (c : hS) (p1 : Int32) : l1_T wI Q am_i_X12_fault [.ref 201, .int p1] c (f_X12_fault c p1) := l1_of (en_X12_fault hQ c p1) ⟨rfl, rfl, trivial⟩
set_option maxRecDepth 100000 in
theorem en_X12_nameAt {Q : hS → am_H → Prop} (hQ : l1_em km Q) (c : hS) (p1 : Int32) (p2 : Int32) : l1_G (wN wI) Q am_i_X12_nameAt 0 [some (.ref 201), some (.int p1), some (.int p2)] [] c (f_X12_nameAt c p1 p2) := by
  rw [f_X12_nameAt]
  refine l1_many mt_X12_nameAt (pc' := 1) (L' := [some (.ref 201), some (.int p1), some (.int p2)]) (st' := [.ref 201]) 1 rfl ?_
  refine l1_getR hQ mt_X12_nameAt rfl (o := 201) (ci := 11) (k := 10) (a := 0) (b := 0) rfl rfl rfl rfl rfl (q := 205) rfl ?_
  refine l1_many mt_X12_nameAt (pc' := 10) (L' := [some (.ref 201), some (.int p1), some (.int p2)]) (st' := [.int ((90 * p1) + p2), .ref 205]) 5 rfl ?_
  refine l1_ck (fun hx => ?_)
  refine l1_ald hQ mt_X12_nameAt rfl (o := 205) rfl hx ?_
  exact l1_ret mt_X12_nameAt rfl rfl rfl
theorem ok_X12_nameAt {Q : hS → am_H → Prop} (hQ : l1_em km Q) (c : hS) (p1 : Int32) (p2 : Int32) : l1_T wI Q am_i_X12_nameAt [.ref 201, .int p1, .int p2] c (f_X12_nameAt c p1 p2) := l1_of (en_X12_nameAt hQ c p1 p2) ⟨rfl, rfl, rfl, trivial⟩
set_option maxRecDepth 100000 in
theorem ok_X12_isName_50 {Q : hS → am_H → Prop} (hQ : l1_em km Q) (N : Nat) {k23 : hS → Int32 → Int32 → Int32 → Option (Int32 × hS)} (hk23 : ∀ c v1 v2 v3, l1_G (wN wI) Q am_i_X12_isName 23 [some (.ref 201), some (.int v1), some (.int v2), some (.int v3)] [] c (k23 c v1 v2 v3)) : ∀ (c : hS) (v1 : Int32) (v2 : Int32) (v3 : Int32) (w0 : Int32), l1_G (wN wI) Q am_i_X12_isName 50 [some (.ref 201), some (.int v1), some (.int v2), some (.int v3)] [.int w0] c (f_X12_isName_50 N k23 c v1 v2 v3 w0) := by
  intro c v1 v2 v3 w0
  rw [f_X12_isName_50]
  refine l1_many mt_X12_isName (pc' := bif am_cc .ne w0 47 then 81 else 59) (L' := [some (.ref 201), some (.int v1), some (.int v2), some (.int v3), some (.int w0)]) (st' := []) 4 rfl ?_
  refine l1_bin rfl ?_ ?_
  · refine l1_many mt_X12_isName (pc' := bif am_cc .eq v1 0 then 72 else 63) (L' := [some (.ref 201), some (.int v1), some (.int v2), some (.int v3), some (.int w0)]) (st' := []) 2 rfl ?_
    refine l1_bif rfl ?_ ?_
    · refine l1_many mt_X12_isName (pc' := 73) (L' := [some (.ref 201), some (.int v1), some (.int v2), some (.int v3), some (.int w0)]) (st' := [.int 0]) 1 rfl ?_
      exact l1_ret mt_X12_isName rfl rfl rfl
    · refine l1_many mt_X12_isName (pc' := bif am_cc .eq v2 0 then 74 else 67) (L' := [some (.ref 201), some (.int v1), some (.int v2), some (.int v3), some (.int w0)]) (st' := []) 2 rfl ?_
      refine l1_bif rfl ?_ ?_
      · refine l1_many mt_X12_isName (pc' := 23) (L' := [some (.ref 201), some (.int 0), some (.int 1), some (.int (v3 + 1)), some (.int w0)]) (st' := []) 7 rfl ?_
        refine l1_weak (m := [true, true, true, true, false]) (L' := [some (.ref 201), some (.int 0), some (.int 1), some (.int (v3 + 1))]) rfl ?_
        exact hk23 c 0 1 (v3 + 1)
      · refine l1_many mt_X12_isName (pc' := bif am_cc .ge v1 3 then 74 else 72) (L' := [some (.ref 201), some (.int v1), some (.int v2), some (.int v3), some (.int w0)]) (st' := []) 3 rfl ?_
        refine l1_bif rfl ?_ ?_
        · refine l1_many mt_X12_isName (pc' := 23) (L' := [some (.ref 201), some (.int 0), some (.int 1), some (.int (v3 + 1)), some (.int w0)]) (st' := []) 7 rfl ?_
          refine l1_weak (m := [true, true, true, true, false]) (L' := [some (.ref 201), some (.int 0), some (.int 1), some (.int (v3 + 1))]) rfl ?_
          exact hk23 c 0 1 (v3 + 1)
        · refine l1_many mt_X12_isName (pc' := 73) (L' := [some (.ref 201), some (.int v1), some (.int v2), some (.int v3), some (.int w0)]) (st' := [.int 0]) 1 rfl ?_
          exact l1_ret mt_X12_isName rfl rfl rfl
  · refine l1_many mt_X12_isName (pc' := 90) (L' := [some (.ref 201), some (.int v1), some (.int v2), some (.int v3), some (.int w0)]) (st' := [.long 126, .long 33, .long w0.toInt64]) 4 rfl ?_
    refine l1_callS mt_X12_isName mt_X12_in rfl rfl (As := [.long w0.toInt64, .long 33, .long 126]) (rest := []) rfl rfl rfl (st1 := fun x1 => [.int x1]) (fun _ => rfl) (ok_X12_in hQ c w0.toInt64 33 126) (fun x1 c2 => ?_)
    refine l1_many mt_X12_isName (pc' := bif am_cc .ne x1 0 then 98 else 96) (L' := [some (.ref 201), some (.int v1), some (.int v2), some (.int v3), some (.int w0)]) (st' := []) 1 rfl ?_
    refine l1_bin rfl ?_ ?_
    · refine l1_many mt_X12_isName (pc' := 97) (L' := [some (.ref 201), some (.int v1), some (.int v2), some (.int v3), some (.int w0)]) (st' := [.int 0]) 1 rfl ?_
      exact l1_ret mt_X12_isName rfl rfl rfl
    · refine l1_many mt_X12_isName (pc' := bif am_cc .eq v2 0 then 113 else 102) (L' := [some (.ref 201), some (.int v1), some (.int v2), some (.int v3), some (.int w0)]) (st' := []) 2 rfl ?_
      refine l1_bif rfl ?_ ?_
      · refine l1_many mt_X12_isName (pc' := 23) (L' := [some (.ref 201), some (.int (v1 + 1)), some (.int 0), some (.int (v3 + 1)), some (.int w0)]) (st' := []) 5 rfl ?_
        refine l1_weak (m := [true, true, true, true, false]) (L' := [some (.ref 201), some (.int (v1 + 1)), some (.int 0), some (.int (v3 + 1))]) rfl ?_
        exact hk23 c2 (v1 + 1) 0 (v3 + 1)
      · refine l1_many mt_X12_isName (pc' := bif am_cc .ne w0 46 then 113 else 109) (L' := [some (.ref 201), some (.int v1), some (.int v2), some (.int v3), some (.int w0)]) (st' := []) 3 rfl ?_
        refine l1_bin rfl ?_ ?_
        · refine l1_many mt_X12_isName (pc' := 23) (L' := [some (.ref 201), some (.int (v1 + 1)), some (.int 1), some (.int (v3 + 1)), some (.int w0)]) (st' := []) 6 rfl ?_
          refine l1_weak (m := [true, true, true, true, false]) (L' := [some (.ref 201), some (.int (v1 + 1)), some (.int 1), some (.int (v3 + 1))]) rfl ?_
          exact hk23 c2 (v1 + 1) 1 (v3 + 1)
        · refine l1_many mt_X12_isName (pc' := 23) (L' := [some (.ref 201), some (.int (v1 + 1)), some (.int 0), some (.int (v3 + 1)), some (.int w0)]) (st' := []) 5 rfl ?_
          refine l1_weak (m := [true, true, true, true, false]) (L' := [some (.ref 201), some (.int (v1 + 1)), some (.int 0), some (.int (v3 + 1))]) rfl ?_
          exact hk23 c2 (v1 + 1) 0 (v3 + 1)
set_option maxRecDepth 100000 in
theorem ok_X12_isName_23 {Q : hS → am_H → Prop} (hQ : l1_em km Q) (N : Nat) : ∀ n : Nat, ∀ (c : hS) (v1 : Int32) (v2 : Int32) (v3 : Int32), l1_G (wN wI) Q am_i_X12_isName 23 [some (.ref 201), some (.int v1), some (.int v2), some (.int v3)] [] c (f_X12_isName_23 N n c v1 v2 v3) := by
  intro n
  induction n with
  | zero => intro c v1 v2 v3; exact l1_none
  | succ n ih =>
    intro c v1 v2 v3
    rw [f_X12_isName_23]
    refine l1_many mt_X12_isName (pc' := 25) (L' := [some (.ref 201), some (.int v1), some (.int v2), some (.int v3)]) (st' := [.ref 201, .int v3]) 2 rfl ?_
    refine l1_getI hQ mt_X12_isName rfl (o := 201) (ci := 11) (k := 14) (a := 0) (b := 0) rfl rfl rfl rfl rfl ?_
    refine l1_many mt_X12_isName (pc' := bif am_cc .gt v3 (c.1 201 14) then 124 else 31) (L' := [some (.ref 201), some (.int v1), some (.int v2), some (.int v3)]) (st' := []) 1 rfl ?_
    refine l1_bif rfl ?_ ?_
    · refine l1_many mt_X12_isName (pc' := 125) (L' := [some (.ref 201), some (.int v1), some (.int v2), some (.int v3)]) (st' := [.int 1]) 1 rfl ?_
      exact l1_ret mt_X12_isName rfl rfl rfl
    · refine l1_many mt_X12_isName (pc' := 33) (L' := [some (.ref 201), some (.int v1), some (.int v2), some (.int v3)]) (st' := [.ref 201, .int v3]) 2 rfl ?_
      refine l1_getI hQ mt_X12_isName rfl (o := 201) (ci := 11) (k := 14) (a := 0) (b := 0) rfl rfl rfl rfl rfl ?_
      refine l1_many mt_X12_isName (pc' := bif am_cc .ge v3 (c.1 201 14) then 48 else 39) (L' := [some (.ref 201), some (.int v1), some (.int v2), some (.int v3)]) (st' := []) 1 rfl ?_
      refine l1_bif rfl ?_ ?_
      · refine l1_many mt_X12_isName (pc' := 50) (L' := [some (.ref 201), some (.int v1), some (.int v2), some (.int v3)]) (st' := [.int 47]) 1 rfl ?_
        exact ok_X12_isName_50 hQ N ih c v1 v2 v3 47
      · refine l1_many mt_X12_isName (pc' := 40) (L' := [some (.ref 201), some (.int v1), some (.int v2), some (.int v3)]) (st' := [.ref 201]) 1 rfl ?_
        refine l1_getR hQ mt_X12_isName rfl (o := 201) (ci := 11) (k := 15) (a := 0) (b := 0) rfl rfl rfl rfl rfl (q := 209) rfl ?_
        refine l1_many mt_X12_isName (pc' := 44) (L' := [some (.ref 201), some (.int v1), some (.int v2), some (.int v3)]) (st' := [.int v3, .ref 209]) 1 rfl ?_
        refine l1_ck (fun hx => ?_)
        refine l1_ald hQ mt_X12_isName rfl (o := 209) rfl hx ?_
        refine l1_many mt_X12_isName (pc' := 50) (L' := [some (.ref 201), some (.int v1), some (.int v2), some (.int v3)]) (st' := [.int (c.1 209 v3.toNatClampNeg)]) 1 rfl ?_
        exact ok_X12_isName_50 hQ N ih c v1 v2 v3 (c.1 209 v3.toNatClampNeg)
set_option maxRecDepth 100000 in
theorem en_X12_isName {Q : hS → am_H → Prop} (hQ : l1_em km Q) (N : Nat) (c : hS) : l1_G (wN wI) Q am_i_X12_isName 0 [some (.ref 201)] [] c (f_X12_isName N c) := by
  rw [f_X12_isName]
  refine l1_many mt_X12_isName (pc' := 1) (L' := [some (.ref 201)]) (st' := [.ref 201]) 1 rfl ?_
  refine l1_getI hQ mt_X12_isName rfl (o := 201) (ci := 11) (k := 14) (a := 0) (b := 0) rfl rfl rfl rfl rfl ?_
  refine l1_many mt_X12_isName (pc' := 9) (L' := [some (.ref 201)]) (st' := [.long 90, .long 1, .long ((c.1 201 14).toInt64)]) 3 rfl ?_
  refine l1_callS mt_X12_isName mt_X12_in rfl rfl (As := [.long ((c.1 201 14).toInt64), .long 1, .long 90]) (rest := []) rfl rfl rfl (st1 := fun x1 => [.int x1]) (fun _ => rfl) (ok_X12_in hQ c ((c.1 201 14).toInt64) 1 90) (fun x1 c2 => ?_)
  refine l1_many mt_X12_isName (pc' := bif am_cc .ne x1 0 then 17 else 15) (L' := [some (.ref 201)]) (st' := []) 1 rfl ?_
  refine l1_bin rfl ?_ ?_
  · refine l1_many mt_X12_isName (pc' := 16) (L' := [some (.ref 201)]) (st' := [.int 0]) 1 rfl ?_
    exact l1_ret mt_X12_isName rfl rfl rfl
  · refine l1_many mt_X12_isName (pc' := 23) (L' := [some (.ref 201), some (.int 0), some (.int 1), some (.int 0)]) (st' := []) 6 rfl ?_
    exact ok_X12_isName_23 hQ N N c2 0 1 0
theorem ok_X12_isName {Q : hS → am_H → Prop} (hQ : l1_em km Q) (N : Nat) (c : hS) : l1_T wI Q am_i_X12_isName [.ref 201] c (f_X12_isName N c) := l1_of (en_X12_isName hQ N c) ⟨rfl, trivial⟩
set_option maxRecDepth 100000 in
theorem ok_X12_isNamed_21 {Q : hS → am_H → Prop} (hQ : l1_em km Q) (N : Nat) (p1 : Int32) : ∀ n : Nat, ∀ (c : hS) (v2 : Int32) (v3 : Int32), l1_G (wN wI) Q am_i_X12_isNamed 21 [some (.ref 201), some (.int p1), some (.int v2), some (.int v3)] [] c (f_X12_isNamed_21 N p1 n c v2 v3) := by
  intro n
  induction n with
  | zero => intro c v2 v3; exact l1_none
  | succ n ih =>
    intro c v2 v3
    rw [f_X12_isNamed_21]
    refine l1_many mt_X12_isNamed (pc' := 23) (L' := [some (.ref 201), some (.int p1), some (.int v2), some (.int v3)]) (st' := [.ref 201, .int v3]) 2 rfl ?_
    refine l1_getI hQ mt_X12_isNamed rfl (o := 201) (ci := 11) (k := 14) (a := 0) (b := 0) rfl rfl rfl rfl rfl ?_
    refine l1_many mt_X12_isNamed (pc' := bif am_cc .ge v3 (c.1 201 14) then 60 else 29) (L' := [some (.ref 201), some (.int p1), some (.int v2), some (.int v3)]) (st' := []) 1 rfl ?_
    refine l1_bif rfl ?_ ?_
    · refine l1_many mt_X12_isNamed (pc' := 61) (L' := [some (.ref 201), some (.int p1), some (.int v2), some (.int v3)]) (st' := [.int v2]) 1 rfl ?_
      refine l1_ck (fun hz => ?_)
      exact l1_retZ mt_X12_isNamed rfl rfl rfl hz
    · refine l1_many mt_X12_isNamed (pc' := bif am_cc .eq v2 0 then 60 else 33) (L' := [some (.ref 201), some (.int p1), some (.int v2), some (.int v3)]) (st' := []) 2 rfl ?_
      refine l1_bif rfl ?_ ?_
      · refine l1_many mt_X12_isNamed (pc' := 61) (L' := [some (.ref 201), some (.int p1), some (.int v2), some (.int v3)]) (st' := [.int v2]) 1 rfl ?_
        refine l1_ck (fun hz => ?_)
        exact l1_retZ mt_X12_isNamed rfl rfl rfl hz
      · refine l1_many mt_X12_isNamed (pc' := 36) (L' := [some (.ref 201), some (.int p1), some (.int v2), some (.int v3)]) (st' := [.int v3, .int p1, .ref 201]) 3 rfl ?_
        refine l1_callV hQ mt_X12_isNamed mt_X12_nameAt rfl rfl (o := 201) (ci := 11) (As := [.int p1, .int v3]) (rest := []) rfl rfl rfl rfl rfl rfl (st1 := fun x1 => [.int x1]) (fun _ => rfl) (ok_X12_nameAt hQ c p1 v3) (fun x1 c2 => ?_)
        refine l1_many mt_X12_isNamed (pc' := 40) (L' := [some (.ref 201), some (.int p1), some (.int v2), some (.int v3)]) (st' := [.ref 201, .int x1]) 1 rfl ?_
        refine l1_getR hQ mt_X12_isNamed rfl (o := 201) (ci := 11) (k := 15) (a := 0) (b := 0) rfl rfl rfl rfl rfl (q := 209) rfl ?_
        refine l1_many mt_X12_isNamed (pc' := 44) (L' := [some (.ref 201), some (.int p1), some (.int v2), some (.int v3)]) (st' := [.int v3, .ref 209, .int x1]) 1 rfl ?_
        refine l1_ck (fun hx => ?_)
        refine l1_ald hQ mt_X12_isNamed rfl (o := 209) rfl hx ?_
        refine l1_many mt_X12_isNamed (pc' := bif am_cc .ne x1 (c2.1 209 v3.toNatClampNeg) then 52 else 48) (L' := [some (.ref 201), some (.int p1), some (.int v2), some (.int v3)]) (st' := []) 1 rfl ?_
        refine l1_bin rfl ?_ ?_
        · refine l1_many mt_X12_isNamed (pc' := 21) (L' := [some (.ref 201), some (.int p1), some (.int 1), some (.int (v3 + 1))]) (st' := []) 5 rfl ?_
          exact ih c2 1 (v3 + 1)
        · refine l1_many mt_X12_isNamed (pc' := 21) (L' := [some (.ref 201), some (.int p1), some (.int 0), some (.int (v3 + 1))]) (st' := []) 4 rfl ?_
          exact ih c2 0 (v3 + 1)
set_option maxRecDepth 100000 in
theorem en_X12_isNamed {Q : hS → am_H → Prop} (hQ : l1_em km Q) (N : Nat) (c : hS) (p1 : Int32) : l1_G (wN wI) Q am_i_X12_isNamed 0 [some (.ref 201), some (.int p1)] [] c (f_X12_isNamed N c p1) := by
  rw [f_X12_isNamed]
  refine l1_many mt_X12_isNamed (pc' := 1) (L' := [some (.ref 201), some (.int p1)]) (st' := [.ref 201]) 1 rfl ?_
  refine l1_getR hQ mt_X12_isNamed rfl (o := 201) (ci := 11) (k := 9) (a := 0) (b := 0) rfl rfl rfl rfl rfl (q := 204) rfl ?_
  refine l1_many mt_X12_isNamed (pc' := 5) (L' := [some (.ref 201), some (.int p1)]) (st' := [.int p1, .ref 204]) 1 rfl ?_
  refine l1_ck (fun hx => ?_)
  refine l1_ald hQ mt_X12_isNamed rfl (o := 204) rfl hx ?_
  refine l1_many mt_X12_isNamed (pc' := 7) (L' := [some (.ref 201), some (.int p1)]) (st' := [.ref 201, .int (c.1 204 p1.toNatClampNeg)]) 1 rfl ?_
  refine l1_getI hQ mt_X12_isNamed rfl (o := 201) (ci := 11) (k := 14) (a := 0) (b := 0) rfl rfl rfl rfl rfl ?_
  refine l1_many mt_X12_isNamed (pc' := bif am_cc .ne (c.1 204 p1.toNatClampNeg) (c.1 201 14) then 17 else 13) (L' := [some (.ref 201), some (.int p1)]) (st' := []) 1 rfl ?_
  refine l1_bin rfl ?_ ?_
  · refine l1_many mt_X12_isNamed (pc' := 21) (L' := [some (.ref 201), some (.int p1), some (.int 1), some (.int 0)]) (st' := []) 5 rfl ?_
    exact ok_X12_isNamed_21 hQ N p1 N c 1 0
  · refine l1_many mt_X12_isNamed (pc' := 21) (L' := [some (.ref 201), some (.int p1), some (.int 0), some (.int 0)]) (st' := []) 4 rfl ?_
    exact ok_X12_isNamed_21 hQ N p1 N c 0 0
theorem ok_X12_isNamed {Q : hS → am_H → Prop} (hQ : l1_em km Q) (N : Nat) (c : hS) (p1 : Int32) : l1_T wI Q am_i_X12_isNamed [.ref 201, .int p1] c (f_X12_isNamed N c p1) := l1_of (en_X12_isNamed hQ N c p1) ⟨rfl, rfl, trivial⟩
set_option maxRecDepth 100000 in
theorem ok_X12_isUnderNew_37 {Q : hS → am_H → Prop} (hQ : l1_em km Q) (N : Nat) (p1 : Int32) : ∀ n : Nat, ∀ (c : hS) (v2 : Int32) (v3 : Int32), l1_G (wN wI) Q am_i_X12_isUnderNew 37 [some (.ref 201), some (.int p1), some (.int v2), some (.int v3)] [] c (f_X12_isUnderNew_37 N p1 n c v2 v3) := by
  intro n
  induction n with
  | zero => intro c v2 v3; exact l1_none
  | succ n ih =>
    intro c v2 v3
    rw [f_X12_isUnderNew_37]
    refine l1_many mt_X12_isUnderNew (pc' := 39) (L' := [some (.ref 201), some (.int p1), some (.int v2), some (.int v3)]) (st' := [.ref 201, .int v3]) 2 rfl ?_
    refine l1_getI hQ mt_X12_isUnderNew rfl (o := 201) (ci := 11) (k := 14) (a := 0) (b := 0) rfl rfl rfl rfl rfl ?_
    refine l1_many mt_X12_isUnderNew (pc' := bif am_cc .ge v3 (c.1 201 14) then 76 else 45) (L' := [some (.ref 201), some (.int p1), some (.int v2), some (.int v3)]) (st' := []) 1 rfl ?_
    refine l1_bif rfl ?_ ?_
    · refine l1_many mt_X12_isUnderNew (pc' := 77) (L' := [some (.ref 201), some (.int p1), some (.int v2), some (.int v3)]) (st' := [.int v2]) 1 rfl ?_
      refine l1_ck (fun hz => ?_)
      exact l1_retZ mt_X12_isUnderNew rfl rfl rfl hz
    · refine l1_many mt_X12_isUnderNew (pc' := bif am_cc .eq v2 0 then 76 else 49) (L' := [some (.ref 201), some (.int p1), some (.int v2), some (.int v3)]) (st' := []) 2 rfl ?_
      refine l1_bif rfl ?_ ?_
      · refine l1_many mt_X12_isUnderNew (pc' := 77) (L' := [some (.ref 201), some (.int p1), some (.int v2), some (.int v3)]) (st' := [.int v2]) 1 rfl ?_
        refine l1_ck (fun hz => ?_)
        exact l1_retZ mt_X12_isUnderNew rfl rfl rfl hz
      · refine l1_many mt_X12_isUnderNew (pc' := 52) (L' := [some (.ref 201), some (.int p1), some (.int v2), some (.int v3)]) (st' := [.int v3, .int p1, .ref 201]) 3 rfl ?_
        refine l1_callV hQ mt_X12_isUnderNew mt_X12_nameAt rfl rfl (o := 201) (ci := 11) (As := [.int p1, .int v3]) (rest := []) rfl rfl rfl rfl rfl rfl (st1 := fun x1 => [.int x1]) (fun _ => rfl) (ok_X12_nameAt hQ c p1 v3) (fun x1 c2 => ?_)
        refine l1_many mt_X12_isUnderNew (pc' := 56) (L' := [some (.ref 201), some (.int p1), some (.int v2), some (.int v3)]) (st' := [.ref 201, .int x1]) 1 rfl ?_
        refine l1_getR hQ mt_X12_isUnderNew rfl (o := 201) (ci := 11) (k := 15) (a := 0) (b := 0) rfl rfl rfl rfl rfl (q := 209) rfl ?_
        refine l1_many mt_X12_isUnderNew (pc' := 60) (L' := [some (.ref 201), some (.int p1), some (.int v2), some (.int v3)]) (st' := [.int v3, .ref 209, .int x1]) 1 rfl ?_
        refine l1_ck (fun hx => ?_)
        refine l1_ald hQ mt_X12_isUnderNew rfl (o := 209) rfl hx ?_
        refine l1_many mt_X12_isUnderNew (pc' := bif am_cc .ne x1 (c2.1 209 v3.toNatClampNeg) then 68 else 64) (L' := [some (.ref 201), some (.int p1), some (.int v2), some (.int v3)]) (st' := []) 1 rfl ?_
        refine l1_bin rfl ?_ ?_
        · refine l1_many mt_X12_isUnderNew (pc' := 37) (L' := [some (.ref 201), some (.int p1), some (.int 1), some (.int (v3 + 1))]) (st' := []) 5 rfl ?_
          exact ih c2 1 (v3 + 1)
        · refine l1_many mt_X12_isUnderNew (pc' := 37) (L' := [some (.ref 201), some (.int p1), some (.int 0), some (.int (v3 + 1))]) (st' := []) 4 rfl ?_
          exact ih c2 0 (v3 + 1)
set_option maxRecDepth 100000 in
theorem en_X12_isUnderNew {Q : hS → am_H → Prop} (hQ : l1_em km Q) (N : Nat) (c : hS) (p1 : Int32) : l1_G (wN wI) Q am_i_X12_isUnderNew 0 [some (.ref 201), some (.int p1)] [] c (f_X12_isUnderNew N c p1) := by
  rw [f_X12_isUnderNew]
  refine l1_many mt_X12_isUnderNew (pc' := 1) (L' := [some (.ref 201), some (.int p1)]) (st' := [.ref 201]) 1 rfl ?_
  refine l1_getR hQ mt_X12_isUnderNew rfl (o := 201) (ci := 11) (k := 9) (a := 0) (b := 0) rfl rfl rfl rfl rfl (q := 204) rfl ?_
  refine l1_many mt_X12_isUnderNew (pc' := 5) (L' := [some (.ref 201), some (.int p1)]) (st' := [.int p1, .ref 204]) 1 rfl ?_
  refine l1_ck (fun hx => ?_)
  refine l1_ald hQ mt_X12_isUnderNew rfl (o := 204) rfl hx ?_
  refine l1_many mt_X12_isUnderNew (pc' := 7) (L' := [some (.ref 201), some (.int p1)]) (st' := [.ref 201, .int (c.1 204 p1.toNatClampNeg)]) 1 rfl ?_
  refine l1_getI hQ mt_X12_isUnderNew rfl (o := 201) (ci := 11) (k := 14) (a := 0) (b := 0) rfl rfl rfl rfl rfl ?_
  refine l1_many mt_X12_isUnderNew (pc' := bif am_cc .le (c.1 204 p1.toNatClampNeg) ((c.1 201 14) + 1) then 33 else 15) (L' := [some (.ref 201), some (.int p1)]) (st' := []) 3 rfl ?_
  refine l1_bif rfl ?_ ?_
  · refine l1_many mt_X12_isUnderNew (pc' := 37) (L' := [some (.ref 201), some (.int p1), some (.int 0), some (.int 0)]) (st' := []) 4 rfl ?_
    exact ok_X12_isUnderNew_37 hQ N p1 N c 0 0
  · refine l1_many mt_X12_isUnderNew (pc' := 18) (L' := [some (.ref 201), some (.int p1)]) (st' := [.ref 201, .int p1, .ref 201]) 3 rfl ?_
    refine l1_getI hQ mt_X12_isUnderNew rfl (o := 201) (ci := 11) (k := 14) (a := 0) (b := 0) rfl rfl rfl rfl rfl ?_
    refine l1_callV hQ mt_X12_isUnderNew mt_X12_nameAt rfl rfl (o := 201) (ci := 11) (As := [.int p1, .int (c.1 201 14)]) (rest := []) rfl rfl rfl rfl rfl rfl (st1 := fun x1 => [.int x1]) (fun _ => rfl) (ok_X12_nameAt hQ c p1 (c.1 201 14)) (fun x1 c2 => ?_)
    refine l1_many mt_X12_isUnderNew (pc' := bif am_cc .ne x1 47 then 33 else 29) (L' := [some (.ref 201), some (.int p1)]) (st' := []) 2 rfl ?_
    refine l1_bin rfl ?_ ?_
    · refine l1_many mt_X12_isUnderNew (pc' := 37) (L' := [some (.ref 201), some (.int p1), some (.int 1), some (.int 0)]) (st' := []) 5 rfl ?_
      exact ok_X12_isUnderNew_37 hQ N p1 N c2 1 0
    · refine l1_many mt_X12_isUnderNew (pc' := 37) (L' := [some (.ref 201), some (.int p1), some (.int 0), some (.int 0)]) (st' := []) 4 rfl ?_
      exact ok_X12_isUnderNew_37 hQ N p1 N c2 0 0
theorem ok_X12_isUnderNew {Q : hS → am_H → Prop} (hQ : l1_em km Q) (N : Nat) (c : hS) (p1 : Int32) : l1_T wI Q am_i_X12_isUnderNew [.ref 201, .int p1] c (f_X12_isUnderNew N c p1) := l1_of (en_X12_isUnderNew hQ N c p1) ⟨rfl, rfl, trivial⟩
set_option maxRecDepth 100000 in
theorem ok_X12_isNewUnder_37 {Q : hS → am_H → Prop} (hQ : l1_em km Q) (N : Nat) (p1 : Int32) : ∀ n : Nat, ∀ (c : hS) (v2 : Int32) (v3 : Int32) (v4 : Int32), l1_G (wN wI) Q am_i_X12_isNewUnder 37 [some (.ref 201), some (.int p1), some (.int v2), some (.int v3), some (.int v4)] [] c (f_X12_isNewUnder_37 N p1 n c v2 v3 v4) := by
  intro n
  induction n with
  | zero => intro c v2 v3 v4; exact l1_none
  | succ n ih =>
    intro c v2 v3 v4
    rw [f_X12_isNewUnder_37]
    refine l1_many mt_X12_isNewUnder (pc' := bif am_cc .ge v4 v2 then 76 else 43) (L' := [some (.ref 201), some (.int p1), some (.int v2), some (.int v3), some (.int v4)]) (st' := []) 3 rfl ?_
    refine l1_bif rfl ?_ ?_
    · refine l1_many mt_X12_isNewUnder (pc' := 77) (L' := [some (.ref 201), some (.int p1), some (.int v2), some (.int v3), some (.int v4)]) (st' := [.int v3]) 1 rfl ?_
      refine l1_ck (fun hz => ?_)
      exact l1_retZ mt_X12_isNewUnder rfl rfl rfl hz
    · refine l1_many mt_X12_isNewUnder (pc' := bif am_cc .eq v3 0 then 76 else 47) (L' := [some (.ref 201), some (.int p1), some (.int v2), some (.int v3), some (.int v4)]) (st' := []) 2 rfl ?_
      refine l1_bif rfl ?_ ?_
      · refine l1_many mt_X12_isNewUnder (pc' := 77) (L' := [some (.ref 201), some (.int p1), some (.int v2), some (.int v3), some (.int v4)]) (st' := [.int v3]) 1 rfl ?_
        refine l1_ck (fun hz => ?_)
        exact l1_retZ mt_X12_isNewUnder rfl rfl rfl hz
      · refine l1_many mt_X12_isNewUnder (pc' := 51) (L' := [some (.ref 201), some (.int p1), some (.int v2), some (.int v3), some (.int v4)]) (st' := [.int v4, .int p1, .ref 201]) 3 rfl ?_
        refine l1_callV hQ mt_X12_isNewUnder mt_X12_nameAt rfl rfl (o := 201) (ci := 11) (As := [.int p1, .int v4]) (rest := []) rfl rfl rfl rfl rfl rfl (st1 := fun x1 => [.int x1]) (fun _ => rfl) (ok_X12_nameAt hQ c p1 v4) (fun x1 c2 => ?_)
        refine l1_many mt_X12_isNewUnder (pc' := 55) (L' := [some (.ref 201), some (.int p1), some (.int v2), some (.int v3), some (.int v4)]) (st' := [.ref 201, .int x1]) 1 rfl ?_
        refine l1_getR hQ mt_X12_isNewUnder rfl (o := 201) (ci := 11) (k := 15) (a := 0) (b := 0) rfl rfl rfl rfl rfl (q := 209) rfl ?_
        refine l1_many mt_X12_isNewUnder (pc' := 60) (L' := [some (.ref 201), some (.int p1), some (.int v2), some (.int v3), some (.int v4)]) (st' := [.int v4, .ref 209, .int x1]) 1 rfl ?_
        refine l1_ck (fun hx => ?_)
        refine l1_ald hQ mt_X12_isNewUnder rfl (o := 209) rfl hx ?_
        refine l1_many mt_X12_isNewUnder (pc' := bif am_cc .ne x1 (c2.1 209 v4.toNatClampNeg) then 68 else 64) (L' := [some (.ref 201), some (.int p1), some (.int v2), some (.int v3), some (.int v4)]) (st' := []) 1 rfl ?_
        refine l1_bin rfl ?_ ?_
        · refine l1_many mt_X12_isNewUnder (pc' := 37) (L' := [some (.ref 201), some (.int p1), some (.int v2), some (.int 1), some (.int (v4 + 1))]) (st' := []) 5 rfl ?_
          exact ih c2 v2 1 (v4 + 1)
        · refine l1_many mt_X12_isNewUnder (pc' := 37) (L' := [some (.ref 201), some (.int p1), some (.int v2), some (.int 0), some (.int (v4 + 1))]) (st' := []) 4 rfl ?_
          exact ih c2 v2 0 (v4 + 1)
set_option maxRecDepth 100000 in
theorem en_X12_isNewUnder {Q : hS → am_H → Prop} (hQ : l1_em km Q) (N : Nat) (c : hS) (p1 : Int32) : l1_G (wN wI) Q am_i_X12_isNewUnder 0 [some (.ref 201), some (.int p1)] [] c (f_X12_isNewUnder N c p1) := by
  rw [f_X12_isNewUnder]
  refine l1_many mt_X12_isNewUnder (pc' := 1) (L' := [some (.ref 201), some (.int p1)]) (st' := [.ref 201]) 1 rfl ?_
  refine l1_getR hQ mt_X12_isNewUnder rfl (o := 201) (ci := 11) (k := 9) (a := 0) (b := 0) rfl rfl rfl rfl rfl (q := 204) rfl ?_
  refine l1_many mt_X12_isNewUnder (pc' := 5) (L' := [some (.ref 201), some (.int p1)]) (st' := [.int p1, .ref 204]) 1 rfl ?_
  refine l1_ck (fun hx => ?_)
  refine l1_ald hQ mt_X12_isNewUnder rfl (o := 204) rfl hx ?_
  refine l1_many mt_X12_isNewUnder (pc' := 8) (L' := [some (.ref 201), some (.int p1), some (.int (c.1 204 p1.toNatClampNeg))]) (st' := [.ref 201]) 2 rfl ?_
  refine l1_getI hQ mt_X12_isNewUnder rfl (o := 201) (ci := 11) (k := 14) (a := 0) (b := 0) rfl rfl rfl rfl rfl ?_
  refine l1_many mt_X12_isNewUnder (pc' := bif am_cc .le (c.1 201 14) ((c.1 204 p1.toNatClampNeg) + 1) then 32 else 17) (L' := [some (.ref 201), some (.int p1), some (.int (c.1 204 p1.toNatClampNeg))]) (st' := []) 4 rfl ?_
  refine l1_bif rfl ?_ ?_
  · refine l1_many mt_X12_isNewUnder (pc' := 37) (L' := [some (.ref 201), some (.int p1), some (.int (c.1 204 p1.toNatClampNeg)), some (.int 0), some (.int 0)]) (st' := []) 4 rfl ?_
    exact ok_X12_isNewUnder_37 hQ N p1 N c (c.1 204 p1.toNatClampNeg) 0 0
  · refine l1_many mt_X12_isNewUnder (pc' := 18) (L' := [some (.ref 201), some (.int p1), some (.int (c.1 204 p1.toNatClampNeg))]) (st' := [.ref 201]) 1 rfl ?_
    refine l1_getR hQ mt_X12_isNewUnder rfl (o := 201) (ci := 11) (k := 15) (a := 0) (b := 0) rfl rfl rfl rfl rfl (q := 209) rfl ?_
    refine l1_many mt_X12_isNewUnder (pc' := 22) (L' := [some (.ref 201), some (.int p1), some (.int (c.1 204 p1.toNatClampNeg))]) (st' := [.int (c.1 204 p1.toNatClampNeg), .ref 209]) 1 rfl ?_
    refine l1_ck (fun hx => ?_)
    refine l1_ald hQ mt_X12_isNewUnder rfl (o := 209) rfl hx ?_
    refine l1_many mt_X12_isNewUnder (pc' := bif am_cc .ne (c.1 209 (c.1 204 p1.toNatClampNeg).toNatClampNeg) 47 then 32 else 28) (L' := [some (.ref 201), some (.int p1), some (.int (c.1 204 p1.toNatClampNeg))]) (st' := []) 2 rfl ?_
    refine l1_bin rfl ?_ ?_
    · refine l1_many mt_X12_isNewUnder (pc' := 37) (L' := [some (.ref 201), some (.int p1), some (.int (c.1 204 p1.toNatClampNeg)), some (.int 1), some (.int 0)]) (st' := []) 5 rfl ?_
      exact ok_X12_isNewUnder_37 hQ N p1 N c (c.1 204 p1.toNatClampNeg) 1 0
    · refine l1_many mt_X12_isNewUnder (pc' := 37) (L' := [some (.ref 201), some (.int p1), some (.int (c.1 204 p1.toNatClampNeg)), some (.int 0), some (.int 0)]) (st' := []) 4 rfl ?_
      exact ok_X12_isNewUnder_37 hQ N p1 N c (c.1 204 p1.toNatClampNeg) 0 0
theorem ok_X12_isNewUnder {Q : hS → am_H → Prop} (hQ : l1_em km Q) (N : Nat) (c : hS) (p1 : Int32) : l1_T wI Q am_i_X12_isNewUnder [.ref 201, .int p1] c (f_X12_isNewUnder N c p1) := l1_of (en_X12_isNewUnder hQ N c p1) ⟨rfl, rfl, trivial⟩
set_option maxRecDepth 100000 in
theorem ok_X12_seek_2 {Q : hS → am_H → Prop} (hQ : l1_em km Q) (N : Nat) (p1 : Int32) (p2 : Int32) : ∀ n : Nat, ∀ (c : hS) (v3 : Int32), l1_G (wN wI) Q am_i_X12_seek 2 [some (.ref 201), some (.int p1), some (.int p2), some (.int v3)] [] c (f_X12_seek_2 N p1 p2 n c v3) := by
  intro n
  induction n with
  | zero => intro c v3; exact l1_none
  | succ n ih =>
    intro c v3
    rw [f_X12_seek_2]
    refine l1_many mt_X12_seek (pc' := bif am_cc .ge v3 (p1 + p2) then 25 else 9) (L' := [some (.ref 201), some (.int p1), some (.int p2), some (.int v3)]) (st' := []) 5 rfl ?_
    refine l1_bif rfl ?_ ?_
    · refine l1_many mt_X12_seek (pc' := 26) (L' := [some (.ref 201), some (.int p1), some (.int p2), some (.int v3)]) (st' := [.int (-1)]) 1 rfl ?_
      exact l1_ret mt_X12_seek rfl rfl rfl
    · refine l1_many mt_X12_seek (pc' := 11) (L' := [some (.ref 201), some (.int p1), some (.int p2), some (.int v3)]) (st' := [.int v3, .ref 201]) 2 rfl ?_
      refine l1_callV hQ mt_X12_seek mt_X12_isNamed rfl rfl (o := 201) (ci := 11) (As := [.int v3]) (rest := []) rfl rfl rfl rfl rfl rfl (st1 := fun x1 => [.int x1]) (fun _ => rfl) (ok_X12_isNamed hQ N c v3) (fun x1 c2 => ?_)
      refine l1_many mt_X12_seek (pc' := bif am_cc .eq x1 0 then 19 else 17) (L' := [some (.ref 201), some (.int p1), some (.int p2), some (.int v3)]) (st' := []) 1 rfl ?_
      refine l1_bif rfl ?_ ?_
      · refine l1_many mt_X12_seek (pc' := 2) (L' := [some (.ref 201), some (.int p1), some (.int p2), some (.int (v3 + 1))]) (st' := []) 2 rfl ?_
        exact ih c2 (v3 + 1)
      · refine l1_many mt_X12_seek (pc' := 18) (L' := [some (.ref 201), some (.int p1), some (.int p2), some (.int v3)]) (st' := [.int v3]) 1 rfl ?_
        exact l1_ret mt_X12_seek rfl rfl rfl
set_option maxRecDepth 100000 in
theorem en_X12_seek {Q : hS → am_H → Prop} (hQ : l1_em km Q) (N : Nat) (c : hS) (p1 : Int32) (p2 : Int32) : l1_G (wN wI) Q am_i_X12_seek 0 [some (.ref 201), some (.int p1), some (.int p2)] [] c (f_X12_seek N c p1 p2) := by
  rw [f_X12_seek]
  refine l1_many mt_X12_seek (pc' := 2) (L' := [some (.ref 201), some (.int p1), some (.int p2), some (.int p1)]) (st' := []) 2 rfl ?_
  exact ok_X12_seek_2 hQ N p1 p2 N c p1
theorem ok_X12_seek {Q : hS → am_H → Prop} (hQ : l1_em km Q) (N : Nat) (c : hS) (p1 : Int32) (p2 : Int32) : l1_T wI Q am_i_X12_seek [.ref 201, .int p1, .int p2] c (f_X12_seek N c p1 p2) := l1_of (en_X12_seek hQ N c p1 p2) ⟨rfl, rfl, rfl, trivial⟩
