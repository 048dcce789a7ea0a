/-! THAT THE MACHINE FOLLOWS THEM, printed by gen_l1.py -/
set_option maxRecDepth 100000 in
theorem ok_X9_firstOfChild_5 {Q : hS → am_H → Prop} (hQ : l1_em kc Q) (N : Nat) (s : Nat) (p1 : Nat) (p2 : Int32) (hs : kc s = 8) (hp1 : kc p1 = 1) : ∀ n : Nat, ∀ (c : hS) (v3 : Int32) (v4 : Int32), l1_G (wN wI) Q am_i_X9_firstOfChild 5 [some (.ref s), some (.ref p1), some (.int p2), some (.int v3), some (.int v4)] [] c (f_X9_firstOfChild_5 N s p1 p2 n c v3 v4) := by
  intro n
  induction n with
  | zero => intro c v3 v4; exact l1_none
  | succ n ih =>
    intro c v3 v4
    rw [f_X9_firstOfChild_5]
    refine l1_many mt_X9_firstOfChild (pc' := 8) (L' := [some (.ref s), some (.ref p1), some (.int p2), some (.int v3), some (.int v4)]) (st' := [.ref s, .int v4]) 2 rfl ?_
    refine l1_getI hQ mt_X9_firstOfChild rfl (o := s) (ci := 8) (k := 1) (a := 0) (b := 0) hs rfl rfl rfl rfl ?_
    refine l1_many mt_X9_firstOfChild (pc' := bif am_cc .ge v4 (c.1 s 1) then 41 else 14) (L' := [some (.ref s), some (.ref p1), some (.int p2), some (.int v3), some (.int v4)]) (st' := []) 1 rfl ?_
    refine l1_bif rfl ?_ ?_
    · refine l1_many mt_X9_firstOfChild (pc' := 42) (L' := [some (.ref s), some (.ref p1), some (.int p2), some (.int v3), some (.int v4)]) (st' := [.int (-1)]) 1 rfl ?_
      exact l1_ret mt_X9_firstOfChild rfl rfl rfl
    · refine l1_many mt_X9_firstOfChild (pc' := 18) (L' := [some (.ref s), some (.ref p1), some (.int p2), some (.int v3), some (.int v4)]) (st' := [.int v4, .ref p1, .ref s]) 3 rfl ?_
      refine l1_callV hQ mt_X9_firstOfChild mt_X9_isFirstOfChild rfl rfl (o := s) (ci := 8) (As := [.ref p1, .int v4]) (rest := []) rfl rfl hs rfl rfl rfl (st1 := fun x1 => [.int x1]) (fun _ => rfl) (ok_X9_isFirstOfChild hQ N c s p1 v4 hs hp1) (fun x1 c2 => ?_)
      refine l1_many mt_X9_firstOfChild (pc' := bif am_cc .eq x1 0 then 35 else 24) (L' := [some (.ref s), some (.ref p1), some (.int p2), some (.int v3), some (.int v4)]) (st' := []) 1 rfl ?_
      refine l1_bif rfl ?_ ?_
      · refine l1_many mt_X9_firstOfChild (pc' := 5) (L' := [some (.ref s), some (.ref p1), some (.int p2), some (.int v3), some (.int (v4 + 1))]) (st' := []) 2 rfl ?_
        exact ih c2 v3 (v4 + 1)
      · refine l1_many mt_X9_firstOfChild (pc' := bif am_cc .ne v3 p2 then 32 else 29) (L' := [some (.ref s), some (.ref p1), some (.int p2), some (.int v3), some (.int v4)]) (st' := []) 3 rfl ?_
        refine l1_bin rfl ?_ ?_
        · refine l1_many mt_X9_firstOfChild (pc' := 31) (L' := [some (.ref s), some (.ref p1), some (.int p2), some (.int v3), some (.int v4)]) (st' := [.int v4]) 1 rfl ?_
          exact l1_ret mt_X9_firstOfChild rfl rfl rfl
        · refine l1_many mt_X9_firstOfChild (pc' := 5) (L' := [some (.ref s), some (.ref p1), some (.int p2), some (.int (v3 + 1)), some (.int (v4 + 1))]) (st' := []) 3 rfl ?_
          exact ih c2 (v3 + 1) (v4 + 1)
set_option maxRecDepth 100000 in
theorem en_X9_firstOfChild {Q : hS → am_H → Prop} (hQ : l1_em kc Q) (N : Nat) (c : hS) (s : Nat) (p1 : Nat) (p2 : Int32) (hs : kc s = 8) (hp1 : kc p1 = 1) : l1_G (wN wI) Q am_i_X9_firstOfChild 0 [some (.ref s), some (.ref p1), some (.int p2)] [] c (f_X9_firstOfChild N c s p1 p2) := by
  rw [f_X9_firstOfChild]
  refine l1_many mt_X9_firstOfChild (pc' := 5) (L' := [some (.ref s), some (.ref p1), some (.int p2), some (.int 0), some (.int 0)]) (st' := []) 4 rfl ?_
  exact ok_X9_firstOfChild_5 hQ N s p1 p2 hs hp1 N c 0 0
theorem ok_X9_firstOfChild {Q : hS → am_H → Prop} (hQ : l1_em kc Q) (N : Nat) (c : hS) (s : Nat) (p1 : Nat) (p2 : Int32) (hs : kc s = 8) (hp1 : kc p1 = 1) : l1_T wI Q am_i_X9_firstOfChild [.ref s, .ref p1, .int p2] c (f_X9_firstOfChild N c s p1 p2) := l1_of (en_X9_firstOfChild hQ N c s p1 p2 hs hp1) ⟨rfl, rfl, rfl, trivial⟩
set_option maxRecDepth 100000 in
theorem en_X10_orderFixed {Q : hS → am_H → Prop} (hQ : l1_em kc Q) (N : Nat) (c : hS) : l1_G (wN wV) Q am_i_X10_orderFixed 0 [some (.ref 11)] [] c (f_X10_orderFixed N c) := by
  rw [f_X10_orderFixed]
  refine l1_many mt_X10_orderFixed (pc' := 7) (L' := [some (.ref 11)]) (st' := [.int 8, .int 144, .int 0, .ref 11]) 4 rfl ?_
  refine l1_callV hQ mt_X10_orderFixed mt_X10_fillLengths rfl rfl (o := 11) (ci := 9) (As := [.int 0, .int 144, .int 8]) (rest := []) rfl rfl rfl rfl rfl rfl (st1 := fun _ => []) (fun _ => rfl) (ok_X10_fillLengths hQ N c 0 144 8) (fun _ c1 => ?_)
  refine l1_many mt_X10_orderFixed (pc' := 19) (L' := [some (.ref 11)]) (st' := [.int 9, .int 256, .int 144, .ref 11]) 4 rfl ?_
  refine l1_callV hQ mt_X10_orderFixed mt_X10_fillLengths rfl rfl (o := 11) (ci := 9) (As := [.int 144, .int 256, .int 9]) (rest := []) rfl rfl rfl rfl rfl rfl (st1 := fun _ => []) (fun _ => rfl) (ok_X10_fillLengths hQ N c1 144 256 9) (fun _ c2 => ?_)
  refine l1_many mt_X10_orderFixed (pc' := 31) (L' := [some (.ref 11)]) (st' := [.int 7, .int 280, .int 256, .ref 11]) 4 rfl ?_
  refine l1_callV hQ mt_X10_orderFixed mt_X10_fillLengths rfl rfl (o := 11) (ci := 9) (As := [.int 256, .int 280, .int 7]) (rest := []) rfl rfl rfl rfl rfl rfl (st1 := fun _ => []) (fun _ => rfl) (ok_X10_fillLengths hQ N c2 256 280 7) (fun _ c3 => ?_)
  refine l1_many mt_X10_orderFixed (pc' := 43) (L' := [some (.ref 11)]) (st' := [.int 8, .int 288, .int 280, .ref 11]) 4 rfl ?_
  refine l1_callV hQ mt_X10_orderFixed mt_X10_fillLengths rfl rfl (o := 11) (ci := 9) (As := [.int 280, .int 288, .int 8]) (rest := []) rfl rfl rfl rfl rfl rfl (st1 := fun _ => []) (fun _ => rfl) (ok_X10_fillLengths hQ N c3 280 288 8) (fun _ c4 => ?_)
  refine l1_many mt_X10_orderFixed (pc' := 47) (L' := [some (.ref 11)]) (st' := [.ref 11]) 1 rfl ?_
  refine l1_getR hQ mt_X10_orderFixed rfl (o := 11) (ci := 9) (k := 3) (a := 0) (b := 1) rfl rfl rfl rfl rfl (q := 12) rfl ?_
  refine l1_many mt_X10_orderFixed (pc' := 51) (L' := [some (.ref 11)]) (st' := [.ref 11, .ref 12]) 1 rfl ?_
  refine l1_getR hQ mt_X10_orderFixed rfl (o := 11) (ci := 9) (k := 8) (a := 0) (b := 1) rfl rfl rfl rfl rfl (q := 32) rfl ?_
  refine l1_many mt_X10_orderFixed (pc' := 58) (L' := [some (.ref 11)]) (st' := [.int 288, .int 0, .ref 32, .ref 12]) 2 rfl ?_
  refine l1_callV hQ mt_X10_orderFixed mt_X3_order rfl rfl (o := 12) (ci := 2) (As := [.ref 32, .int 0, .int 288]) (rest := []) rfl rfl rfl rfl rfl rfl (st1 := fun _ => []) (fun _ => rfl) (ok_X3_order hQ N c4 12 0 288 rfl) (fun _ c5 => ?_)
  refine l1_many mt_X10_orderFixed (pc' := 66) (L' := [some (.ref 11)]) (st' := [.int 5, .int 32, .int 0, .ref 11]) 4 rfl ?_
  refine l1_callV hQ mt_X10_orderFixed mt_X10_fillLengths rfl rfl (o := 11) (ci := 9) (As := [.int 0, .int 32, .int 5]) (rest := []) rfl rfl rfl rfl rfl rfl (st1 := fun _ => []) (fun _ => rfl) (ok_X10_fillLengths hQ N c5 0 32 5) (fun _ c6 => ?_)
  refine l1_many mt_X10_orderFixed (pc' := 70) (L' := [some (.ref 11)]) (st' := [.ref 11]) 1 rfl ?_
  refine l1_getR hQ mt_X10_orderFixed rfl (o := 11) (ci := 9) (k := 4) (a := 0) (b := 1) rfl rfl rfl rfl rfl (q := 16) rfl ?_
  refine l1_many mt_X10_orderFixed (pc' := 74) (L' := [some (.ref 11)]) (st' := [.ref 11, .ref 16]) 1 rfl ?_
  refine l1_getR hQ mt_X10_orderFixed rfl (o := 11) (ci := 9) (k := 8) (a := 0) (b := 1) rfl rfl rfl rfl rfl (q := 32) rfl ?_
  refine l1_many mt_X10_orderFixed (pc' := 80) (L' := [some (.ref 11)]) (st' := [.int 32, .int 0, .ref 32, .ref 16]) 2 rfl ?_
  refine l1_callV hQ mt_X10_orderFixed mt_X3_order rfl rfl (o := 16) (ci := 2) (As := [.ref 32, .int 0, .int 32]) (rest := []) rfl rfl rfl rfl rfl rfl (st1 := fun _ => []) (fun _ => rfl) (ok_X3_order hQ N c6 16 0 32 rfl) (fun _ c7 => ?_)
  exact l1_ret mt_X10_orderFixed rfl rfl rfl
theorem ok_X10_orderFixed {Q : hS → am_H → Prop} (hQ : l1_em kc Q) (N : Nat) (c : hS) : l1_T wV Q am_i_X10_orderFixed [.ref 11] c (f_X10_orderFixed N c) := l1_of (en_X10_orderFixed hQ N c) ⟨rfl, trivial⟩
set_option maxRecDepth 100000 in
theorem en_X11_type {Q : hS → am_H → Prop} (hQ : l1_em kc Q) (N : Nat) (c : hS) (p1 : Int64) (p3 : Int32) : l1_G (wT wI) Q am_i_X11_type 0 [some (.ref 0), some (.long p1), none, some (.int p3)] [] c (f_X11_type N c p1 p3) := by
  rw [f_X11_type]
  refine l1_many mt_X11_type (pc' := bif am_cc .lt p3 1 then 11 else 5) (L' := [some (.ref 0), some (.long p1), none, some (.int p3)]) (st' := []) 3 rfl ?_
  refine l1_bif rfl ?_ ?_
  · exact l1_thr
  · refine l1_many mt_X11_type (pc' := bif am_cc .le p3 8 then 21 else 11) (L' := [some (.ref 0), some (.long p1), none, some (.int p3)]) (st' := []) 3 rfl ?_
    refine l1_bif rfl ?_ ?_
    · refine l1_many mt_X11_type (pc' := 22) (L' := [some (.ref 0), some (.long p1), none, some (.int p3)]) (st' := [.ref 0]) 1 rfl ?_
      refine l1_getR hQ mt_X11_type rfl (o := 0) (ci := 10) (k := 0) (a := 0) (b := 1) rfl rfl rfl rfl rfl (q := 1) rfl ?_
      refine l1_callV hQ mt_X11_type mt_X2_size rfl rfl (o := 1) (ci := 1) (As := []) (rest := []) rfl rfl rfl rfl rfl rfl (st1 := fun x1 => [.int x1]) (fun _ => rfl) (ok_X2_size hQ c 1 rfl) (fun x1 c2 => ?_)
      refine l1_many mt_X11_type (pc' := bif am_cc .le (x1 + p3) 512 then 46 else 36) (L' := [some (.ref 0), some (.long p1), none, some (.int p3)]) (st' := []) 4 rfl ?_
      refine l1_bif rfl ?_ ?_
      · refine l1_many mt_X11_type (pc' := 47) (L' := [some (.ref 0), some (.long p1), none, some (.int p3)]) (st' := [.ref 0]) 1 rfl ?_
        refine l1_getR hQ mt_X11_type rfl (o := 0) (ci := 10) (k := 0) (a := 0) (b := 1) rfl rfl rfl rfl rfl (q := 1) rfl ?_
        refine l1_many mt_X11_type (pc' := 52) (L' := [some (.ref 0), some (.long p1), none, some (.int p3)]) (st' := [.int p3, .long p1, .ref 1]) 2 rfl ?_
        refine l1_callV hQ mt_X11_type mt_X2_addBig rfl rfl (o := 1) (ci := 1) (As := [.long p1, .int p3]) (rest := []) rfl rfl rfl rfl rfl rfl (st1 := fun _ => []) (fun _ => rfl) (ok_X2_addBig hQ N c2 1 p1 p3 rfl) (fun _ c3 => ?_)
        refine l1_many mt_X11_type (pc' := 56) (L' := [some (.ref 0), some (.long p1), none, some (.int p3)]) (st' := [.ref 0]) 1 rfl ?_
        refine l1_getR hQ mt_X11_type rfl (o := 0) (ci := 10) (k := 0) (a := 0) (b := 1) rfl rfl rfl rfl rfl (q := 1) rfl ?_
        refine l1_callV hQ mt_X11_type mt_X2_size rfl rfl (o := 1) (ci := 1) (As := []) (rest := []) rfl rfl rfl rfl rfl rfl (st1 := fun x4 => [.int x4]) (fun _ => rfl) (ok_X2_size hQ c3 1 rfl) (fun x4 c5 => ?_)
        exact l1_ret mt_X11_type rfl rfl rfl
      · exact l1_thr
    · exact l1_thr
set_option maxRecDepth 100000 in
theorem en_X11_keep {Q : hS → am_H → Prop} (hQ : l1_em kc Q) (c : hS) (p1 : Int32) : l1_G (wT wV) Q am_i_X11_keep 0 [some (.ref 0), some (.int p1)] [] c (f_X11_keep c p1) := by
  rw [f_X11_keep]
  refine l1_many mt_X11_keep (pc' := bif am_cc .lt p1 0 then 15 else 4) (L' := [some (.ref 0), some (.int p1)]) (st' := []) 2 rfl ?_
  refine l1_bif rfl ?_ ?_
  · exact l1_thr
  · refine l1_many mt_X11_keep (pc' := 6) (L' := [some (.ref 0), some (.int p1)]) (st' := [.ref 0, .int p1]) 2 rfl ?_
    refine l1_getR hQ mt_X11_keep rfl (o := 0) (ci := 10) (k := 0) (a := 0) (b := 1) rfl rfl rfl rfl rfl (q := 1) rfl ?_
    refine l1_callV hQ mt_X11_keep mt_X2_size rfl rfl (o := 1) (ci := 1) (As := []) (rest := [.int p1]) rfl rfl rfl rfl rfl rfl (st1 := fun x1 => [.int x1, .int p1]) (fun _ => rfl) (ok_X2_size hQ c 1 rfl) (fun x1 c2 => ?_)
    refine l1_many mt_X11_keep (pc' := bif am_cc .le p1 x1 then 25 else 15) (L' := [some (.ref 0), some (.int p1)]) (st' := []) 1 rfl ?_
    refine l1_bif rfl ?_ ?_
    · refine l1_many mt_X11_keep (pc' := 26) (L' := [some (.ref 0), some (.int p1)]) (st' := [.ref 0]) 1 rfl ?_
      refine l1_getR hQ mt_X11_keep rfl (o := 0) (ci := 10) (k := 0) (a := 0) (b := 1) rfl rfl rfl rfl rfl (q := 1) rfl ?_
      refine l1_many mt_X11_keep (pc' := 30) (L' := [some (.ref 0), some (.int p1)]) (st' := [.int p1, .ref 1]) 1 rfl ?_
      refine l1_callV hQ mt_X11_keep mt_X2_cutTo rfl rfl (o := 1) (ci := 1) (As := [.int p1]) (rest := []) rfl rfl rfl rfl rfl rfl (st1 := fun _ => []) (fun _ => rfl) (ok_X2_cutTo hQ c2 1 p1 rfl) (fun _ c3 => ?_)
      exact l1_ret mt_X11_keep rfl rfl rfl
    · exact l1_thr
set_option maxRecDepth 100000 in
theorem en_X11_typed {Q : hS → am_H → Prop} (hQ : l1_em kc Q) (c : hS) (p1 : Int32) : l1_G (wT wI) Q am_i_X11_typed 0 [some (.ref 0), some (.int p1)] [] c (f_X11_typed c p1) := by
  rw [f_X11_typed]
  refine l1_many mt_X11_typed (pc' := 1) (L' := [some (.ref 0), some (.int p1)]) (st' := [.ref 0]) 1 rfl ?_
  refine l1_getR hQ mt_X11_typed rfl (o := 0) (ci := 10) (k := 0) (a := 0) (b := 1) rfl rfl rfl rfl rfl (q := 1) rfl ?_
  refine l1_many mt_X11_typed (pc' := 5) (L' := [some (.ref 0), some (.int p1)]) (st' := [.int p1, .ref 1]) 1 rfl ?_
  refine l1_callV hQ mt_X11_typed mt_X2_has rfl rfl (o := 1) (ci := 1) (As := [.int p1]) (rest := []) rfl rfl rfl rfl rfl rfl (st1 := fun x1 => [.int x1]) (fun _ => rfl) (ok_X2_has hQ c 1 p1 rfl) (fun x1 c2 => ?_)
  refine l1_many mt_X11_typed (pc' := bif am_cc .ne x1 0 then 21 else 11) (L' := [some (.ref 0), some (.int p1)]) (st' := []) 1 rfl ?_
  refine l1_bin rfl ?_ ?_
  · exact l1_thr
  · refine l1_many mt_X11_typed (pc' := 22) (L' := [some (.ref 0), some (.int p1)]) (st' := [.ref 0]) 1 rfl ?_
    refine l1_getR hQ mt_X11_typed rfl (o := 0) (ci := 10) (k := 0) (a := 0) (b := 1) rfl rfl rfl rfl rfl (q := 1) rfl ?_
    refine l1_many mt_X11_typed (pc' := 26) (L' := [some (.ref 0), some (.int p1)]) (st' := [.int p1, .ref 1]) 1 rfl ?_
    refine l1_callV hQ mt_X11_typed mt_X2_get rfl rfl (o := 1) (ci := 1) (As := [.int p1]) (rest := []) rfl rfl rfl rfl rfl rfl (st1 := fun x3 => [.int x3]) (fun _ => rfl) (ok_X2_get hQ c2 1 p1 rfl) (fun x3 c4 => ?_)
    exact l1_ret mt_X11_typed rfl rfl rfl
set_option maxRecDepth 100000 in
theorem ok_X11_come_86 {Q : hS → am_H → Prop} (hQ : l1_em kc Q) (N : Nat) (p1 : Int32) (p2 : Int32) : ∀ (c : hS) (w0 : Int32) (w1 : Int32), l1_G (wT wI) Q am_i_X11_come 86 [some (.ref 0), some (.int p1), some (.int p2)] [.int w0, .int w1] c (f_X11_come_86 N p1 p2 c w0 w1) := by
  intro c w0 w1
  rw [f_X11_come_86]
  refine l1_many mt_X11_come (pc' := bif am_cc .le w1 w0 then 99 else 89) (L' := [some (.ref 0), some (.int p1), some (.int p2)]) (st' := []) 1 rfl ?_
  refine l1_bif rfl ?_ ?_
  · refine l1_many mt_X11_come (pc' := 100) (L' := [some (.ref 0), some (.int p1), some (.int p2)]) (st' := [.ref 0]) 1 rfl ?_
    refine l1_getM hQ mt_X11_come rfl (o := 0) (ci := 10) (k := 8) (a := 0) (b := 0) rfl rfl rfl rfl rfl (fun hx1 => ?_)
    refine l1_many mt_X11_come (pc' := 104) (L' := [some (.ref 0), some (.int p1), some (.int p2)]) (st' := [.ref 0, .ref (c.2.2 0 8)]) 1 rfl ?_
    refine l1_getR hQ mt_X11_come rfl (o := 0) (ci := 10) (k := 2) (a := 0) (b := 1) rfl rfl rfl rfl rfl (q := 5) rfl ?_
    refine l1_many mt_X11_come (pc' := 108) (L' := [some (.ref 0), some (.int p1), some (.int p2)]) (st' := [.int p2, .ref 5, .ref (c.2.2 0 8)]) 1 rfl ?_
    refine l1_callV hQ mt_X11_come mt_X9_isInTheWay rfl rfl (o := (c.2.2 0 8)) (ci := 8) (As := [.ref 5, .int p2]) (rest := []) rfl rfl hx1 rfl rfl rfl (st1 := fun x2 => [.int x2]) (fun _ => rfl) (ok_X9_isInTheWay hQ N c (c.2.2 0 8) 5 p2 hx1 rfl) (fun x2 c3 => ?_)
    refine l1_many mt_X11_come (pc' := bif am_cc .eq x2 0 then 124 else 114) (L' := [some (.ref 0), some (.int p1), some (.int p2)]) (st' := []) 1 rfl ?_
    refine l1_bif rfl ?_ ?_
    · refine l1_many mt_X11_come (pc' := 125) (L' := [some (.ref 0), some (.int p1), some (.int p2)]) (st' := [.ref 0]) 1 rfl ?_
      refine l1_getM hQ mt_X11_come rfl (o := 0) (ci := 10) (k := 8) (a := 0) (b := 0) rfl rfl rfl rfl rfl (fun hx4 => ?_)
      refine l1_many mt_X11_come (pc' := 129) (L' := [some (.ref 0), some (.int p1), some (.int p2)]) (st' := [.ref 0, .ref (c3.2.2 0 8)]) 1 rfl ?_
      refine l1_getR hQ mt_X11_come rfl (o := 0) (ci := 10) (k := 2) (a := 0) (b := 1) rfl rfl rfl rfl rfl (q := 5) rfl ?_
      refine l1_callV hQ mt_X11_come mt_X9_hasRoomFor rfl rfl (o := (c3.2.2 0 8)) (ci := 8) (As := [.ref 5]) (rest := []) rfl rfl hx4 rfl rfl rfl (st1 := fun x5 => [.int x5]) (fun _ => rfl) (ok_X9_hasRoomFor hQ N c3 (c3.2.2 0 8) 5 hx4 rfl) (fun x5 c6 => ?_)
      refine l1_many mt_X11_come (pc' := bif am_cc .ne x5 0 then 148 else 138) (L' := [some (.ref 0), some (.int p1), some (.int p2)]) (st' := []) 1 rfl ?_
      refine l1_bin rfl ?_ ?_
      · exact l1_thr
      · refine l1_many mt_X11_come (pc' := 149) (L' := [some (.ref 0), some (.int p1), some (.int p2)]) (st' := [.ref 0]) 1 rfl ?_
        refine l1_getM hQ mt_X11_come rfl (o := 0) (ci := 10) (k := 8) (a := 0) (b := 0) rfl rfl rfl rfl rfl (fun hx7 => ?_)
        refine l1_many mt_X11_come (pc' := 153) (L' := [some (.ref 0), some (.int p1), some (.int p2)]) (st' := [.ref 0, .ref (c6.2.2 0 8)]) 1 rfl ?_
        refine l1_getR hQ mt_X11_come rfl (o := 0) (ci := 10) (k := 2) (a := 0) (b := 1) rfl rfl rfl rfl rfl (q := 5) rfl ?_
        refine l1_many mt_X11_come (pc' := 158) (L' := [some (.ref 0), some (.int p1), some (.int p2)]) (st' := [.ref 0, .int p2, .ref 5, .ref (c6.2.2 0 8)]) 2 rfl ?_
        refine l1_getR hQ mt_X11_come rfl (o := 0) (ci := 10) (k := 0) (a := 0) (b := 1) rfl rfl rfl rfl rfl (q := 1) rfl ?_
        refine l1_many mt_X11_come (pc' := 163) (L' := [some (.ref 0), some (.int p1), some (.int p2)]) (st' := [.ref 0, .int p1, .ref 1, .int p2, .ref 5, .ref (c6.2.2 0 8)]) 2 rfl ?_
        refine l1_getR hQ mt_X11_come rfl (o := 0) (ci := 10) (k := 0) (a := 0) (b := 1) rfl rfl rfl rfl rfl (q := 1) rfl ?_
        refine l1_callV hQ mt_X11_come mt_X2_size rfl rfl (o := 1) (ci := 1) (As := []) (rest := [.int p1, .ref 1, .int p2, .ref 5, .ref (c6.2.2 0 8)]) rfl rfl rfl rfl rfl rfl (st1 := fun x8 => [.int x8, .int p1, .ref 1, .int p2, .ref 5, .ref (c6.2.2 0 8)]) (fun _ => rfl) (ok_X2_size hQ c6 1 rfl) (fun x8 c9 => ?_)
        refine l1_callV hQ mt_X11_come mt_X9_take rfl rfl (o := (c6.2.2 0 8)) (ci := 8) (As := [.ref 5, .int p2, .ref 1, .int p1, .int x8]) (rest := []) rfl rfl hx7 rfl rfl rfl (st1 := fun _ => []) (fun _ => rfl) (ok_X9_take hQ N c9 (c6.2.2 0 8) 5 p2 1 p1 x8 hx7 rfl rfl) (fun _ c10 => ?_)
        refine l1_many mt_X11_come (pc' := 173) (L' := [some (.ref 0), some (.int p1), some (.int p2)]) (st' := [.ref 0]) 1 rfl ?_
        refine l1_getR hQ mt_X11_come rfl (o := 0) (ci := 10) (k := 0) (a := 0) (b := 1) rfl rfl rfl rfl rfl (q := 1) rfl ?_
        refine l1_many mt_X11_come (pc' := 177) (L' := [some (.ref 0), some (.int p1), some (.int p2)]) (st' := [.int 0, .ref 1]) 1 rfl ?_
        refine l1_callV hQ mt_X11_come mt_X2_cutTo rfl rfl (o := 1) (ci := 1) (As := [.int 0]) (rest := []) rfl rfl rfl rfl rfl rfl (st1 := fun _ => []) (fun _ => rfl) (ok_X2_cutTo hQ c10 1 0 rfl) (fun _ c11 => ?_)
        refine l1_many mt_X11_come (pc' := 181) (L' := [some (.ref 0), some (.int p1), some (.int p2)]) (st' := [.ref 0]) 1 rfl ?_
        refine l1_getM hQ mt_X11_come rfl (o := 0) (ci := 10) (k := 8) (a := 0) (b := 0) rfl rfl rfl rfl rfl (fun hx12 => ?_)
        refine l1_callV hQ mt_X11_come mt_X9_size rfl rfl (o := (c11.2.2 0 8)) (ci := 8) (As := []) (rest := []) rfl rfl hx12 rfl rfl rfl (st1 := fun x13 => [.int x13]) (fun _ => rfl) (ok_X9_size hQ c11 (c11.2.2 0 8) hx12) (fun x13 c14 => ?_)
        exact l1_ret mt_X11_come rfl rfl rfl
    · exact l1_thr
  · exact l1_thr
set_option maxRecDepth 100000 in
theorem en_X11_come {Q : hS → am_H → Prop} (hQ : l1_em kc Q) (N : Nat) (c : hS) (p1 : Int32) (p2 : Int32) : l1_G (wT wI) Q am_i_X11_come 0 [some (.ref 0), some (.int p1), some (.int p2)] [] c (f_X11_come N c p1 p2) := by
  rw [f_X11_come]
  refine l1_many mt_X11_come (pc' := bif am_cc .lt p1 0 then 15 else 4) (L' := [some (.ref 0), some (.int p1), some (.int p2)]) (st' := []) 2 rfl ?_
  refine l1_bif rfl ?_ ?_
  · exact l1_thr
  · refine l1_many mt_X11_come (pc' := 6) (L' := [some (.ref 0), some (.int p1), some (.int p2)]) (st' := [.ref 0, .int p1]) 2 rfl ?_
    refine l1_getR hQ mt_X11_come rfl (o := 0) (ci := 10) (k := 0) (a := 0) (b := 1) rfl rfl rfl rfl rfl (q := 1) rfl ?_
    refine l1_callV hQ mt_X11_come mt_X2_size rfl rfl (o := 1) (ci := 1) (As := []) (rest := [.int p1]) rfl rfl rfl rfl rfl rfl (st1 := fun x1 => [.int x1, .int p1]) (fun _ => rfl) (ok_X2_size hQ c 1 rfl) (fun x1 c2 => ?_)
    refine l1_many mt_X11_come (pc' := bif am_cc .le p1 x1 then 25 else 15) (L' := [some (.ref 0), some (.int p1), some (.int p2)]) (st' := []) 1 rfl ?_
    refine l1_bif rfl ?_ ?_
    · refine l1_many mt_X11_come (pc' := 26) (L' := [some (.ref 0), some (.int p1), some (.int p2)]) (st' := [.ref 0]) 1 rfl ?_
      refine l1_getR hQ mt_X11_come rfl (o := 0) (ci := 10) (k := 2) (a := 0) (b := 1) rfl rfl rfl rfl rfl (q := 5) rfl ?_
      refine l1_many mt_X11_come (pc' := 30) (L' := [some (.ref 0), some (.int p1), some (.int p2)]) (st' := [.int 0, .ref 5]) 1 rfl ?_
      refine l1_callV hQ mt_X11_come mt_X2_cutTo rfl rfl (o := 5) (ci := 1) (As := [.int 0]) (rest := []) rfl rfl rfl rfl rfl rfl (st1 := fun _ => []) (fun _ => rfl) (ok_X2_cutTo hQ c2 5 0 rfl) (fun _ c3 => ?_)
      refine l1_many mt_X11_come (pc' := 34) (L' := [some (.ref 0), some (.int p1), some (.int p2)]) (st' := [.ref 0]) 1 rfl ?_
      refine l1_getR hQ mt_X11_come rfl (o := 0) (ci := 10) (k := 2) (a := 0) (b := 1) rfl rfl rfl rfl rfl (q := 5) rfl ?_
      refine l1_many mt_X11_come (pc' := 38) (L' := [some (.ref 0), some (.int p1), some (.int p2)]) (st' := [.ref 0, .ref 5]) 1 rfl ?_
      refine l1_getR hQ mt_X11_come rfl (o := 0) (ci := 10) (k := 0) (a := 0) (b := 1) rfl rfl rfl rfl rfl (q := 1) rfl ?_
      refine l1_many mt_X11_come (pc' := 43) (L' := [some (.ref 0), some (.int p1), some (.int p2)]) (st' := [.int p1, .int 0, .ref 1, .ref 5]) 2 rfl ?_
      refine l1_callV hQ mt_X11_come mt_X2_addRow rfl rfl (o := 5) (ci := 1) (As := [.ref 1, .int 0, .int p1]) (rest := []) rfl rfl rfl rfl rfl rfl (st1 := fun _ => []) (fun _ => rfl) (ok_X2_addRow hQ N c3 5 1 0 p1 rfl rfl) (fun _ c4 => ?_)
      refine l1_many mt_X11_come (pc' := 47) (L' := [some (.ref 0), some (.int p1), some (.int p2)]) (st' := [.ref 0]) 1 rfl ?_
      refine l1_getR hQ mt_X11_come rfl (o := 0) (ci := 10) (k := 2) (a := 0) (b := 1) rfl rfl rfl rfl rfl (q := 5) rfl ?_
      refine l1_callS mt_X11_come mt_X11_isName rfl rfl (As := [.ref 5]) (rest := []) rfl rfl rfl (st1 := fun x5 => [.int x5]) (fun _ => rfl) (ok_X11_isName hQ N c4 5 rfl) (fun x5 c6 => ?_)
      refine l1_many mt_X11_come (pc' := bif am_cc .ne x5 0 then 66 else 56) (L' := [some (.ref 0), some (.int p1), some (.int p2)]) (st' := []) 1 rfl ?_
      refine l1_bin rfl ?_ ?_
      · exact l1_thr
      · refine l1_many mt_X11_come (pc' := 67) (L' := [some (.ref 0), some (.int p1), some (.int p2)]) (st' := [.ref 0]) 1 rfl ?_
        refine l1_getR hQ mt_X11_come rfl (o := 0) (ci := 10) (k := 0) (a := 0) (b := 1) rfl rfl rfl rfl rfl (q := 1) rfl ?_
        refine l1_callV hQ mt_X11_come mt_X2_size rfl rfl (o := 1) (ci := 1) (As := []) (rest := []) rfl rfl rfl rfl rfl rfl (st1 := fun x7 => [.int x7]) (fun _ => rfl) (ok_X2_size hQ c6 1 rfl) (fun x7 c8 => ?_)
        refine l1_many mt_X11_come (pc' := bif am_cc .eq p2 0 then 83 else 79) (L' := [some (.ref 0), some (.int p1), some (.int p2)]) (st' := [.int (x7 - p1)]) 4 rfl ?_
        refine l1_bif rfl ?_ ?_
        · refine l1_many mt_X11_come (pc' := 86) (L' := [some (.ref 0), some (.int p1), some (.int p2)]) (st' := [.int 400, .int (x7 - p1)]) 1 rfl ?_
          exact ok_X11_come_86 hQ N p1 p2 c8 400 (x7 - p1)
        · refine l1_many mt_X11_come (pc' := 86) (L' := [some (.ref 0), some (.int p1), some (.int p2)]) (st' := [.int 0, .int (x7 - p1)]) 2 rfl ?_
          exact ok_X11_come_86 hQ N p1 p2 c8 0 (x7 - p1)
    · exact l1_thr
set_option maxRecDepth 100000 in
theorem en_X11_go {Q : hS → am_H → Prop} (hQ : l1_em kc Q) (N : Nat) (c : hS) (p1 : Int32) : l1_G (wT wI) Q am_i_X11_go 0 [some (.ref 0), some (.int p1)] [] c (f_X11_go N c p1) := by
  rw [f_X11_go]
  refine l1_many mt_X11_go (pc' := 1) (L' := [some (.ref 0), some (.int p1)]) (st' := [.ref 0]) 1 rfl ?_
  refine l1_getM hQ mt_X11_go rfl (o := 0) (ci := 10) (k := 8) (a := 0) (b := 0) rfl rfl rfl rfl rfl (fun hx1 => ?_)
  refine l1_many mt_X11_go (pc' := 5) (L' := [some (.ref 0), some (.int p1)]) (st' := [.int p1, .ref (c.2.2 0 8)]) 1 rfl ?_
  refine l1_callV hQ mt_X11_go mt_X9_member rfl rfl (o := (c.2.2 0 8)) (ci := 8) (As := [.int p1]) (rest := []) rfl rfl hx1 rfl rfl rfl (st1 := fun x2 => l1_mv x2 :: []) (fun _ => rfl) (ok_X9_member hQ c (c.2.2 0 8) p1 hx1) (fun x2 c3 => ?_)
  refine l1_opt (x := x2) ?_ (fun y4 => ?_)
  · refine l1_many mt_X11_go (pc' := 11) (L' := [some (.ref 0), some (.int p1)]) (st' := []) 1 rfl ?_
    exact l1_thr
  · refine l1_ck (fun hy => ?_)
    have hy4 : kc y4 = 6 := Nat.eq_of_beq_eq_true hy
    refine l1_many mt_X11_go (pc' := 22) (L' := [some (.ref 0), some (.int p1)]) (st' := [.ref 0]) 2 rfl ?_
    refine l1_getM hQ mt_X11_go rfl (o := 0) (ci := 10) (k := 8) (a := 0) (b := 0) rfl rfl rfl rfl rfl (fun hx5 => ?_)
    refine l1_many mt_X11_go (pc' := 26) (L' := [some (.ref 0), some (.int p1)]) (st' := [.int p1, .ref (c3.2.2 0 8)]) 1 rfl ?_
    refine l1_callV hQ mt_X11_go mt_X9_drop rfl rfl (o := (c3.2.2 0 8)) (ci := 8) (As := [.int p1]) (rest := []) rfl rfl hx5 rfl rfl rfl (st1 := fun _ => []) (fun _ => rfl) (ok_X9_drop hQ N c3 (c3.2.2 0 8) p1 hx5) (fun _ c6 => ?_)
    refine l1_many mt_X11_go (pc' := 30) (L' := [some (.ref 0), some (.int p1)]) (st' := [.ref 0]) 1 rfl ?_
    refine l1_getM hQ mt_X11_go rfl (o := 0) (ci := 10) (k := 8) (a := 0) (b := 0) rfl rfl rfl rfl rfl (fun hx7 => ?_)
    refine l1_callV hQ mt_X11_go mt_X9_size rfl rfl (o := (c6.2.2 0 8)) (ci := 8) (As := []) (rest := []) rfl rfl hx7 rfl rfl rfl (st1 := fun x8 => [.int x8]) (fun _ => rfl) (ok_X9_size hQ c6 (c6.2.2 0 8) hx7) (fun x8 c9 => ?_)
    exact l1_ret mt_X11_go rfl rfl rfl
set_option maxRecDepth 100000 in
theorem en_X11_name {Q : hS → am_H → Prop} (hQ : l1_em kc Q) (c : hS) (p1 : Int32) (p2 : Int32) : l1_G (wT wI) Q am_i_X11_name 0 [some (.ref 0), some (.int p1), some (.int p2)] [] c (f_X11_name c p1 p2) := by
  rw [f_X11_name]
  refine l1_many mt_X11_name (pc' := 1) (L' := [some (.ref 0), some (.int p1), some (.int p2)]) (st' := [.ref 0]) 1 rfl ?_
  refine l1_getM hQ mt_X11_name rfl (o := 0) (ci := 10) (k := 8) (a := 0) (b := 0) rfl rfl rfl rfl rfl (fun hx1 => ?_)
  refine l1_many mt_X11_name (pc' := 5) (L' := [some (.ref 0), some (.int p1), some (.int p2)]) (st' := [.int p1, .ref (c.2.2 0 8)]) 1 rfl ?_
  refine l1_callV hQ mt_X11_name mt_X9_member rfl rfl (o := (c.2.2 0 8)) (ci := 8) (As := [.int p1]) (rest := []) rfl rfl hx1 rfl rfl rfl (st1 := fun x2 => l1_mv x2 :: []) (fun _ => rfl) (ok_X9_member hQ c (c.2.2 0 8) p1 hx1) (fun x2 c3 => ?_)
  refine l1_opt (x := x2) ?_ (fun y4 => ?_)
  · refine l1_many mt_X11_name (pc' := 13) (L' := [some (.ref 0), some (.int p1), some (.int p2), some (.null)]) (st' := []) 3 rfl ?_
    exact l1_thr
  · refine l1_ck (fun hy => ?_)
    have hy4 : kc y4 = 6 := Nat.eq_of_beq_eq_true hy
    refine l1_many mt_X11_name (pc' := 24) (L' := [some (.ref 0), some (.int p1), some (.int p2), some (.ref y4)]) (st' := [.int p2]) 4 rfl ?_
    refine l1_ite (fun hs => ?_) (fun hs3 => ?_)
    · refine l1_sw mt_X11_name rfl (pc' := 68) (st' := []) rfl (by rw [hs]; rfl) ?_
      refine l1_many mt_X11_name (pc' := 69) (L' := [some (.ref 0), some (.int p1), some (.int p2), some (.ref y4)]) (st' := [.ref y4]) 1 rfl ?_
      refine l1_getI hQ mt_X11_name rfl (o := y4) (ci := 6) (k := 2) (a := 2) (b := 0) hy4 rfl rfl rfl rfl ?_
      refine l1_many mt_X11_name (pc' := bif am_cc .eq (c3.1 y4 2) 0 then 79 else 75) (L' := [some (.ref 0), some (.int p1), some (.int p2), some (.ref y4)]) (st' := []) 1 rfl ?_
      refine l1_bif rfl ?_ ?_
      · refine l1_many mt_X11_name (pc' := 80) (L' := [some (.ref 0), some (.int p1), some (.int p2), some (.ref y4)]) (st' := [.int 0]) 1 rfl ?_
        exact l1_ret mt_X11_name rfl rfl rfl
      · refine l1_many mt_X11_name (pc' := 80) (L' := [some (.ref 0), some (.int p1), some (.int p2), some (.ref y4)]) (st' := [.int 1]) 2 rfl ?_
        exact l1_ret mt_X11_name rfl rfl rfl
    refine l1_ite (fun hs => ?_) (fun hs2 => ?_)
    · refine l1_sw mt_X11_name rfl (pc' := 60) (st' := []) rfl (by rw [hs]; rfl) ?_
      refine l1_many mt_X11_name (pc' := 61) (L' := [some (.ref 0), some (.int p1), some (.int p2), some (.ref y4)]) (st' := [.ref y4]) 1 rfl ?_
      refine l1_getR hQ mt_X11_name rfl (o := y4) (ci := 6) (k := 1) (a := 2) (b := 2) hy4 rfl rfl rfl rfl (q := (y4 + 3)) rfl ?_
      refine l1_callV hQ mt_X11_name mt_X2_size rfl rfl (o := (y4 + 3)) (ci := 1) (As := []) (rest := []) rfl rfl (kc6_1 hy4) rfl rfl rfl (st1 := fun x5 => [.int x5]) (fun _ => rfl) (ok_X2_size hQ c3 (y4 + 3) (kc6_1 hy4)) (fun x5 c6 => ?_)
      exact l1_ret mt_X11_name rfl rfl rfl
    refine l1_ite (fun hs => ?_) (fun hs1 => ?_)
    · refine l1_sw mt_X11_name rfl (pc' := 52) (st' := []) rfl (by rw [hs]; rfl) ?_
      refine l1_many mt_X11_name (pc' := 53) (L' := [some (.ref 0), some (.int p1), some (.int p2), some (.ref y4)]) (st' := [.ref y4]) 1 rfl ?_
      refine l1_getR hQ mt_X11_name rfl (o := y4) (ci := 6) (k := 0) (a := 2) (b := 2) hy4 rfl rfl rfl rfl (q := (y4 + 1)) rfl ?_
      refine l1_callV hQ mt_X11_name mt_X2_size rfl rfl (o := (y4 + 1)) (ci := 1) (As := []) (rest := []) rfl rfl (kc6_0 hy4) rfl rfl rfl (st1 := fun x7 => [.int x7]) (fun _ => rfl) (ok_X2_size hQ c3 (y4 + 1) (kc6_0 hy4)) (fun x7 c8 => ?_)
      exact l1_ret mt_X11_name rfl rfl rfl
    refine l1_sw mt_X11_name rfl (pc' := 81) (st' := []) rfl (by have a3 : Int32.toInt p2 ≠ (-3) := fun e => hs3 (Int32.toInt_inj.mp (e.trans (by decide +kernel))); have a2 : Int32.toInt p2 ≠ (-2) := fun e => hs2 (Int32.toInt_inj.mp (e.trans (by decide +kernel))); have a1 : Int32.toInt p2 ≠ (-1) := fun e => hs1 (Int32.toInt_inj.mp (e.trans (by decide +kernel))); have : Int32.toInt p2 < (-3) ∨ (-1) < Int32.toInt p2 := (by omega); simp only [am_s0]; rw [if_pos this]; rfl) ?_
    · refine l1_many mt_X11_name (pc' := 82) (L' := [some (.ref 0), some (.int p1), some (.int p2), some (.ref y4)]) (st' := [.ref y4]) 1 rfl ?_
      refine l1_getR hQ mt_X11_name rfl (o := y4) (ci := 6) (k := 0) (a := 2) (b := 2) hy4 rfl rfl rfl rfl (q := (y4 + 1)) rfl ?_
      refine l1_many mt_X11_name (pc' := 86) (L' := [some (.ref 0), some (.int p1), some (.int p2), some (.ref y4)]) (st' := [.int p2, .ref (y4 + 1)]) 1 rfl ?_
      refine l1_callV hQ mt_X11_name mt_X2_has rfl rfl (o := (y4 + 1)) (ci := 1) (As := [.int p2]) (rest := []) rfl rfl (kc6_0 hy4) rfl rfl rfl (st1 := fun x9 => [.int x9]) (fun _ => rfl) (ok_X2_has hQ c3 (y4 + 1) p2 (kc6_0 hy4)) (fun x9 c10 => ?_)
      refine l1_many mt_X11_name (pc' := bif am_cc .ne x9 0 then 102 else 92) (L' := [some (.ref 0), some (.int p1), some (.int p2), some (.ref y4)]) (st' := []) 1 rfl ?_
      refine l1_bin rfl ?_ ?_
      · exact l1_thr
      · refine l1_many mt_X11_name (pc' := 103) (L' := [some (.ref 0), some (.int p1), some (.int p2), some (.ref y4)]) (st' := [.ref y4]) 1 rfl ?_
        refine l1_getR hQ mt_X11_name rfl (o := y4) (ci := 6) (k := 0) (a := 2) (b := 2) hy4 rfl rfl rfl rfl (q := (y4 + 1)) rfl ?_
        refine l1_many mt_X11_name (pc' := 107) (L' := [some (.ref 0), some (.int p1), some (.int p2), some (.ref y4)]) (st' := [.int p2, .ref (y4 + 1)]) 1 rfl ?_
        refine l1_callV hQ mt_X11_name mt_X2_get rfl rfl (o := (y4 + 1)) (ci := 1) (As := [.int p2]) (rest := []) rfl rfl (kc6_0 hy4) rfl rfl rfl (st1 := fun x11 => [.int x11]) (fun _ => rfl) (ok_X2_get hQ c10 (y4 + 1) p2 (kc6_0 hy4)) (fun x11 c12 => ?_)
        exact l1_ret mt_X11_name rfl rfl rfl
set_option maxRecDepth 100000 in
theorem en_X11_byteAt {Q : hS → am_H → Prop} (hQ : l1_em kc Q) (c : hS) (p1 : Int32) (p2 : Int32) : l1_G (wT wI) Q am_i_X11_byteAt 0 [some (.ref 0), some (.int p1), some (.int p2)] [] c (f_X11_byteAt c p1 p2) := by
  rw [f_X11_byteAt]
  refine l1_many mt_X11_byteAt (pc' := 1) (L' := [some (.ref 0), some (.int p1), some (.int p2)]) (st' := [.ref 0]) 1 rfl ?_
  refine l1_getM hQ mt_X11_byteAt rfl (o := 0) (ci := 10) (k := 8) (a := 0) (b := 0) rfl rfl rfl rfl rfl (fun hx1 => ?_)
  refine l1_many mt_X11_byteAt (pc' := 5) (L' := [some (.ref 0), some (.int p1), some (.int p2)]) (st' := [.int p1, .ref (c.2.2 0 8)]) 1 rfl ?_
  refine l1_callV hQ mt_X11_byteAt mt_X9_member rfl rfl (o := (c.2.2 0 8)) (ci := 8) (As := [.int p1]) (rest := []) rfl rfl hx1 rfl rfl rfl (st1 := fun x2 => l1_mv x2 :: []) (fun _ => rfl) (ok_X9_member hQ c (c.2.2 0 8) p1 hx1) (fun x2 c3 => ?_)
  refine l1_opt (x := x2) ?_ (fun y4 => ?_)
  · refine l1_many mt_X11_byteAt (pc' := 24) (L' := [some (.ref 0), some (.int p1), some (.int p2), some (.null)]) (st' := []) 3 rfl ?_
    exact l1_thr
  · refine l1_ck (fun hy => ?_)
    have hy4 : kc y4 = 6 := Nat.eq_of_beq_eq_true hy
    refine l1_many mt_X11_byteAt (pc' := 14) (L' := [some (.ref 0), some (.int p1), some (.int p2), some (.ref y4)]) (st' := [.ref y4]) 4 rfl ?_
    refine l1_getR hQ mt_X11_byteAt rfl (o := y4) (ci := 6) (k := 1) (a := 2) (b := 2) hy4 rfl rfl rfl rfl (q := (y4 + 3)) rfl ?_
    refine l1_many mt_X11_byteAt (pc' := 18) (L' := [some (.ref 0), some (.int p1), some (.int p2), some (.ref y4)]) (st' := [.int p2, .ref (y4 + 3)]) 1 rfl ?_
    refine l1_callV hQ mt_X11_byteAt mt_X2_has rfl rfl (o := (y4 + 3)) (ci := 1) (As := [.int p2]) (rest := []) rfl rfl (kc6_1 hy4) rfl rfl rfl (st1 := fun x5 => [.int x5]) (fun _ => rfl) (ok_X2_has hQ c3 (y4 + 3) p2 (kc6_1 hy4)) (fun x5 c6 => ?_)
    refine l1_many mt_X11_byteAt (pc' := bif am_cc .ne x5 0 then 34 else 24) (L' := [some (.ref 0), some (.int p1), some (.int p2), some (.ref y4)]) (st' := []) 1 rfl ?_
    refine l1_bin rfl ?_ ?_
    · exact l1_thr
    · refine l1_many mt_X11_byteAt (pc' := 35) (L' := [some (.ref 0), some (.int p1), some (.int p2), some (.ref y4)]) (st' := [.ref y4]) 1 rfl ?_
      refine l1_getR hQ mt_X11_byteAt rfl (o := y4) (ci := 6) (k := 1) (a := 2) (b := 2) hy4 rfl rfl rfl rfl (q := (y4 + 3)) rfl ?_
      refine l1_many mt_X11_byteAt (pc' := 39) (L' := [some (.ref 0), some (.int p1), some (.int p2), some (.ref y4)]) (st' := [.int p2, .ref (y4 + 3)]) 1 rfl ?_
      refine l1_callV hQ mt_X11_byteAt mt_X2_get rfl rfl (o := (y4 + 3)) (ci := 1) (As := [.int p2]) (rest := []) rfl rfl (kc6_1 hy4) rfl rfl rfl (st1 := fun x7 => [.int x7]) (fun _ => rfl) (ok_X2_get hQ c6 (y4 + 3) p2 (kc6_1 hy4)) (fun x7 c8 => ?_)
      exact l1_ret mt_X11_byteAt rfl rfl rfl
set_option maxRecDepth 100000 in
theorem en_X11_kind {Q : hS → am_H → Prop} (hQ : l1_em kc Q) (N : Nat) (c : hS) : l1_G (wN wI) Q am_i_X11_kind 0 [some (.ref 0)] [] c (f_X11_kind N c) := by
  rw [f_X11_kind]
  refine l1_many mt_X11_kind (pc' := 1) (L' := [some (.ref 0)]) (st' := [.ref 0]) 1 rfl ?_
  refine l1_getR hQ mt_X11_kind rfl (o := 0) (ci := 10) (k := 0) (a := 0) (b := 1) rfl rfl rfl rfl rfl (q := 1) rfl ?_
  refine l1_callV hQ mt_X11_kind mt_X2_size rfl rfl (o := 1) (ci := 1) (As := []) (rest := []) rfl rfl rfl rfl rfl rfl (st1 := fun x1 => [.int x1]) (fun _ => rfl) (ok_X2_size hQ c 1 rfl) (fun x1 c2 => ?_)
  refine l1_many mt_X11_kind (pc' := bif am_cc .ne x1 0 then 12 else 10) (L' := [some (.ref 0)]) (st' := []) 1 rfl ?_
  refine l1_bin rfl ?_ ?_
  · refine l1_many mt_X11_kind (pc' := 11) (L' := [some (.ref 0)]) (st' := [.int 1]) 1 rfl ?_
    exact l1_ret mt_X11_kind rfl rfl rfl
  · refine l1_many mt_X11_kind (pc' := 13) (L' := [some (.ref 0)]) (st' := [.ref 0]) 1 rfl ?_
    refine l1_getM hQ mt_X11_kind rfl (o := 0) (ci := 10) (k := 8) (a := 0) (b := 0) rfl rfl rfl rfl rfl (fun hx3 => ?_)
    refine l1_many mt_X11_kind (pc' := 17) (L' := [some (.ref 0)]) (st' := [.ref 0, .ref (c2.2.2 0 8)]) 1 rfl ?_
    refine l1_getM hQ mt_X11_kind rfl (o := 0) (ci := 10) (k := 8) (a := 0) (b := 0) rfl rfl rfl rfl rfl (fun hx4 => ?_)
    refine l1_many mt_X11_kind (pc' := 21) (L' := [some (.ref 0)]) (st' := [.ref 0, .ref (c2.2.2 0 8), .ref (c2.2.2 0 8)]) 1 rfl ?_
    refine l1_getR hQ mt_X11_kind rfl (o := 0) (ci := 10) (k := 0) (a := 0) (b := 1) rfl rfl rfl rfl rfl (q := 1) rfl ?_
    refine l1_callV hQ mt_X11_kind mt_X9_find rfl rfl (o := (c2.2.2 0 8)) (ci := 8) (As := [.ref 1]) (rest := [.ref (c2.2.2 0 8)]) rfl rfl hx4 rfl rfl rfl (st1 := fun x5 => [.int x5, .ref (c2.2.2 0 8)]) (fun _ => rfl) (ok_X9_find hQ N c2 (c2.2.2 0 8) 1 hx4 rfl) (fun x5 c6 => ?_)
    refine l1_callV hQ mt_X11_kind mt_X9_member rfl rfl (o := (c2.2.2 0 8)) (ci := 8) (As := [.int x5]) (rest := []) rfl rfl hx3 rfl rfl rfl (st1 := fun x7 => l1_mv x7 :: []) (fun _ => rfl) (ok_X9_member hQ c6 (c2.2.2 0 8) x5 hx3) (fun x7 c8 => ?_)
    refine l1_opt (x := x7) ?_ (fun y9 => ?_)
    · refine l1_many mt_X11_kind (pc' := 49) (L' := [some (.ref 0), some (.null)]) (st' := [.ref 0]) 4 rfl ?_
      refine l1_getM hQ mt_X11_kind rfl (o := 0) (ci := 10) (k := 8) (a := 0) (b := 0) rfl rfl rfl rfl rfl (fun hx10 => ?_)
      refine l1_many mt_X11_kind (pc' := 53) (L' := [some (.ref 0), some (.null)]) (st' := [.ref 0, .ref (c8.2.2 0 8)]) 1 rfl ?_
      refine l1_getR hQ mt_X11_kind rfl (o := 0) (ci := 10) (k := 0) (a := 0) (b := 1) rfl rfl rfl rfl rfl (q := 1) rfl ?_
      refine l1_callV hQ mt_X11_kind mt_X9_hasUnder rfl rfl (o := (c8.2.2 0 8)) (ci := 8) (As := [.ref 1]) (rest := []) rfl rfl hx10 rfl rfl rfl (st1 := fun x11 => [.int x11]) (fun _ => rfl) (ok_X9_hasUnder hQ N c8 (c8.2.2 0 8) 1 hx10 rfl) (fun x11 c12 => ?_)
      refine l1_many mt_X11_kind (pc' := bif am_cc .eq x11 0 then 66 else 62) (L' := [some (.ref 0), some (.null)]) (st' := []) 1 rfl ?_
      refine l1_bif rfl ?_ ?_
      · refine l1_many mt_X11_kind (pc' := 67) (L' := [some (.ref 0), some (.null)]) (st' := [.int 0]) 1 rfl ?_
        exact l1_ret mt_X11_kind rfl rfl rfl
      · refine l1_many mt_X11_kind (pc' := 67) (L' := [some (.ref 0), some (.null)]) (st' := [.int 1]) 2 rfl ?_
        exact l1_ret mt_X11_kind rfl rfl rfl
    · refine l1_ck (fun hy => ?_)
      have hy9 : kc y9 = 6 := Nat.eq_of_beq_eq_true hy
      refine l1_many mt_X11_kind (pc' := 36) (L' := [some (.ref 0), some (.ref y9)]) (st' := [.ref y9]) 4 rfl ?_
      refine l1_getI hQ mt_X11_kind rfl (o := y9) (ci := 6) (k := 2) (a := 2) (b := 0) hy9 rfl rfl rfl rfl ?_
      refine l1_many mt_X11_kind (pc' := bif am_cc .eq (c8.1 y9 2) 0 then 46 else 42) (L' := [some (.ref 0), some (.ref y9)]) (st' := []) 1 rfl ?_
      refine l1_bif rfl ?_ ?_
      · refine l1_many mt_X11_kind (pc' := 47) (L' := [some (.ref 0), some (.ref y9)]) (st' := [.int 2]) 1 rfl ?_
        exact l1_ret mt_X11_kind rfl rfl rfl
      · refine l1_many mt_X11_kind (pc' := 47) (L' := [some (.ref 0), some (.ref y9)]) (st' := [.int 1]) 2 rfl ?_
        exact l1_ret mt_X11_kind rfl rfl rfl
theorem ok_X11_kind {Q : hS → am_H → Prop} (hQ : l1_em kc Q) (N : Nat) (c : hS) : l1_T wI Q am_i_X11_kind [.ref 0] c (f_X11_kind N c) := l1_of (en_X11_kind hQ N c) ⟨rfl, trivial⟩
set_option maxRecDepth 100000 in
theorem en_X11_child {Q : hS → am_H → Prop} (hQ : l1_em kc Q) (N : Nat) (c : hS) (p1 : Int32) (p2 : Int32) : l1_G (wT wI) Q am_i_X11_child 0 [some (.ref 0), some (.int p1), some (.int p2)] [] c (f_X11_child N c p1 p2) := by
  rw [f_X11_child]
  refine l1_many mt_X11_child (pc' := bif am_cc .ne p1 (-1) then 32 else 5) (L' := [some (.ref 0), some (.int p1), some (.int p2)]) (st' := []) 3 rfl ?_
  refine l1_bin rfl ?_ ?_
  · refine l1_many mt_X11_child (pc' := bif am_cc .eq p2 (-1) then 20 else 10) (L' := [some (.ref 0), some (.int p1), some (.int p2)]) (st' := []) 3 rfl ?_
    refine l1_bif rfl ?_ ?_
    · refine l1_many mt_X11_child (pc' := 21) (L' := [some (.ref 0), some (.int p1), some (.int p2)]) (st' := [.ref 0]) 1 rfl ?_
      refine l1_getM hQ mt_X11_child rfl (o := 0) (ci := 10) (k := 8) (a := 0) (b := 0) rfl rfl rfl rfl rfl (fun hx14 => ?_)
      refine l1_many mt_X11_child (pc' := 25) (L' := [some (.ref 0), some (.int p1), some (.int p2)]) (st' := [.ref 0, .ref (c.2.2 0 8)]) 1 rfl ?_
      refine l1_getR hQ mt_X11_child rfl (o := 0) (ci := 10) (k := 0) (a := 0) (b := 1) rfl rfl rfl rfl rfl (q := 1) rfl ?_
      refine l1_callV hQ mt_X11_child mt_X9_children rfl rfl (o := (c.2.2 0 8)) (ci := 8) (As := [.ref 1]) (rest := []) rfl rfl hx14 rfl rfl rfl (st1 := fun x15 => [.int x15]) (fun _ => rfl) (ok_X9_children hQ N c (c.2.2 0 8) 1 hx14 rfl) (fun x15 c16 => ?_)
      exact l1_ret mt_X11_child rfl rfl rfl
    · exact l1_thr
  · refine l1_many mt_X11_child (pc' := 33) (L' := [some (.ref 0), some (.int p1), some (.int p2)]) (st' := [.ref 0]) 1 rfl ?_
    refine l1_getM hQ mt_X11_child rfl (o := 0) (ci := 10) (k := 8) (a := 0) (b := 0) rfl rfl rfl rfl rfl (fun hx1 => ?_)
    refine l1_many mt_X11_child (pc' := 37) (L' := [some (.ref 0), some (.int p1), some (.int p2)]) (st' := [.ref 0, .ref (c.2.2 0 8)]) 1 rfl ?_
    refine l1_getM hQ mt_X11_child rfl (o := 0) (ci := 10) (k := 8) (a := 0) (b := 0) rfl rfl rfl rfl rfl (fun hx2 => ?_)
    refine l1_many mt_X11_child (pc' := 41) (L' := [some (.ref 0), some (.int p1), some (.int p2)]) (st' := [.ref 0, .ref (c.2.2 0 8), .ref (c.2.2 0 8)]) 1 rfl ?_
    refine l1_getR hQ mt_X11_child rfl (o := 0) (ci := 10) (k := 0) (a := 0) (b := 1) rfl rfl rfl rfl rfl (q := 1) rfl ?_
    refine l1_many mt_X11_child (pc' := 45) (L' := [some (.ref 0), some (.int p1), some (.int p2)]) (st' := [.int p1, .ref 1, .ref (c.2.2 0 8), .ref (c.2.2 0 8)]) 1 rfl ?_
    refine l1_callV hQ mt_X11_child mt_X9_firstOfChild rfl rfl (o := (c.2.2 0 8)) (ci := 8) (As := [.ref 1, .int p1]) (rest := [.ref (c.2.2 0 8)]) rfl rfl hx2 rfl rfl rfl (st1 := fun x3 => [.int x3, .ref (c.2.2 0 8)]) (fun _ => rfl) (ok_X9_firstOfChild hQ N c (c.2.2 0 8) 1 p1 hx2 rfl) (fun x3 c4 => ?_)
    refine l1_callV hQ mt_X11_child mt_X9_member rfl rfl (o := (c.2.2 0 8)) (ci := 8) (As := [.int x3]) (rest := []) rfl rfl hx1 rfl rfl rfl (st1 := fun x5 => l1_mv x5 :: []) (fun _ => rfl) (ok_X9_member hQ c4 (c.2.2 0 8) x3 hx1) (fun x5 c6 => ?_)
    refine l1_opt (x := x5) ?_ (fun y7 => ?_)
    · refine l1_many mt_X11_child (pc' := 56) (L' := [some (.ref 0), some (.int p1), some (.int p2), some (.null)]) (st' := []) 3 rfl ?_
      exact l1_thr
    · refine l1_ck (fun hy => ?_)
      have hy7 : kc y7 = 6 := Nat.eq_of_beq_eq_true hy
      refine l1_many mt_X11_child (pc' := 67) (L' := [some (.ref 0), some (.int p1), some (.int p2), some (.ref y7)]) (st' := [.ref 0]) 4 rfl ?_
      refine l1_getR hQ mt_X11_child rfl (o := 0) (ci := 10) (k := 0) (a := 0) (b := 1) rfl rfl rfl rfl rfl (q := 1) rfl ?_
      refine l1_callS mt_X11_child mt_X11_partBehind rfl rfl (As := [.ref 1]) (rest := []) rfl rfl rfl (st1 := fun x8 => [.int x8]) (fun _ => rfl) (ok_X11_partBehind hQ c6 1 rfl) (fun x8 c9 => ?_)
      refine l1_many mt_X11_child (pc' := 76) (L' := [some (.ref 0), some (.int p1), some (.int p2), some (.ref y7), some (.int x8)]) (st' := [.ref y7]) 2 rfl ?_
      refine l1_getR hQ mt_X11_child rfl (o := y7) (ci := 6) (k := 0) (a := 2) (b := 2) hy7 rfl rfl rfl rfl (q := (y7 + 1)) rfl ?_
      refine l1_many mt_X11_child (pc' := 81) (L' := [some (.ref 0), some (.int p1), some (.int p2), some (.ref y7), some (.int x8)]) (st' := [.int x8, .ref (y7 + 1)]) 1 rfl ?_
      refine l1_callS mt_X11_child mt_X11_partLength rfl rfl (As := [.ref (y7 + 1), .int x8]) (rest := []) rfl rfl rfl (st1 := fun x10 => [.int x10]) (fun _ => rfl) (ok_X11_partLength hQ N c9 (y7 + 1) x8 (kc6_0 hy7)) (fun x10 c11 => ?_)
      refine l1_many mt_X11_child (pc' := bif am_cc .ne p2 (-1) then 94 else 91) (L' := [some (.ref 0), some (.int p1), some (.int p2), some (.ref y7), some (.int x8), some (.int x10)]) (st' := []) 4 rfl ?_
      refine l1_bin rfl ?_ ?_
      · refine l1_many mt_X11_child (pc' := 93) (L' := [some (.ref 0), some (.int p1), some (.int p2), some (.ref y7), some (.int x8), some (.int x10)]) (st' := [.int x10]) 1 rfl ?_
        exact l1_ret mt_X11_child rfl rfl rfl
      · refine l1_many mt_X11_child (pc' := bif am_cc .lt p2 0 then 104 else 98) (L' := [some (.ref 0), some (.int p1), some (.int p2), some (.ref y7), some (.int x8), some (.int x10)]) (st' := []) 2 rfl ?_
        refine l1_bif rfl ?_ ?_
        · exact l1_thr
        · refine l1_many mt_X11_child (pc' := bif am_cc .lt p2 x10 then 114 else 104) (L' := [some (.ref 0), some (.int p1), some (.int p2), some (.ref y7), some (.int x8), some (.int x10)]) (st' := []) 3 rfl ?_
          refine l1_bif rfl ?_ ?_
          · refine l1_many mt_X11_child (pc' := 115) (L' := [some (.ref 0), some (.int p1), some (.int p2), some (.ref y7), some (.int x8), some (.int x10)]) (st' := [.ref y7]) 1 rfl ?_
            refine l1_getR hQ mt_X11_child rfl (o := y7) (ci := 6) (k := 0) (a := 2) (b := 2) hy7 rfl rfl rfl rfl (q := (y7 + 1)) rfl ?_
            refine l1_many mt_X11_child (pc' := 122) (L' := [some (.ref 0), some (.int p1), some (.int p2), some (.ref y7), some (.int x8), some (.int x10)]) (st' := [.int (x8 + p2), .ref (y7 + 1)]) 3 rfl ?_
            refine l1_callV hQ mt_X11_child mt_X2_get rfl rfl (o := (y7 + 1)) (ci := 1) (As := [.int (x8 + p2)]) (rest := []) rfl rfl (kc6_0 hy7) rfl rfl rfl (st1 := fun x12 => [.int x12]) (fun _ => rfl) (ok_X2_get hQ c11 (y7 + 1) (x8 + p2) (kc6_0 hy7)) (fun x12 c13 => ?_)
            exact l1_ret mt_X11_child rfl rfl rfl
          · exact l1_thr
set_option maxRecDepth 100000 in
theorem en_X11_archiveOf {Q : hS → am_H → Prop} (hQ : l1_em kc Q) (c : hS) (p1 : Int32) : l1_G (wN wM) Q am_i_X11_archiveOf 0 [some (.ref 0), some (.int p1)] [] c (f_X11_archiveOf c p1) := by
  rw [f_X11_archiveOf]
  refine l1_many mt_X11_archiveOf (pc' := bif am_cc .lt p1 0 then 22 else 4) (L' := [some (.ref 0), some (.int p1)]) (st' := []) 2 rfl ?_
  refine l1_bif rfl ?_ ?_
  · refine l1_many mt_X11_archiveOf (pc' := 23) (L' := [some (.ref 0), some (.int p1)]) (st' := [.null]) 1 rfl ?_
    exact l1_ret mt_X11_archiveOf rfl rfl rfl
  · refine l1_many mt_X11_archiveOf (pc' := 6) (L' := [some (.ref 0), some (.int p1)]) (st' := [.ref 0, .int p1]) 2 rfl ?_
    refine l1_getR hQ mt_X11_archiveOf rfl (o := 0) (ci := 10) (k := 7) (a := 0) (b := 1) rfl rfl rfl rfl rfl (q := 33) rfl ?_
    refine l1_len hQ mt_X11_archiveOf rfl (o := 33) (ci := 23) rfl rfl rfl ?_
    refine l1_many mt_X11_archiveOf (pc' := bif am_cc .ge p1 (Int32.ofNat (ln 33)) then 22 else 13) (L' := [some (.ref 0), some (.int p1)]) (st' := []) 1 rfl ?_
    refine l1_bif rfl ?_ ?_
    · refine l1_many mt_X11_archiveOf (pc' := 23) (L' := [some (.ref 0), some (.int p1)]) (st' := [.null]) 1 rfl ?_
      exact l1_ret mt_X11_archiveOf rfl rfl rfl
    · refine l1_many mt_X11_archiveOf (pc' := 14) (L' := [some (.ref 0), some (.int p1)]) (st' := [.ref 0]) 1 rfl ?_
      refine l1_getR hQ mt_X11_archiveOf rfl (o := 0) (ci := 10) (k := 7) (a := 0) (b := 1) rfl rfl rfl rfl rfl (q := 33) rfl ?_
      refine l1_many mt_X11_archiveOf (pc' := 18) (L' := [some (.ref 0), some (.int p1)]) (st' := [.int p1, .ref 33]) 1 rfl ?_
      refine l1_ck (fun hx => ?_)
      refine l1_fald hQ mt_X11_archiveOf rfl (o := 33) rfl hx ?_
      refine l1_many mt_X11_archiveOf (pc' := 23) (L' := [some (.ref 0), some (.int p1)]) (st' := [.ref (34 + p1.toNatClampNeg)]) 1 rfl ?_
      exact l1_ret mt_X11_archiveOf rfl rfl rfl
theorem ok_X11_archiveOf {Q : hS → am_H → Prop} (hQ : l1_em kc Q) (c : hS) (p1 : Int32) : l1_T wM Q am_i_X11_archiveOf [.ref 0, .int p1] c (f_X11_archiveOf c p1) := l1_of (en_X11_archiveOf hQ c p1) ⟨rfl, rfl, trivial⟩
set_option maxRecDepth 100000 in
theorem en_X11_write {Q : hS → am_H → Prop} (hQ : l1_em kc Q) (N : Nat) (c : hS) (p1 : Int32) (p2 : Int32) : l1_G (wT wI) Q am_i_X11_write 0 [some (.ref 0), some (.int p1), some (.int p2)] [] c (f_X11_write N c p1 p2) := by
  rw [f_X11_write]
  refine l1_many mt_X11_write (pc' := 2) (L' := [some (.ref 0), some (.int p1), some (.int p2)]) (st' := [.int p1, .ref 0]) 2 rfl ?_
  refine l1_callV hQ mt_X11_write mt_X11_archiveOf rfl rfl (o := 0) (ci := 10) (As := [.int p1]) (rest := []) rfl rfl rfl rfl rfl rfl (st1 := fun x1 => l1_mv x1 :: []) (fun _ => rfl) (ok_X11_archiveOf hQ c p1) (fun x1 c2 => ?_)
  refine l1_opt (x := x1) ?_ (fun y3 => ?_)
  · refine l1_many mt_X11_write (pc' := 10) (L' := [some (.ref 0), some (.int p1), some (.int p2), some (.null)]) (st' := []) 3 rfl ?_
    exact l1_thr
  · refine l1_many mt_X11_write (pc' := 21) (L' := [some (.ref 0), some (.int p1), some (.int p2), some (.ref y3)]) (st' := [.ref 0]) 4 rfl ?_
    refine l1_getR hQ mt_X11_write rfl (o := 0) (ci := 10) (k := 1) (a := 0) (b := 1) rfl rfl rfl rfl rfl (q := 3) rfl ?_
    refine l1_many mt_X11_write (pc' := 25) (L' := [some (.ref 0), some (.int p1), some (.int p2), some (.ref y3)]) (st' := [.int 0, .ref 3]) 1 rfl ?_
    refine l1_callV hQ mt_X11_write mt_X2_cutTo rfl rfl (o := 3) (ci := 1) (As := [.int 0]) (rest := []) rfl rfl rfl rfl rfl rfl (st1 := fun _ => []) (fun _ => rfl) (ok_X2_cutTo hQ c2 3 0 rfl) (fun _ c4 => ?_)
    refine l1_many mt_X11_write (pc' := 30) (L' := [some (.ref 0), some (.int p1), some (.int p2), some (.ref y3)]) (st' := [.ref 0, .ref y3]) 2 rfl ?_
    refine l1_getM hQ mt_X11_write rfl (o := 0) (ci := 10) (k := 8) (a := 0) (b := 0) rfl rfl rfl rfl rfl (fun hx5 => ?_)
    refine l1_many mt_X11_write (pc' := 34) (L' := [some (.ref 0), some (.int p1), some (.int p2), some (.ref y3)]) (st' := [.int p2, .ref (c4.2.2 0 8), .ref y3]) 1 rfl ?_
    refine l1_ite (fun ha => ?_) (fun _ => ?_)
    · subst ha
      refine l1_callV hQ mt_X11_write mt_X1_layOut rfl rfl (o := 34) (ci := 0) (As := [.ref (c4.2.2 0 8), .int p2]) (rest := []) rfl rfl rfl rfl rfl rfl (st1 := fun _ => []) (fun _ => rfl) (ok_X1_layOut hQ N c4 (c4.2.2 0 8) p2 hx5) (fun _ c6 => ?_)
      refine l1_many mt_X11_write (pc' := 38) (L' := [some (.ref 0), some (.int p1), some (.int p2), some (.ref 34)]) (st' := [.ref 0]) 1 rfl ?_
      refine l1_getR hQ mt_X11_write rfl (o := 0) (ci := 10) (k := 1) (a := 0) (b := 1) rfl rfl rfl rfl rfl (q := 3) rfl ?_
      refine l1_callV hQ mt_X11_write mt_X2_size rfl rfl (o := 3) (ci := 1) (As := []) (rest := []) rfl rfl rfl rfl rfl rfl (st1 := fun x7 => [.int x7]) (fun _ => rfl) (ok_X2_size hQ c6 3 rfl) (fun x7 c8 => ?_)
      exact l1_ret mt_X11_write rfl rfl rfl
    refine l1_ite (fun ha => ?_) (fun _ => ?_)
    · subst ha
      refine l1_callV hQ mt_X11_write mt_X4_layOut rfl rfl (o := 35) (ci := 3) (As := [.ref (c4.2.2 0 8), .int p2]) (rest := []) rfl rfl rfl rfl rfl rfl (st1 := fun _ => []) (fun _ => rfl) (ok_X4_layOut hQ N c4 (c4.2.2 0 8) p2 hx5) (fun _ c9 => ?_)
      refine l1_many mt_X11_write (pc' := 38) (L' := [some (.ref 0), some (.int p1), some (.int p2), some (.ref 35)]) (st' := [.ref 0]) 1 rfl ?_
      refine l1_getR hQ mt_X11_write rfl (o := 0) (ci := 10) (k := 1) (a := 0) (b := 1) rfl rfl rfl rfl rfl (q := 3) rfl ?_
      refine l1_callV hQ mt_X11_write mt_X2_size rfl rfl (o := 3) (ci := 1) (As := []) (rest := []) rfl rfl rfl rfl rfl rfl (st1 := fun x10 => [.int x10]) (fun _ => rfl) (ok_X2_size hQ c9 3 rfl) (fun x10 c11 => ?_)
      exact l1_ret mt_X11_write rfl rfl rfl
    refine l1_ite (fun ha => ?_) (fun _ => ?_)
    · subst ha
      refine l1_callV hQ mt_X11_write mt_X5_layOut rfl rfl (o := 36) (ci := 4) (As := [.ref (c4.2.2 0 8), .int p2]) (rest := []) rfl rfl rfl rfl rfl rfl (st1 := fun _ => []) (fun _ => rfl) (ok_X5_layOut hQ N c4 (c4.2.2 0 8) p2 hx5) (fun _ c12 => ?_)
      refine l1_many mt_X11_write (pc' := 38) (L' := [some (.ref 0), some (.int p1), some (.int p2), some (.ref 36)]) (st' := [.ref 0]) 1 rfl ?_
      refine l1_getR hQ mt_X11_write rfl (o := 0) (ci := 10) (k := 1) (a := 0) (b := 1) rfl rfl rfl rfl rfl (q := 3) rfl ?_
      refine l1_callV hQ mt_X11_write mt_X2_size rfl rfl (o := 3) (ci := 1) (As := []) (rest := []) rfl rfl rfl rfl rfl rfl (st1 := fun x13 => [.int x13]) (fun _ => rfl) (ok_X2_size hQ c12 3 rfl) (fun x13 c14 => ?_)
      exact l1_ret mt_X11_write rfl rfl rfl
    exact l1_none
set_option maxRecDepth 100000 in
theorem en_X11_read {Q : hS → am_H → Prop} (hQ : l1_em kc Q) (N : Nat) (c : hS) (p1 : Int32) : l1_G (wT wI) Q am_i_X11_read 0 [some (.ref 0), some (.int p1)] [] c (f_X11_read N c p1) := by
  rw [f_X11_read]
  refine l1_many mt_X11_read (pc' := 2) (L' := [some (.ref 0), some (.int p1)]) (st' := [.int p1, .ref 0]) 2 rfl ?_
  refine l1_callV hQ mt_X11_read mt_X11_archiveOf rfl rfl (o := 0) (ci := 10) (As := [.int p1]) (rest := []) rfl rfl rfl rfl rfl rfl (st1 := fun x1 => l1_mv x1 :: []) (fun _ => rfl) (ok_X11_archiveOf hQ c p1) (fun x1 c2 => ?_)
  refine l1_opt (x := x1) ?_ (fun y3 => ?_)
  · refine l1_many mt_X11_read (pc' := 10) (L' := [some (.ref 0), some (.int p1), some (.null)]) (st' := []) 3 rfl ?_
    exact l1_thr
  · refine l1_many mt_X11_read (pc' := 21) (L' := [some (.ref 0), some (.int p1), some (.ref y3)]) (st' := [.ref 0]) 4 rfl ?_
    refine l1_getR hQ mt_X11_read rfl (o := 0) (ci := 10) (k := 4) (a := 0) (b := 1) rfl rfl rfl rfl rfl (q := 9) rfl ?_
    refine l1_callV hQ mt_X11_read mt_X6_clear rfl rfl (o := 9) (ci := 5) (As := []) (rest := []) rfl rfl rfl rfl rfl rfl (st1 := fun _ => []) (fun _ => rfl) (ok_X6_clear hQ c2) (fun _ c4 => ?_)
    refine l1_many mt_X11_read (pc' := 28) (L' := [some (.ref 0), some (.int p1), some (.ref y3)]) (st' := [.ref 0]) 1 rfl ?_
    refine l1_getM hQ mt_X11_read rfl (o := 0) (ci := 10) (k := 9) (a := 0) (b := 0) rfl rfl rfl rfl rfl (fun hx5 => ?_)
    refine l1_callV hQ mt_X11_read mt_X9_clear rfl rfl (o := (c4.2.2 0 9)) (ci := 8) (As := []) (rest := []) rfl rfl hx5 rfl rfl rfl (st1 := fun _ => []) (fun _ => rfl) (ok_X9_clear hQ c4 (c4.2.2 0 9) hx5) (fun _ c6 => ?_)
    refine l1_many mt_X11_read (pc' := 36) (L' := [some (.ref 0), some (.int p1), some (.ref y3)]) (st' := [.ref 0, .ref y3]) 2 rfl ?_
    refine l1_getM hQ mt_X11_read rfl (o := 0) (ci := 10) (k := 9) (a := 0) (b := 0) rfl rfl rfl rfl rfl (fun hx7 => ?_)
    refine l1_ite (fun ha => ?_) (fun _ => ?_)
    · subst ha
      refine l1_callV hQ mt_X11_read mt_X1_takeIn rfl rfl (o := 34) (ci := 0) (As := [.ref (c6.2.2 0 9)]) (rest := []) rfl rfl rfl rfl rfl rfl (st1 := fun x8 => [.int x8]) (fun _ => rfl) (ok_X1_takeIn hQ N c6 (c6.2.2 0 9) hx7) (fun x8 c9 => ?_)
      refine l1_many mt_X11_read (pc' := bif am_cc .ne x8 0 then 47 else 45) (L' := [some (.ref 0), some (.int p1), some (.ref 34)]) (st' := []) 1 rfl ?_
      refine l1_bin rfl ?_ ?_
      · refine l1_many mt_X11_read (pc' := 46) (L' := [some (.ref 0), some (.int p1), some (.ref 34)]) (st' := [.int (-1)]) 1 rfl ?_
        exact l1_ret mt_X11_read rfl rfl rfl
      · refine l1_many mt_X11_read (pc' := 48) (L' := [some (.ref 0), some (.int p1), some (.ref 34)]) (st' := [.ref 0]) 1 rfl ?_
        refine l1_getM hQ mt_X11_read rfl (o := 0) (ci := 10) (k := 8) (a := 0) (b := 0) rfl rfl rfl rfl rfl (fun hx10 => ?_)
        refine l1_many mt_X11_read (pc' := 54) (L' := [some (.ref 0), some (.int p1), some (.ref 34), some (.ref (c9.2.2 0 8))]) (st' := [.ref 0, .ref 0]) 3 rfl ?_
        refine l1_getM hQ mt_X11_read rfl (o := 0) (ci := 10) (k := 9) (a := 0) (b := 0) rfl rfl rfl rfl rfl (fun hx11 => ?_)
        refine l1_putM hQ mt_X11_read rfl (o := 0) (ci := 10) (k := 8) (a := 0) rfl rfl rfl rfl rfl rfl (fun c12 => ?_)
        refine l1_many mt_X11_read (pc' := 62) (L' := [some (.ref 0), some (.int p1), some (.ref 34), some (.ref (c9.2.2 0 8))]) (st' := [.ref (c9.2.2 0 8), .ref 0]) 2 rfl ?_
        refine l1_putM hQ mt_X11_read rfl (o := 0) (ci := 10) (k := 9) (a := 0) rfl rfl rfl rfl rfl rfl (fun c13 => ?_)
        refine l1_many mt_X11_read (pc' := 66) (L' := [some (.ref 0), some (.int p1), some (.ref 34), some (.ref (c9.2.2 0 8))]) (st' := [.ref 0]) 1 rfl ?_
        refine l1_getM hQ mt_X11_read rfl (o := 0) (ci := 10) (k := 8) (a := 0) (b := 0) rfl rfl rfl rfl rfl (fun hx14 => ?_)
        refine l1_callV hQ mt_X11_read mt_X9_size rfl rfl (o := (c13.2.2 0 8)) (ci := 8) (As := []) (rest := []) rfl rfl hx14 rfl rfl rfl (st1 := fun x15 => [.int x15]) (fun _ => rfl) (ok_X9_size hQ c13 (c13.2.2 0 8) hx14) (fun x15 c16 => ?_)
        exact l1_ret mt_X11_read rfl rfl rfl
    refine l1_ite (fun ha => ?_) (fun _ => ?_)
    · subst ha
      refine l1_callV hQ mt_X11_read mt_X4_takeIn rfl rfl (o := 35) (ci := 3) (As := [.ref (c6.2.2 0 9)]) (rest := []) rfl rfl rfl rfl rfl rfl (st1 := fun x17 => [.int x17]) (fun _ => rfl) (ok_X4_takeIn hQ N c6 (c6.2.2 0 9) hx7) (fun x17 c18 => ?_)
      refine l1_many mt_X11_read (pc' := bif am_cc .ne x17 0 then 47 else 45) (L' := [some (.ref 0), some (.int p1), some (.ref 35)]) (st' := []) 1 rfl ?_
      refine l1_bin rfl ?_ ?_
      · refine l1_many mt_X11_read (pc' := 46) (L' := [some (.ref 0), some (.int p1), some (.ref 35)]) (st' := [.int (-1)]) 1 rfl ?_
        exact l1_ret mt_X11_read rfl rfl rfl
      · refine l1_many mt_X11_read (pc' := 48) (L' := [some (.ref 0), some (.int p1), some (.ref 35)]) (st' := [.ref 0]) 1 rfl ?_
        refine l1_getM hQ mt_X11_read rfl (o := 0) (ci := 10) (k := 8) (a := 0) (b := 0) rfl rfl rfl rfl rfl (fun hx19 => ?_)
        refine l1_many mt_X11_read (pc' := 54) (L' := [some (.ref 0), some (.int p1), some (.ref 35), some (.ref (c18.2.2 0 8))]) (st' := [.ref 0, .ref 0]) 3 rfl ?_
        refine l1_getM hQ mt_X11_read rfl (o := 0) (ci := 10) (k := 9) (a := 0) (b := 0) rfl rfl rfl rfl rfl (fun hx20 => ?_)
        refine l1_putM hQ mt_X11_read rfl (o := 0) (ci := 10) (k := 8) (a := 0) rfl rfl rfl rfl rfl rfl (fun c21 => ?_)
        refine l1_many mt_X11_read (pc' := 62) (L' := [some (.ref 0), some (.int p1), some (.ref 35), some (.ref (c18.2.2 0 8))]) (st' := [.ref (c18.2.2 0 8), .ref 0]) 2 rfl ?_
        refine l1_putM hQ mt_X11_read rfl (o := 0) (ci := 10) (k := 9) (a := 0) rfl rfl rfl rfl rfl rfl (fun c22 => ?_)
        refine l1_many mt_X11_read (pc' := 66) (L' := [some (.ref 0), some (.int p1), some (.ref 35), some (.ref (c18.2.2 0 8))]) (st' := [.ref 0]) 1 rfl ?_
        refine l1_getM hQ mt_X11_read rfl (o := 0) (ci := 10) (k := 8) (a := 0) (b := 0) rfl rfl rfl rfl rfl (fun hx23 => ?_)
        refine l1_callV hQ mt_X11_read mt_X9_size rfl rfl (o := (c22.2.2 0 8)) (ci := 8) (As := []) (rest := []) rfl rfl hx23 rfl rfl rfl (st1 := fun x24 => [.int x24]) (fun _ => rfl) (ok_X9_size hQ c22 (c22.2.2 0 8) hx23) (fun x24 c25 => ?_)
        exact l1_ret mt_X11_read rfl rfl rfl
    refine l1_ite (fun ha => ?_) (fun _ => ?_)
    · subst ha
      refine l1_callV hQ mt_X11_read mt_X5_takeIn rfl rfl (o := 36) (ci := 4) (As := [.ref (c6.2.2 0 9)]) (rest := []) rfl rfl rfl rfl rfl rfl (st1 := fun x26 => [.int x26]) (fun _ => rfl) (ok_X5_takeIn hQ N c6 (c6.2.2 0 9) hx7) (fun x26 c27 => ?_)
      refine l1_many mt_X11_read (pc' := bif am_cc .ne x26 0 then 47 else 45) (L' := [some (.ref 0), some (.int p1), some (.ref 36)]) (st' := []) 1 rfl ?_
      refine l1_bin rfl ?_ ?_
      · refine l1_many mt_X11_read (pc' := 46) (L' := [some (.ref 0), some (.int p1), some (.ref 36)]) (st' := [.int (-1)]) 1 rfl ?_
        exact l1_ret mt_X11_read rfl rfl rfl
      · refine l1_many mt_X11_read (pc' := 48) (L' := [some (.ref 0), some (.int p1), some (.ref 36)]) (st' := [.ref 0]) 1 rfl ?_
        refine l1_getM hQ mt_X11_read rfl (o := 0) (ci := 10) (k := 8) (a := 0) (b := 0) rfl rfl rfl rfl rfl (fun hx28 => ?_)
        refine l1_many mt_X11_read (pc' := 54) (L' := [some (.ref 0), some (.int p1), some (.ref 36), some (.ref (c27.2.2 0 8))]) (st' := [.ref 0, .ref 0]) 3 rfl ?_
        refine l1_getM hQ mt_X11_read rfl (o := 0) (ci := 10) (k := 9) (a := 0) (b := 0) rfl rfl rfl rfl rfl (fun hx29 => ?_)
        refine l1_putM hQ mt_X11_read rfl (o := 0) (ci := 10) (k := 8) (a := 0) rfl rfl rfl rfl rfl rfl (fun c30 => ?_)
        refine l1_many mt_X11_read (pc' := 62) (L' := [some (.ref 0), some (.int p1), some (.ref 36), some (.ref (c27.2.2 0 8))]) (st' := [.ref (c27.2.2 0 8), .ref 0]) 2 rfl ?_
        refine l1_putM hQ mt_X11_read rfl (o := 0) (ci := 10) (k := 9) (a := 0) rfl rfl rfl rfl rfl rfl (fun c31 => ?_)
        refine l1_many mt_X11_read (pc' := 66) (L' := [some (.ref 0), some (.int p1), some (.ref 36), some (.ref (c27.2.2 0 8))]) (st' := [.ref 0]) 1 rfl ?_
        refine l1_getM hQ mt_X11_read rfl (o := 0) (ci := 10) (k := 8) (a := 0) (b := 0) rfl rfl rfl rfl rfl (fun hx32 => ?_)
        refine l1_callV hQ mt_X11_read mt_X9_size rfl rfl (o := (c31.2.2 0 8)) (ci := 8) (As := []) (rest := []) rfl rfl hx32 rfl rfl rfl (st1 := fun x33 => [.int x33]) (fun _ => rfl) (ok_X9_size hQ c31 (c31.2.2 0 8) hx32) (fun x33 c34 => ?_)
        exact l1_ret mt_X11_read rfl rfl rfl
    exact l1_none
set_option maxRecDepth 100000 in
theorem en_X11_fault {Q : hS → am_H → Prop} (hQ : l1_em kc Q) (c : hS) (p1 : Int32) : l1_G (wT wI) Q am_i_X11_fault 0 [some (.ref 0), some (.int p1)] [] c (f_X11_fault c p1) := by
  rw [f_X11_fault]
  refine l1_many mt_X11_fault (pc' := 1) (L' := [some (.ref 0), some (.int p1)]) (st' := [.int p1]) 1 rfl ?_
  refine l1_ite (fun hs => ?_) (fun hs0 => ?_)
  · refine l1_sw mt_X11_fault rfl (pc' := 28) (st' := []) rfl (by rw [hs]; rfl) ?_
    refine l1_many mt_X11_fault (pc' := 29) (L' := [some (.ref 0), some (.int p1)]) (st' := [.ref 0]) 1 rfl ?_
    refine l1_getR hQ mt_X11_fault rfl (o := 0) (ci := 10) (k := 4) (a := 0) (b := 1) rfl rfl rfl rfl rfl (q := 9) rfl ?_
    refine l1_callV hQ mt_X11_fault mt_X6_number rfl rfl (o := 9) (ci := 5) (As := []) (rest := []) rfl rfl rfl rfl rfl rfl (st1 := fun x1 => [.int x1]) (fun _ => rfl) (ok_X6_number hQ c) (fun x1 c2 => ?_)
    exact l1_ret mt_X11_fault rfl rfl rfl
  refine l1_ite (fun hs => ?_) (fun hs1 => ?_)
  · refine l1_sw mt_X11_fault rfl (pc' := 36) (st' := []) rfl (by rw [hs]; rfl) ?_
    refine l1_many mt_X11_fault (pc' := 37) (L' := [some (.ref 0), some (.int p1)]) (st' := [.ref 0]) 1 rfl ?_
    refine l1_getR hQ mt_X11_fault rfl (o := 0) (ci := 10) (k := 4) (a := 0) (b := 1) rfl rfl rfl rfl rfl (q := 9) rfl ?_
    refine l1_callV hQ mt_X11_fault mt_X6_place rfl rfl (o := 9) (ci := 5) (As := []) (rest := []) rfl rfl rfl rfl rfl rfl (st1 := fun x3 => [.int x3]) (fun _ => rfl) (ok_X6_place hQ c) (fun x3 c4 => ?_)
    exact l1_ret mt_X11_fault rfl rfl rfl
  refine l1_sw mt_X11_fault rfl (pc' := 44) (st' := []) rfl (by have a0 : Int32.toInt p1 ≠ 0 := fun e => hs0 (Int32.toInt_inj.mp (e.trans (by decide +kernel))); have a1 : Int32.toInt p1 ≠ 1 := fun e => hs1 (Int32.toInt_inj.mp (e.trans (by decide +kernel))); exact l1_lsd (by decide +kernel) (⟨Ne.symm a0, Ne.symm a1, trivial⟩) rfl) ?_
  · exact l1_thr
set_option maxRecDepth 100000 in
theorem en_X11_pack {Q : hS → am_H → Prop} (hQ : l1_em kc Q) (N : Nat) (c : hS) : l1_G (wN wI) Q am_i_X11_pack 0 [some (.ref 0)] [] c (f_X11_pack N c) := by
  rw [f_X11_pack]
  refine l1_many mt_X11_pack (pc' := 1) (L' := [some (.ref 0)]) (st' := [.ref 0]) 1 rfl ?_
  refine l1_getR hQ mt_X11_pack rfl (o := 0) (ci := 10) (k := 1) (a := 0) (b := 1) rfl rfl rfl rfl rfl (q := 3) rfl ?_
  refine l1_many mt_X11_pack (pc' := 5) (L' := [some (.ref 0)]) (st' := [.int 0, .ref 3]) 1 rfl ?_
  refine l1_callV hQ mt_X11_pack mt_X2_cutTo rfl rfl (o := 3) (ci := 1) (As := [.int 0]) (rest := []) rfl rfl rfl rfl rfl rfl (st1 := fun _ => []) (fun _ => rfl) (ok_X2_cutTo hQ c 3 0 rfl) (fun _ c1 => ?_)
  refine l1_many mt_X11_pack (pc' := 9) (L' := [some (.ref 0)]) (st' := [.ref 0]) 1 rfl ?_
  refine l1_getR hQ mt_X11_pack rfl (o := 0) (ci := 10) (k := 5) (a := 0) (b := 1) rfl rfl rfl rfl rfl (q := 10) rfl ?_
  refine l1_many mt_X11_pack (pc' := 13) (L' := [some (.ref 0)]) (st' := [.ref 0, .ref 10]) 1 rfl ?_
  refine l1_getR hQ mt_X11_pack rfl (o := 0) (ci := 10) (k := 0) (a := 0) (b := 1) rfl rfl rfl rfl rfl (q := 1) rfl ?_
  refine l1_callV hQ mt_X11_pack mt_X8_addPacked rfl rfl (o := 10) (ci := 7) (As := [.ref 1]) (rest := []) rfl rfl rfl rfl rfl rfl (st1 := fun _ => []) (fun _ => rfl) (ok_X8_addPacked hQ N c1 1 rfl) (fun _ c2 => ?_)
  refine l1_many mt_X11_pack (pc' := 20) (L' := [some (.ref 0)]) (st' := [.ref 0]) 1 rfl ?_
  refine l1_getR hQ mt_X11_pack rfl (o := 0) (ci := 10) (k := 1) (a := 0) (b := 1) rfl rfl rfl rfl rfl (q := 3) rfl ?_
  refine l1_callV hQ mt_X11_pack mt_X2_size rfl rfl (o := 3) (ci := 1) (As := []) (rest := []) rfl rfl rfl rfl rfl rfl (st1 := fun x3 => [.int x3]) (fun _ => rfl) (ok_X2_size hQ c2 3 rfl) (fun x3 c4 => ?_)
  exact l1_ret mt_X11_pack rfl rfl rfl
theorem ok_X11_pack {Q : hS → am_H → Prop} (hQ : l1_em kc Q) (N : Nat) (c : hS) : l1_T wI Q am_i_X11_pack [.ref 0] c (f_X11_pack N c) := l1_of (en_X11_pack hQ N c) ⟨rfl, trivial⟩
set_option maxRecDepth 100000 in
theorem en_X11_unpack {Q : hS → am_H → Prop} (hQ : l1_em kc Q) (N : Nat) (c : hS) : l1_G (wN wI) Q am_i_X11_unpack 0 [some (.ref 0)] [] c (f_X11_unpack N c) := by
  rw [f_X11_unpack]
  refine l1_many mt_X11_unpack (pc' := 1) (L' := [some (.ref 0)]) (st' := [.ref 0]) 1 rfl ?_
  refine l1_getR hQ mt_X11_unpack rfl (o := 0) (ci := 10) (k := 4) (a := 0) (b := 1) rfl rfl rfl rfl rfl (q := 9) rfl ?_
  refine l1_callV hQ mt_X11_unpack mt_X6_clear rfl rfl (o := 9) (ci := 5) (As := []) (rest := []) rfl rfl rfl rfl rfl rfl (st1 := fun _ => []) (fun _ => rfl) (ok_X6_clear hQ c) (fun _ c1 => ?_)
  refine l1_many mt_X11_unpack (pc' := 8) (L' := [some (.ref 0)]) (st' := [.ref 0]) 1 rfl ?_
  refine l1_getR hQ mt_X11_unpack rfl (o := 0) (ci := 10) (k := 6) (a := 0) (b := 1) rfl rfl rfl rfl rfl (q := 11) rfl ?_
  refine l1_many mt_X11_unpack (pc' := 13) (L' := [some (.ref 0)]) (st' := [.ref 0, .int 0, .ref 11]) 2 rfl ?_
  refine l1_getR hQ mt_X11_unpack rfl (o := 0) (ci := 10) (k := 1) (a := 0) (b := 1) rfl rfl rfl rfl rfl (q := 3) rfl ?_
  refine l1_callV hQ mt_X11_unpack mt_X2_size rfl rfl (o := 3) (ci := 1) (As := []) (rest := [.int 0, .ref 11]) rfl rfl rfl rfl rfl rfl (st1 := fun x2 => [.int x2, .int 0, .ref 11]) (fun _ => rfl) (ok_X2_size hQ c1 3 rfl) (fun x2 c3 => ?_)
  refine l1_many mt_X11_unpack (pc' := 22) (L' := [some (.ref 0)]) (st' := [.int 512, .int x2, .int 0, .ref 11]) 1 rfl ?_
  refine l1_callV hQ mt_X11_unpack mt_X10_open rfl rfl (o := 11) (ci := 9) (As := [.int 0, .int x2, .int 512]) (rest := []) rfl rfl rfl rfl rfl rfl (st1 := fun x4 => [.int x4]) (fun _ => rfl) (ok_X10_open hQ N c3 0 x2 512) (fun x4 c5 => ?_)
  refine l1_many mt_X11_unpack (pc' := bif am_cc .ne x4 0 then 30 else 28) (L' := [some (.ref 0)]) (st' := []) 1 rfl ?_
  refine l1_bin rfl ?_ ?_
  · refine l1_many mt_X11_unpack (pc' := 29) (L' := [some (.ref 0)]) (st' := [.int (-1)]) 1 rfl ?_
    exact l1_ret mt_X11_unpack rfl rfl rfl
  · refine l1_many mt_X11_unpack (pc' := 31) (L' := [some (.ref 0)]) (st' := [.ref 0]) 1 rfl ?_
    refine l1_getR hQ mt_X11_unpack rfl (o := 0) (ci := 10) (k := 0) (a := 0) (b := 1) rfl rfl rfl rfl rfl (q := 1) rfl ?_
    refine l1_many mt_X11_unpack (pc' := 35) (L' := [some (.ref 0)]) (st' := [.int 0, .ref 1]) 1 rfl ?_
    refine l1_callV hQ mt_X11_unpack mt_X2_cutTo rfl rfl (o := 1) (ci := 1) (As := [.int 0]) (rest := []) rfl rfl rfl rfl rfl rfl (st1 := fun _ => []) (fun _ => rfl) (ok_X2_cutTo hQ c5 1 0 rfl) (fun _ c6 => ?_)
    refine l1_many mt_X11_unpack (pc' := 39) (L' := [some (.ref 0)]) (st' := [.ref 0]) 1 rfl ?_
    refine l1_getR hQ mt_X11_unpack rfl (o := 0) (ci := 10) (k := 0) (a := 0) (b := 1) rfl rfl rfl rfl rfl (q := 1) rfl ?_
    refine l1_many mt_X11_unpack (pc' := 43) (L' := [some (.ref 0)]) (st' := [.ref 0, .ref 1]) 1 rfl ?_
    refine l1_getR hQ mt_X11_unpack rfl (o := 0) (ci := 10) (k := 3) (a := 0) (b := 1) rfl rfl rfl rfl rfl (q := 7) rfl ?_
    refine l1_many mt_X11_unpack (pc' := 48) (L' := [some (.ref 0)]) (st' := [.ref 0, .int 0, .ref 7, .ref 1]) 2 rfl ?_
    refine l1_getR hQ mt_X11_unpack rfl (o := 0) (ci := 10) (k := 3) (a := 0) (b := 1) rfl rfl rfl rfl rfl (q := 7) rfl ?_
    refine l1_callV hQ mt_X11_unpack mt_X2_size rfl rfl (o := 7) (ci := 1) (As := []) (rest := [.int 0, .ref 7, .ref 1]) rfl rfl rfl rfl rfl rfl (st1 := fun x7 => [.int x7, .int 0, .ref 7, .ref 1]) (fun _ => rfl) (ok_X2_size hQ c6 7 rfl) (fun x7 c8 => ?_)
    refine l1_callV hQ mt_X11_unpack mt_X2_addRow rfl rfl (o := 1) (ci := 1) (As := [.ref 7, .int 0, .int x7]) (rest := []) rfl rfl rfl rfl rfl rfl (st1 := fun _ => []) (fun _ => rfl) (ok_X2_addRow hQ N c8 1 7 0 x7 rfl rfl) (fun _ c9 => ?_)
    refine l1_many mt_X11_unpack (pc' := 58) (L' := [some (.ref 0)]) (st' := [.ref 0]) 1 rfl ?_
    refine l1_getR hQ mt_X11_unpack rfl (o := 0) (ci := 10) (k := 0) (a := 0) (b := 1) rfl rfl rfl rfl rfl (q := 1) rfl ?_
    refine l1_callV hQ mt_X11_unpack mt_X2_size rfl rfl (o := 1) (ci := 1) (As := []) (rest := []) rfl rfl rfl rfl rfl rfl (st1 := fun x10 => [.int x10]) (fun _ => rfl) (ok_X2_size hQ c9 1 rfl) (fun x10 c11 => ?_)
    exact l1_ret mt_X11_unpack rfl rfl rfl
theorem ok_X11_unpack {Q : hS → am_H → Prop} (hQ : l1_em kc Q) (N : Nat) (c : hS) : l1_T wI Q am_i_X11_unpack [.ref 0] c (f_X11_unpack N c) := l1_of (en_X11_unpack hQ N c) ⟨rfl, trivial⟩
set_option maxRecDepth 100000 in
theorem en_X11_check {Q : hS → am_H → Prop} (hQ : l1_em kc Q) (N : Nat) (c : hS) : l1_G (wN wI) Q am_i_X11_check 0 [some (.ref 0)] [] c (f_X11_check N c) := by
  rw [f_X11_check]
  refine l1_many mt_X11_check (pc' := 1) (L' := [some (.ref 0)]) (st' := [.ref 0]) 1 rfl ?_
  refine l1_getR hQ mt_X11_check rfl (o := 0) (ci := 10) (k := 0) (a := 0) (b := 1) rfl rfl rfl rfl rfl (q := 1) rfl ?_
  refine l1_callS mt_X11_check mt_X11_checkOf rfl rfl (As := [.ref 1]) (rest := []) rfl rfl rfl (st1 := fun x1 => [.int x1]) (fun _ => rfl) (ok_X11_checkOf hQ N c 1 rfl) (fun x1 c2 => ?_)
  exact l1_ret mt_X11_check rfl rfl rfl
theorem ok_X11_check {Q : hS → am_H → Prop} (hQ : l1_em kc Q) (N : Nat) (c : hS) : l1_T wI Q am_i_X11_check [.ref 0] c (f_X11_check N c) := l1_of (en_X11_check hQ N c) ⟨rfl, trivial⟩
set_option maxRecDepth 100000 in
theorem en_X11_feed {Q : hS → am_H → Prop} (hQ : l1_em kc Q) (N : Nat) (c : hS) (p1 : Int32) (p2 : Int32) (p3 : Int32) (p4 : Int32) (p5 : Int32) : l1_G (wT wI) Q am_i_X11_feed 0 [some (.ref 0), some (.int p1), some (.int p2), some (.int p3), some (.int p4), some (.int p5)] [] c (f_X11_feed N c p1 p2 p3 p4 p5) := by
  rw [f_X11_feed]
  refine l1_many mt_X11_feed (pc' := 1) (L' := [some (.ref 0), some (.int p1), some (.int p2), some (.int p3), some (.int p4), some (.int p5)]) (st' := [.ref 0]) 1 rfl ?_
  refine l1_getR hQ mt_X11_feed rfl (o := 0) (ci := 10) (k := 1) (a := 0) (b := 1) rfl rfl rfl rfl rfl (q := 3) rfl ?_
  refine l1_callV hQ mt_X11_feed mt_X2_size rfl rfl (o := 3) (ci := 1) (As := []) (rest := []) rfl rfl rfl rfl rfl rfl (st1 := fun x1 => [.int x1]) (fun _ => rfl) (ok_X2_size hQ c 3 rfl) (fun x1 c2 => ?_)
  refine l1_many mt_X11_feed (pc' := bif am_cc .le (x1 + 20) 20000 then 26 else 16) (L' := [some (.ref 0), some (.int p1), some (.int p2), some (.int p3), some (.int p4), some (.int p5)]) (st' := []) 4 rfl ?_
  refine l1_bif rfl ?_ ?_
  · refine l1_many mt_X11_feed (pc' := 27) (L' := [some (.ref 0), some (.int p1), some (.int p2), some (.int p3), some (.int p4), some (.int p5)]) (st' := [.ref 0]) 1 rfl ?_
    refine l1_getR hQ mt_X11_feed rfl (o := 0) (ci := 10) (k := 1) (a := 0) (b := 1) rfl rfl rfl rfl rfl (q := 3) rfl ?_
    refine l1_many mt_X11_feed (pc' := 33) (L' := [some (.ref 0), some (.int p1), some (.int p2), some (.int p3), some (.int p4), some (.int p5)]) (st' := [.int 4, .long p1.toInt64, .ref 3]) 3 rfl ?_
    refine l1_callV hQ mt_X11_feed mt_X2_addBig rfl rfl (o := 3) (ci := 1) (As := [.long p1.toInt64, .int 4]) (rest := []) rfl rfl rfl rfl rfl rfl (st1 := fun _ => []) (fun _ => rfl) (ok_X2_addBig hQ N c2 3 p1.toInt64 4 rfl) (fun _ c3 => ?_)
    refine l1_many mt_X11_feed (pc' := 37) (L' := [some (.ref 0), some (.int p1), some (.int p2), some (.int p3), some (.int p4), some (.int p5)]) (st' := [.ref 0]) 1 rfl ?_
    refine l1_getR hQ mt_X11_feed rfl (o := 0) (ci := 10) (k := 1) (a := 0) (b := 1) rfl rfl rfl rfl rfl (q := 3) rfl ?_
    refine l1_many mt_X11_feed (pc' := 43) (L' := [some (.ref 0), some (.int p1), some (.int p2), some (.int p3), some (.int p4), some (.int p5)]) (st' := [.int 4, .long p2.toInt64, .ref 3]) 3 rfl ?_
    refine l1_callV hQ mt_X11_feed mt_X2_addBig rfl rfl (o := 3) (ci := 1) (As := [.long p2.toInt64, .int 4]) (rest := []) rfl rfl rfl rfl rfl rfl (st1 := fun _ => []) (fun _ => rfl) (ok_X2_addBig hQ N c3 3 p2.toInt64 4 rfl) (fun _ c4 => ?_)
    refine l1_many mt_X11_feed (pc' := 47) (L' := [some (.ref 0), some (.int p1), some (.int p2), some (.int p3), some (.int p4), some (.int p5)]) (st' := [.ref 0]) 1 rfl ?_
    refine l1_getR hQ mt_X11_feed rfl (o := 0) (ci := 10) (k := 1) (a := 0) (b := 1) rfl rfl rfl rfl rfl (q := 3) rfl ?_
    refine l1_many mt_X11_feed (pc' := 53) (L' := [some (.ref 0), some (.int p1), some (.int p2), some (.int p3), some (.int p4), some (.int p5)]) (st' := [.int 4, .long p3.toInt64, .ref 3]) 3 rfl ?_
    refine l1_callV hQ mt_X11_feed mt_X2_addBig rfl rfl (o := 3) (ci := 1) (As := [.long p3.toInt64, .int 4]) (rest := []) rfl rfl rfl rfl rfl rfl (st1 := fun _ => []) (fun _ => rfl) (ok_X2_addBig hQ N c4 3 p3.toInt64 4 rfl) (fun _ c5 => ?_)
    refine l1_many mt_X11_feed (pc' := 57) (L' := [some (.ref 0), some (.int p1), some (.int p2), some (.int p3), some (.int p4), some (.int p5)]) (st' := [.ref 0]) 1 rfl ?_
    refine l1_getR hQ mt_X11_feed rfl (o := 0) (ci := 10) (k := 1) (a := 0) (b := 1) rfl rfl rfl rfl rfl (q := 3) rfl ?_
    refine l1_many mt_X11_feed (pc' := 64) (L' := [some (.ref 0), some (.int p1), some (.int p2), some (.int p3), some (.int p4), some (.int p5)]) (st' := [.int 4, .long p4.toInt64, .ref 3]) 3 rfl ?_
    refine l1_callV hQ mt_X11_feed mt_X2_addBig rfl rfl (o := 3) (ci := 1) (As := [.long p4.toInt64, .int 4]) (rest := []) rfl rfl rfl rfl rfl rfl (st1 := fun _ => []) (fun _ => rfl) (ok_X2_addBig hQ N c5 3 p4.toInt64 4 rfl) (fun _ c6 => ?_)
    refine l1_many mt_X11_feed (pc' := 68) (L' := [some (.ref 0), some (.int p1), some (.int p2), some (.int p3), some (.int p4), some (.int p5)]) (st' := [.ref 0]) 1 rfl ?_
    refine l1_getR hQ mt_X11_feed rfl (o := 0) (ci := 10) (k := 1) (a := 0) (b := 1) rfl rfl rfl rfl rfl (q := 3) rfl ?_
    refine l1_many mt_X11_feed (pc' := 75) (L' := [some (.ref 0), some (.int p1), some (.int p2), some (.int p3), some (.int p4), some (.int p5)]) (st' := [.int 4, .long p5.toInt64, .ref 3]) 3 rfl ?_
    refine l1_callV hQ mt_X11_feed mt_X2_addBig rfl rfl (o := 3) (ci := 1) (As := [.long p5.toInt64, .int 4]) (rest := []) rfl rfl rfl rfl rfl rfl (st1 := fun _ => []) (fun _ => rfl) (ok_X2_addBig hQ N c6 3 p5.toInt64 4 rfl) (fun _ c7 => ?_)
    refine l1_many mt_X11_feed (pc' := 79) (L' := [some (.ref 0), some (.int p1), some (.int p2), some (.int p3), some (.int p4), some (.int p5)]) (st' := [.ref 0]) 1 rfl ?_
    refine l1_getR hQ mt_X11_feed rfl (o := 0) (ci := 10) (k := 1) (a := 0) (b := 1) rfl rfl rfl rfl rfl (q := 3) rfl ?_
    refine l1_callV hQ mt_X11_feed mt_X2_size rfl rfl (o := 3) (ci := 1) (As := []) (rest := []) rfl rfl rfl rfl rfl rfl (st1 := fun x8 => [.int x8]) (fun _ => rfl) (ok_X2_size hQ c7 3 rfl) (fun x8 c9 => ?_)
    exact l1_ret mt_X11_feed rfl rfl rfl
  · exact l1_thr
set_option maxRecDepth 100000 in
theorem en_X11_end {Q : hS → am_H → Prop} (hQ : l1_em kc Q) (c : hS) (p1 : Int32) : l1_G (wT wV) Q am_i_X11_end 0 [some (.ref 0), some (.int p1)] [] c (f_X11_end c p1) := by
  rw [f_X11_end]
  refine l1_many mt_X11_end (pc' := bif am_cc .lt p1 0 then 15 else 4) (L' := [some (.ref 0), some (.int p1)]) (st' := []) 2 rfl ?_
  refine l1_bif rfl ?_ ?_
  · exact l1_thr
  · refine l1_many mt_X11_end (pc' := 6) (L' := [some (.ref 0), some (.int p1)]) (st' := [.ref 0, .int p1]) 2 rfl ?_
    refine l1_getR hQ mt_X11_end rfl (o := 0) (ci := 10) (k := 1) (a := 0) (b := 1) rfl rfl rfl rfl rfl (q := 3) rfl ?_
    refine l1_callV hQ mt_X11_end mt_X2_size rfl rfl (o := 3) (ci := 1) (As := []) (rest := [.int p1]) rfl rfl rfl rfl rfl rfl (st1 := fun x1 => [.int x1, .int p1]) (fun _ => rfl) (ok_X2_size hQ c 3 rfl) (fun x1 c2 => ?_)
    refine l1_many mt_X11_end (pc' := bif am_cc .le p1 x1 then 25 else 15) (L' := [some (.ref 0), some (.int p1)]) (st' := []) 1 rfl ?_
    refine l1_bif rfl ?_ ?_
    · refine l1_many mt_X11_end (pc' := 26) (L' := [some (.ref 0), some (.int p1)]) (st' := [.ref 0]) 1 rfl ?_
      refine l1_getR hQ mt_X11_end rfl (o := 0) (ci := 10) (k := 1) (a := 0) (b := 1) rfl rfl rfl rfl rfl (q := 3) rfl ?_
      refine l1_many mt_X11_end (pc' := 30) (L' := [some (.ref 0), some (.int p1)]) (st' := [.int p1, .ref 3]) 1 rfl ?_
      refine l1_callV hQ mt_X11_end mt_X2_cutTo rfl rfl (o := 3) (ci := 1) (As := [.int p1]) (rest := []) rfl rfl rfl rfl rfl rfl (st1 := fun _ => []) (fun _ => rfl) (ok_X2_cutTo hQ c2 3 p1 rfl) (fun _ c3 => ?_)
      exact l1_ret mt_X11_end rfl rfl rfl
    · exact l1_thr
set_option maxRecDepth 100000 in
theorem en_X11_poke {Q : hS → am_H → Prop} (hQ : l1_em kc Q) (c : hS) (p1 : Int32) (p2 : Int32) : l1_G (wT wI) Q am_i_X11_poke 0 [some (.ref 0), some (.int p1), some (.int p2)] [] c (f_X11_poke c p1 p2) := by
  rw [f_X11_poke]
  refine l1_many mt_X11_poke (pc' := 1) (L' := [some (.ref 0), some (.int p1), some (.int p2)]) (st' := [.ref 0]) 1 rfl ?_
  refine l1_getR hQ mt_X11_poke rfl (o := 0) (ci := 10) (k := 1) (a := 0) (b := 1) rfl rfl rfl rfl rfl (q := 3) rfl ?_
  refine l1_many mt_X11_poke (pc' := 5) (L' := [some (.ref 0), some (.int p1), some (.int p2)]) (st' := [.int p1, .ref 3]) 1 rfl ?_
  refine l1_callV hQ mt_X11_poke mt_X2_has rfl rfl (o := 3) (ci := 1) (As := [.int p1]) (rest := []) rfl rfl rfl rfl rfl rfl (st1 := fun x1 => [.int x1]) (fun _ => rfl) (ok_X2_has hQ c 3 p1 rfl) (fun x1 c2 => ?_)
  refine l1_many mt_X11_poke (pc' := bif am_cc .ne x1 0 then 21 else 11) (L' := [some (.ref 0), some (.int p1), some (.int p2)]) (st' := []) 1 rfl ?_
  refine l1_bin rfl ?_ ?_
  · exact l1_thr
  · refine l1_many mt_X11_poke (pc' := bif am_cc .lt p2 0 then 32 else 25) (L' := [some (.ref 0), some (.int p1), some (.int p2)]) (st' := []) 2 rfl ?_
    refine l1_bif rfl ?_ ?_
    · exact l1_thr
    · refine l1_many mt_X11_poke (pc' := bif am_cc .le p2 255 then 42 else 32) (L' := [some (.ref 0), some (.int p1), some (.int p2)]) (st' := []) 3 rfl ?_
      refine l1_bif rfl ?_ ?_
      · refine l1_many mt_X11_poke (pc' := 43) (L' := [some (.ref 0), some (.int p1), some (.int p2)]) (st' := [.ref 0]) 1 rfl ?_
        refine l1_getR hQ mt_X11_poke rfl (o := 0) (ci := 10) (k := 1) (a := 0) (b := 1) rfl rfl rfl rfl rfl (q := 3) rfl ?_
        refine l1_many mt_X11_poke (pc' := 47) (L' := [some (.ref 0), some (.int p1), some (.int p2)]) (st' := [.int p1, .ref 3]) 1 rfl ?_
        refine l1_callV hQ mt_X11_poke mt_X2_get rfl rfl (o := 3) (ci := 1) (As := [.int p1]) (rest := []) rfl rfl rfl rfl rfl rfl (st1 := fun x3 => [.int x3]) (fun _ => rfl) (ok_X2_get hQ c2 3 p1 rfl) (fun x3 c4 => ?_)
        refine l1_many mt_X11_poke (pc' := 52) (L' := [some (.ref 0), some (.int p1), some (.int p2), some (.int x3)]) (st' := [.ref 0]) 2 rfl ?_
        refine l1_getR hQ mt_X11_poke rfl (o := 0) (ci := 10) (k := 1) (a := 0) (b := 1) rfl rfl rfl rfl rfl (q := 3) rfl ?_
        refine l1_many mt_X11_poke (pc' := 57) (L' := [some (.ref 0), some (.int p1), some (.int p2), some (.int x3)]) (st' := [.int p2, .int p1, .ref 3]) 2 rfl ?_
        refine l1_callV hQ mt_X11_poke mt_X2_set rfl rfl (o := 3) (ci := 1) (As := [.int p1, .int p2]) (rest := []) rfl rfl rfl rfl rfl rfl (st1 := fun _ => []) (fun _ => rfl) (ok_X2_set hQ c4 3 p1 p2 rfl) (fun _ c5 => ?_)
        refine l1_many mt_X11_poke (pc' := 61) (L' := [some (.ref 0), some (.int p1), some (.int p2), some (.int x3)]) (st' := [.int x3]) 1 rfl ?_
        exact l1_ret mt_X11_poke rfl rfl rfl
      · exact l1_thr
set_option maxRecDepth 100000 in
theorem ok_X11_at_53 {Q : hS → am_H → Prop} (hQ : l1_em kc Q) (N : Nat) (p1 : Int32) (p2 : Int32) : ∀ n : Nat, ∀ (c : hS) (v3 : Int64) (v5 : Int32), l1_G (wT wL) Q am_i_X11_at 53 [some (.ref 0), some (.int p1), some (.int p2), some (.long v3), none, some (.int v5)] [] c (f_X11_at_53 N p1 p2 n c v3 v5) := by
  intro n
  induction n with
  | zero => intro c v3 v5; exact l1_none
  | succ n ih =>
    intro c v3 v5
    rw [f_X11_at_53]
    refine l1_many mt_X11_at (pc' := bif am_cc .ge v5 p2 then 83 else 59) (L' := [some (.ref 0), some (.int p1), some (.int p2), some (.long v3), none, some (.int v5)]) (st' := []) 3 rfl ?_
    refine l1_bif rfl ?_ ?_
    · refine l1_many mt_X11_at (pc' := 84) (L' := [some (.ref 0), some (.int p1), some (.int p2), some (.long v3), none, some (.int v5)]) (st' := [.long v3]) 1 rfl ?_
      exact l1_ret mt_X11_at rfl rfl rfl
    · refine l1_many mt_X11_at (pc' := 64) (L' := [some (.ref 0), some (.int p1), some (.int p2), some (.long v3), none, some (.int v5)]) (st' := [.ref 0, .long (j_lshl v3 8)]) 4 rfl ?_
      refine l1_getR hQ mt_X11_at rfl (o := 0) (ci := 10) (k := 1) (a := 0) (b := 1) rfl rfl rfl rfl rfl (q := 3) rfl ?_
      refine l1_many mt_X11_at (pc' := 71) (L' := [some (.ref 0), some (.int p1), some (.int p2), some (.long v3), none, some (.int v5)]) (st' := [.int (p1 + v5), .ref 3, .long (j_lshl v3 8)]) 3 rfl ?_
      refine l1_callV hQ mt_X11_at mt_X2_get rfl rfl (o := 3) (ci := 1) (As := [.int (p1 + v5)]) (rest := [.long (j_lshl v3 8)]) rfl rfl rfl rfl rfl rfl (st1 := fun x1 => [.int x1, .long (j_lshl v3 8)]) (fun _ => rfl) (ok_X2_get hQ c 3 (p1 + v5) rfl) (fun x1 c2 => ?_)
      refine l1_many mt_X11_at (pc' := 53) (L' := [some (.ref 0), some (.int p1), some (.int p2), some (.long ((j_lshl v3 8) ||| x1.toInt64)), none, some (.int (v5 + 1))]) (st' := []) 5 rfl ?_
      exact ih c2 ((j_lshl v3 8) ||| x1.toInt64) (v5 + 1)
set_option maxRecDepth 100000 in
theorem en_X11_at {Q : hS → am_H → Prop} (hQ : l1_em kc Q) (N : Nat) (c : hS) (p1 : Int32) (p2 : Int32) : l1_G (wT wL) Q am_i_X11_at 0 [some (.ref 0), some (.int p1), some (.int p2)] [] c (f_X11_at N c p1 p2) := by
  rw [f_X11_at]
  refine l1_many mt_X11_at (pc' := bif am_cc .lt p2 1 then 11 else 5) (L' := [some (.ref 0), some (.int p1), some (.int p2)]) (st' := []) 3 rfl ?_
  refine l1_bif rfl ?_ ?_
  · exact l1_thr
  · refine l1_many mt_X11_at (pc' := bif am_cc .le p2 8 then 21 else 11) (L' := [some (.ref 0), some (.int p1), some (.int p2)]) (st' := []) 3 rfl ?_
    refine l1_bif rfl ?_ ?_
    · refine l1_many mt_X11_at (pc' := bif am_cc .lt p1 0 then 38 else 25) (L' := [some (.ref 0), some (.int p1), some (.int p2)]) (st' := []) 2 rfl ?_
      refine l1_bif rfl ?_ ?_
      · exact l1_thr
      · refine l1_many mt_X11_at (pc' := 27) (L' := [some (.ref 0), some (.int p1), some (.int p2)]) (st' := [.ref 0, .int p1]) 2 rfl ?_
        refine l1_getR hQ mt_X11_at rfl (o := 0) (ci := 10) (k := 1) (a := 0) (b := 1) rfl rfl rfl rfl rfl (q := 3) rfl ?_
        refine l1_callV hQ mt_X11_at mt_X2_size rfl rfl (o := 3) (ci := 1) (As := []) (rest := [.int p1]) rfl rfl rfl rfl rfl rfl (st1 := fun x1 => [.int x1, .int p1]) (fun _ => rfl) (ok_X2_size hQ c 3 rfl) (fun x1 c2 => ?_)
        refine l1_many mt_X11_at (pc' := bif am_cc .le p1 (x1 - p2) then 48 else 38) (L' := [some (.ref 0), some (.int p1), some (.int p2)]) (st' := []) 3 rfl ?_
        refine l1_bif rfl ?_ ?_
        · refine l1_many mt_X11_at (pc' := 53) (L' := [some (.ref 0), some (.int p1), some (.int p2), some (.long 0), none, some (.int 0)]) (st' := []) 4 rfl ?_
          exact ok_X11_at_53 hQ N p1 p2 N c2 0 0
        · exact l1_thr
    · exact l1_thr
set_option maxRecDepth 100000 in
theorem en_X11_count {Q : hS → am_H → Prop} (hQ : l1_em kc Q) (c : hS) (p1 : Int32) : l1_G (wT wI) Q am_i_X11_count 0 [some (.ref 0), some (.int p1)] [] c (f_X11_count c p1) := by
  rw [f_X11_count]
  refine l1_many mt_X11_count (pc' := 1) (L' := [some (.ref 0), some (.int p1)]) (st' := [.int p1]) 1 rfl ?_
  refine l1_ite (fun hs => ?_) (fun hs0 => ?_)
  · refine l1_sw mt_X11_count rfl (pc' := 28) (st' := []) rfl (by rw [hs]; rfl) ?_
    refine l1_many mt_X11_count (pc' := 29) (L' := [some (.ref 0), some (.int p1)]) (st' := [.ref 0]) 1 rfl ?_
    refine l1_getM hQ mt_X11_count rfl (o := 0) (ci := 10) (k := 8) (a := 0) (b := 0) rfl rfl rfl rfl rfl (fun hx1 => ?_)
    refine l1_callV hQ mt_X11_count mt_X9_size rfl rfl (o := (c.2.2 0 8)) (ci := 8) (As := []) (rest := []) rfl rfl hx1 rfl rfl rfl (st1 := fun x2 => [.int x2]) (fun _ => rfl) (ok_X9_size hQ c (c.2.2 0 8) hx1) (fun x2 c3 => ?_)
    exact l1_ret mt_X11_count rfl rfl rfl
  refine l1_ite (fun hs => ?_) (fun hs1 => ?_)
  · refine l1_sw mt_X11_count rfl (pc' := 36) (st' := []) rfl (by rw [hs]; rfl) ?_
    refine l1_many mt_X11_count (pc' := 37) (L' := [some (.ref 0), some (.int p1)]) (st' := [.ref 0]) 1 rfl ?_
    refine l1_getR hQ mt_X11_count rfl (o := 0) (ci := 10) (k := 0) (a := 0) (b := 1) rfl rfl rfl rfl rfl (q := 1) rfl ?_
    refine l1_callV hQ mt_X11_count mt_X2_size rfl rfl (o := 1) (ci := 1) (As := []) (rest := []) rfl rfl rfl rfl rfl rfl (st1 := fun x4 => [.int x4]) (fun _ => rfl) (ok_X2_size hQ c 1 rfl) (fun x4 c5 => ?_)
    exact l1_ret mt_X11_count rfl rfl rfl
  refine l1_ite (fun hs => ?_) (fun hs2 => ?_)
  · refine l1_sw mt_X11_count rfl (pc' := 44) (st' := []) rfl (by rw [hs]; rfl) ?_
    refine l1_many mt_X11_count (pc' := 45) (L' := [some (.ref 0), some (.int p1)]) (st' := [.ref 0]) 1 rfl ?_
    refine l1_getR hQ mt_X11_count rfl (o := 0) (ci := 10) (k := 1) (a := 0) (b := 1) rfl rfl rfl rfl rfl (q := 3) rfl ?_
    refine l1_callV hQ mt_X11_count mt_X2_size rfl rfl (o := 3) (ci := 1) (As := []) (rest := []) rfl rfl rfl rfl rfl rfl (st1 := fun x6 => [.int x6]) (fun _ => rfl) (ok_X2_size hQ c 3 rfl) (fun x6 c7 => ?_)
    exact l1_ret mt_X11_count rfl rfl rfl
  refine l1_sw mt_X11_count rfl (pc' := 52) (st' := []) rfl (by have a0 : Int32.toInt p1 ≠ 0 := fun e => hs0 (Int32.toInt_inj.mp (e.trans (by decide +kernel))); have a1 : Int32.toInt p1 ≠ 1 := fun e => hs1 (Int32.toInt_inj.mp (e.trans (by decide +kernel))); have a2 : Int32.toInt p1 ≠ 2 := fun e => hs2 (Int32.toInt_inj.mp (e.trans (by decide +kernel))); have : Int32.toInt p1 < 0 ∨ 2 < Int32.toInt p1 := (by omega); simp only [am_s0]; rw [if_pos this]; rfl) ?_
  · exact l1_thr
set_option maxRecDepth 100000 in
theorem en_X12_thrown {Q : hS → am_H → Prop} (hQ : l1_em km Q) (c : hS) : l1_G (wN wI) Q am_i_X12_thrown 0 [some (.ref 201)] [] c (f_X12_thrown c) := by
  rw [f_X12_thrown]
  refine l1_many mt_X12_thrown (pc' := 1) (L' := [some (.ref 201)]) (st' := [.ref 201]) 1 rfl ?_
  refine l1_getI hQ mt_X12_thrown rfl (o := 201) (ci := 11) (k := 0) (a := 0) (b := 0) rfl rfl rfl rfl rfl ?_
  exact l1_ret mt_X12_thrown rfl rfl rfl
theorem ok_X12_thrown {Q : hS → am_H → Prop} (hQ : l1_em km Q) (c : hS) : l1_T wI Q am_i_X12_thrown [.ref 201] c (f_X12_thrown c) := l1_of (en_X12_thrown hQ c) ⟨rfl, trivial⟩
set_option maxRecDepth 100000 in
theorem en_X12_in {Q : hS → am_H → Prop} (hQ : l1_em km Q) (c : hS) (p0 : Int64) (p2 : Int64) (p4 : Int64) : l1_G (wN wI) Q am_i_X12_in 0 [some (.long p0), none, some (.long p2), none, some (.long p4)] [] c (f_X12_in c p0 p2 p4) := by
  rw [f_X12_in]
  refine l1_many mt_X12_in (pc' := bif am_cc .lt (j_cmp p0 p2) 0 then 17 else 6) (L' := [some (.long p0), none, some (.long p2), none, some (.long p4)]) (st' := []) 4 rfl ?_
  refine l1_bif rfl ?_ ?_
  · refine l1_many mt_X12_in (pc' := 18) (L' := [some (.long p0), none, some (.long p2), none, some (.long p4)]) (st' := [.int 0]) 1 rfl ?_
    exact l1_ret mt_X12_in rfl rfl rfl
  · refine l1_many mt_X12_in (pc' := bif am_cc .gt (j_cmp p0 p4) 0 then 17 else 13) (L' := [some (.long p0), none, some (.long p2), none, some (.long p4)]) (st' := []) 4 rfl ?_
    refine l1_bif rfl ?_ ?_
    · refine l1_many mt_X12_in (pc' := 18) (L' := [some (.long p0), none, some (.long p2), none, some (.long p4)]) (st' := [.int 0]) 1 rfl ?_
      exact l1_ret mt_X12_in rfl rfl rfl
    · refine l1_many mt_X12_in (pc' := 18) (L' := [some (.long p0), none, some (.long p2), none, some (.long p4)]) (st' := [.int 1]) 2 rfl ?_
      exact l1_ret mt_X12_in rfl rfl rfl
theorem ok_X12_in {Q : hS → am_H → Prop} (hQ : l1_em km Q) (c : hS) (p0 : Int64) (p2 : Int64) (p4 : Int64) : l1_T wI Q am_i_X12_in [.long p0, .long p2, .long p4] c (f_X12_in c p0 p2 p4) := l1_of (en_X12_in hQ c p0 p2 p4) ⟨rfl, rfl, rfl, trivial⟩
