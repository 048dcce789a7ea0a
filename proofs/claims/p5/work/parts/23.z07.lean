/-! THAT THE MACHINE FOLLOWS THEM, printed by gen_l1.py -/
set_option maxRecDepth 100000 in
theorem en_X5_addLocal {Q : hS → am_H → Prop} (hQ : l1_em kc Q) (N : Nat) (c : hS) (p1 : Nat) (p2 : Int32) (hp1 : kc p1 = 6) : l1_G (wN wV) Q am_i_X5_addLocal 0 [some (.ref 36), some (.ref p1), some (.int p2)] [] c (f_X5_addLocal N c p1 p2) := by
  rw [f_X5_addLocal]
  refine l1_many mt_X5_addLocal (pc' := 1) (L' := [some (.ref 36), some (.ref p1), some (.int p2)]) (st' := [.ref 36]) 1 rfl ?_
  refine l1_getR hQ mt_X5_addLocal rfl (o := 36) (ci := 4) (k := 0) (a := 1) (b := 2) rfl rfl rfl rfl rfl (q := 3) rfl ?_
  refine l1_many mt_X5_addLocal (pc' := 7) (L' := [some (.ref 36), some (.ref p1), some (.int p2)]) (st' := [.ref 1000000003, .ref 3]) 1 rfl ?_
  refine l1_callV hQ mt_X5_addLocal mt_X2_addMark rfl rfl (o := 3) (ci := 1) (As := [.ref 1000000003]) (rest := []) rfl rfl rfl rfl rfl rfl (st1 := fun _ => []) (fun _ => rfl) (ok_X2_addMark hQ N c 3 sa3 rfl oa3) (fun _ c1 => ?_)
  refine l1_many mt_X5_addLocal (pc' := 11) (L' := [some (.ref 36), some (.ref p1), some (.int p2)]) (st' := [.ref 36]) 1 rfl ?_
  refine l1_getR hQ mt_X5_addLocal rfl (o := 36) (ci := 4) (k := 0) (a := 1) (b := 2) rfl rfl rfl rfl rfl (q := 3) rfl ?_
  refine l1_many mt_X5_addLocal (pc' := 18) (L' := [some (.ref 36), some (.ref p1), some (.int p2)]) (st' := [.int 2, .long 20, .ref 3]) 2 rfl ?_
  refine l1_callV hQ mt_X5_addLocal mt_X2_addLittle rfl rfl (o := 3) (ci := 1) (As := [.long 20, .int 2]) (rest := []) rfl rfl rfl rfl rfl rfl (st1 := fun _ => []) (fun _ => rfl) (ok_X2_addLittle hQ N c1 3 20 2 rfl) (fun _ c2 => ?_)
  refine l1_many mt_X5_addLocal (pc' := 22) (L' := [some (.ref 36), some (.ref p1), some (.int p2)]) (st' := [.ref 36]) 1 rfl ?_
  refine l1_getR hQ mt_X5_addLocal rfl (o := 36) (ci := 4) (k := 0) (a := 1) (b := 2) rfl rfl rfl rfl rfl (q := 3) rfl ?_
  refine l1_many mt_X5_addLocal (pc' := 27) (L' := [some (.ref 36), some (.ref p1), some (.int p2)]) (st' := [.int 2, .long 0, .ref 3]) 2 rfl ?_
  refine l1_callV hQ mt_X5_addLocal mt_X2_addLittle rfl rfl (o := 3) (ci := 1) (As := [.long 0, .int 2]) (rest := []) rfl rfl rfl rfl rfl rfl (st1 := fun _ => []) (fun _ => rfl) (ok_X2_addLittle hQ N c2 3 0 2 rfl) (fun _ c3 => ?_)
  refine l1_many mt_X5_addLocal (pc' := 31) (L' := [some (.ref 36), some (.ref p1), some (.int p2)]) (st' := [.ref 36]) 1 rfl ?_
  refine l1_getR hQ mt_X5_addLocal rfl (o := 36) (ci := 4) (k := 0) (a := 1) (b := 2) rfl rfl rfl rfl rfl (q := 3) rfl ?_
  refine l1_many mt_X5_addLocal (pc' := 37) (L' := [some (.ref 36), some (.ref p1), some (.int p2)]) (st' := [.int 2, .long p2.toInt64, .ref 3]) 3 rfl ?_
  refine l1_callV hQ mt_X5_addLocal mt_X2_addLittle rfl rfl (o := 3) (ci := 1) (As := [.long p2.toInt64, .int 2]) (rest := []) rfl rfl rfl rfl rfl rfl (st1 := fun _ => []) (fun _ => rfl) (ok_X2_addLittle hQ N c3 3 p2.toInt64 2 rfl) (fun _ c4 => ?_)
  refine l1_many mt_X5_addLocal (pc' := 41) (L' := [some (.ref 36), some (.ref p1), some (.int p2)]) (st' := [.ref 36]) 1 rfl ?_
  refine l1_getR hQ mt_X5_addLocal rfl (o := 36) (ci := 4) (k := 0) (a := 1) (b := 2) rfl rfl rfl rfl rfl (q := 3) rfl ?_
  refine l1_many mt_X5_addLocal (pc' := 46) (L' := [some (.ref 36), some (.ref p1), some (.int p2)]) (st' := [.int 2, .long 0, .ref 3]) 2 rfl ?_
  refine l1_callV hQ mt_X5_addLocal mt_X2_addLittle rfl rfl (o := 3) (ci := 1) (As := [.long 0, .int 2]) (rest := []) rfl rfl rfl rfl rfl rfl (st1 := fun _ => []) (fun _ => rfl) (ok_X2_addLittle hQ N c4 3 0 2 rfl) (fun _ c5 => ?_)
  refine l1_many mt_X5_addLocal (pc' := 50) (L' := [some (.ref 36), some (.ref p1), some (.int p2)]) (st' := [.ref 36]) 1 rfl ?_
  refine l1_getR hQ mt_X5_addLocal rfl (o := 36) (ci := 4) (k := 0) (a := 1) (b := 2) rfl rfl rfl rfl rfl (q := 3) rfl ?_
  refine l1_many mt_X5_addLocal (pc' := 57) (L' := [some (.ref 36), some (.ref p1), some (.int p2)]) (st' := [.int 2, .long 33, .ref 3]) 2 rfl ?_
  refine l1_callV hQ mt_X5_addLocal mt_X2_addLittle rfl rfl (o := 3) (ci := 1) (As := [.long 33, .int 2]) (rest := []) rfl rfl rfl rfl rfl rfl (st1 := fun _ => []) (fun _ => rfl) (ok_X2_addLittle hQ N c5 3 33 2 rfl) (fun _ c6 => ?_)
  refine l1_many mt_X5_addLocal (pc' := 61) (L' := [some (.ref 36), some (.ref p1), some (.int p2)]) (st' := [.ref 36]) 1 rfl ?_
  refine l1_getR hQ mt_X5_addLocal rfl (o := 36) (ci := 4) (k := 0) (a := 1) (b := 2) rfl rfl rfl rfl rfl (q := 3) rfl ?_
  refine l1_many mt_X5_addLocal (pc' := 65) (L' := [some (.ref 36), some (.ref p1), some (.int p2)]) (st' := [.ref p1, .ref 3]) 1 rfl ?_
  refine l1_getR hQ mt_X5_addLocal rfl (o := p1) (ci := 6) (k := 1) (a := 2) (b := 2) hp1 rfl rfl rfl rfl (q := (p1 + 3)) rfl ?_
  refine l1_callS mt_X5_addLocal mt_X11_checkOf rfl rfl (As := [.ref (p1 + 3)]) (rest := [.ref 3]) rfl rfl rfl (st1 := fun x7 => [.int x7, .ref 3]) (fun _ => rfl) (ok_X11_checkOf hQ N c6 (p1 + 3) (kc6_1 hp1)) (fun x7 c8 => ?_)
  refine l1_many mt_X5_addLocal (pc' := 73) (L' := [some (.ref 36), some (.ref p1), some (.int p2)]) (st' := [.int 4, .long x7.toInt64, .ref 3]) 2 rfl ?_
  refine l1_callV hQ mt_X5_addLocal mt_X2_addLittle rfl rfl (o := 3) (ci := 1) (As := [.long x7.toInt64, .int 4]) (rest := []) rfl rfl rfl rfl rfl rfl (st1 := fun _ => []) (fun _ => rfl) (ok_X2_addLittle hQ N c8 3 x7.toInt64 4 rfl) (fun _ c9 => ?_)
  refine l1_many mt_X5_addLocal (pc' := 77) (L' := [some (.ref 36), some (.ref p1), some (.int p2)]) (st' := [.ref 36]) 1 rfl ?_
  refine l1_getR hQ mt_X5_addLocal rfl (o := 36) (ci := 4) (k := 0) (a := 1) (b := 2) rfl rfl rfl rfl rfl (q := 3) rfl ?_
  refine l1_many mt_X5_addLocal (pc' := 82) (L' := [some (.ref 36), some (.ref p1), some (.int p2)]) (st' := [.int 4, .long 0, .ref 3]) 2 rfl ?_
  refine l1_callV hQ mt_X5_addLocal mt_X2_addLittle rfl rfl (o := 3) (ci := 1) (As := [.long 0, .int 4]) (rest := []) rfl rfl rfl rfl rfl rfl (st1 := fun _ => []) (fun _ => rfl) (ok_X2_addLittle hQ N c9 3 0 4 rfl) (fun _ c10 => ?_)
  refine l1_many mt_X5_addLocal (pc' := 86) (L' := [some (.ref 36), some (.ref p1), some (.int p2)]) (st' := [.ref 36]) 1 rfl ?_
  refine l1_getR hQ mt_X5_addLocal rfl (o := 36) (ci := 4) (k := 0) (a := 1) (b := 2) rfl rfl rfl rfl rfl (q := 3) rfl ?_
  refine l1_many mt_X5_addLocal (pc' := 90) (L' := [some (.ref 36), some (.ref p1), some (.int p2)]) (st' := [.ref p1, .ref 3]) 1 rfl ?_
  refine l1_getR hQ mt_X5_addLocal rfl (o := p1) (ci := 6) (k := 1) (a := 2) (b := 2) hp1 rfl rfl rfl rfl (q := (p1 + 3)) rfl ?_
  refine l1_callV hQ mt_X5_addLocal mt_X2_size rfl rfl (o := (p1 + 3)) (ci := 1) (As := []) (rest := [.ref 3]) rfl rfl (kc6_1 hp1) rfl rfl rfl (st1 := fun x11 => [.int x11, .ref 3]) (fun _ => rfl) (ok_X2_size hQ c10 (p1 + 3) (kc6_1 hp1)) (fun x11 c12 => ?_)
  refine l1_many mt_X5_addLocal (pc' := 98) (L' := [some (.ref 36), some (.ref p1), some (.int p2)]) (st' := [.int 4, .long x11.toInt64, .ref 3]) 2 rfl ?_
  refine l1_callV hQ mt_X5_addLocal mt_X2_addLittle rfl rfl (o := 3) (ci := 1) (As := [.long x11.toInt64, .int 4]) (rest := []) rfl rfl rfl rfl rfl rfl (st1 := fun _ => []) (fun _ => rfl) (ok_X2_addLittle hQ N c12 3 x11.toInt64 4 rfl) (fun _ c13 => ?_)
  refine l1_many mt_X5_addLocal (pc' := 102) (L' := [some (.ref 36), some (.ref p1), some (.int p2)]) (st' := [.ref 36]) 1 rfl ?_
  refine l1_getR hQ mt_X5_addLocal rfl (o := 36) (ci := 4) (k := 0) (a := 1) (b := 2) rfl rfl rfl rfl rfl (q := 3) rfl ?_
  refine l1_many mt_X5_addLocal (pc' := 106) (L' := [some (.ref 36), some (.ref p1), some (.int p2)]) (st' := [.ref p1, .ref 3]) 1 rfl ?_
  refine l1_callS mt_X5_addLocal mt_X5_titleBytes rfl rfl (As := [.ref p1]) (rest := [.ref 3]) rfl rfl rfl (st1 := fun x14 => [.int x14, .ref 3]) (fun _ => rfl) (ok_X5_titleBytes hQ c13 p1 hp1) (fun x14 c15 => ?_)
  refine l1_many mt_X5_addLocal (pc' := 111) (L' := [some (.ref 36), some (.ref p1), some (.int p2)]) (st' := [.int 2, .long x14.toInt64, .ref 3]) 2 rfl ?_
  refine l1_callV hQ mt_X5_addLocal mt_X2_addLittle rfl rfl (o := 3) (ci := 1) (As := [.long x14.toInt64, .int 2]) (rest := []) rfl rfl rfl rfl rfl rfl (st1 := fun _ => []) (fun _ => rfl) (ok_X2_addLittle hQ N c15 3 x14.toInt64 2 rfl) (fun _ c16 => ?_)
  refine l1_many mt_X5_addLocal (pc' := 115) (L' := [some (.ref 36), some (.ref p1), some (.int p2)]) (st' := [.ref 36]) 1 rfl ?_
  refine l1_getR hQ mt_X5_addLocal rfl (o := 36) (ci := 4) (k := 0) (a := 1) (b := 2) rfl rfl rfl rfl rfl (q := 3) rfl ?_
  refine l1_many mt_X5_addLocal (pc' := 120) (L' := [some (.ref 36), some (.ref p1), some (.int p2)]) (st' := [.int 2, .long 0, .ref 3]) 2 rfl ?_
  refine l1_callV hQ mt_X5_addLocal mt_X2_addLittle rfl rfl (o := 3) (ci := 1) (As := [.long 0, .int 2]) (rest := []) rfl rfl rfl rfl rfl rfl (st1 := fun _ => []) (fun _ => rfl) (ok_X2_addLittle hQ N c16 3 0 2 rfl) (fun _ c17 => ?_)
  refine l1_many mt_X5_addLocal (pc' := 126) (L' := [some (.ref 36), some (.ref p1), some (.int p2)]) (st' := [.int 1, .ref p1, .ref 36]) 3 rfl ?_
  refine l1_callV hQ mt_X5_addLocal mt_X0_addTitle rfl rfl (o := 36) (ci := 4) (As := [.ref p1, .int 1]) (rest := []) rfl rfl rfl rfl rfl rfl (st1 := fun _ => []) (fun _ => rfl) (ok_X0_addTitle_36 hQ N c17 p1 1 hp1) (fun _ c18 => ?_)
  exact l1_ret mt_X5_addLocal rfl rfl rfl
theorem ok_X5_addLocal {Q : hS → am_H → Prop} (hQ : l1_em kc Q) (N : Nat) (c : hS) (p1 : Nat) (p2 : Int32) (hp1 : kc p1 = 6) : l1_T wV Q am_i_X5_addLocal [.ref 36, .ref p1, .int p2] c (f_X5_addLocal N c p1 p2) := l1_of (en_X5_addLocal hQ N c p1 p2 hp1) ⟨rfl, rfl, rfl, trivial⟩
set_option maxRecDepth 100000 in
theorem ok_X5_setSize_2 {Q : hS → am_H → Prop} (hQ : l1_em kc Q) (N : Nat) (p1 : Int32) (p2 : Int32) : ∀ n : Nat, ∀ (c : hS) (v3 : Int32), l1_G (wN wV) Q am_i_X5_setSize 2 [some (.ref 36), some (.int p1), some (.int p2), some (.int v3)] [] c (f_X5_setSize_2 N p1 p2 n c v3) := by
  intro n
  induction n with
  | zero => intro c v3; exact l1_none
  | succ n ih =>
    intro c v3
    rw [f_X5_setSize_2]
    refine l1_many mt_X5_setSize (pc' := bif am_cc .ge v3 4 then 32 else 7) (L' := [some (.ref 36), some (.int p1), some (.int p2), some (.int v3)]) (st' := []) 3 rfl ?_
    refine l1_bif rfl ?_ ?_
    · exact l1_ret mt_X5_setSize rfl rfl rfl
    · refine l1_many mt_X5_setSize (pc' := 8) (L' := [some (.ref 36), some (.int p1), some (.int p2), some (.int v3)]) (st' := [.ref 36]) 1 rfl ?_
      refine l1_getR hQ mt_X5_setSize rfl (o := 36) (ci := 4) (k := 0) (a := 1) (b := 2) rfl rfl rfl rfl rfl (q := 3) rfl ?_
      refine l1_many mt_X5_setSize (pc' := 23) (L' := [some (.ref 36), some (.int p1), some (.int p2), some (.int v3)]) (st' := [.int (j_ushr p2 (8 * v3)), .int ((p1 + 18) + v3), .ref 3]) 10 rfl ?_
      refine l1_callV hQ mt_X5_setSize mt_X2_set rfl rfl (o := 3) (ci := 1) (As := [.int ((p1 + 18) + v3), .int (j_ushr p2 (8 * v3))]) (rest := []) rfl rfl rfl rfl rfl rfl (st1 := fun _ => []) (fun _ => rfl) (ok_X2_set hQ c 3 ((p1 + 18) + v3) (j_ushr p2 (8 * v3)) rfl) (fun _ c1 => ?_)
      refine l1_many mt_X5_setSize (pc' := 2) (L' := [some (.ref 36), some (.int p1), some (.int p2), some (.int (v3 + 1))]) (st' := []) 2 rfl ?_
      exact ih c1 (v3 + 1)
set_option maxRecDepth 100000 in
theorem en_X5_setSize {Q : hS → am_H → Prop} (hQ : l1_em kc Q) (N : Nat) (c : hS) (p1 : Int32) (p2 : Int32) : l1_G (wN wV) Q am_i_X5_setSize 0 [some (.ref 36), some (.int p1), some (.int p2)] [] c (f_X5_setSize N c p1 p2) := by
  rw [f_X5_setSize]
  refine l1_many mt_X5_setSize (pc' := 2) (L' := [some (.ref 36), some (.int p1), some (.int p2), some (.int 0)]) (st' := []) 2 rfl ?_
  exact ok_X5_setSize_2 hQ N p1 p2 N c 0
theorem ok_X5_setSize {Q : hS → am_H → Prop} (hQ : l1_em kc Q) (N : Nat) (c : hS) (p1 : Int32) (p2 : Int32) : l1_T wV Q am_i_X5_setSize [.ref 36, .int p1, .int p2] c (f_X5_setSize N c p1 p2) := l1_of (en_X5_setSize hQ N c p1 p2) ⟨rfl, rfl, rfl, trivial⟩
set_option maxRecDepth 100000 in
theorem ok_X8_addBits_2 {Q : hS → am_H → Prop} (hQ : l1_em kc Q) (N : Nat) (p1 : Int32) (p2 : Int32) : ∀ n : Nat, ∀ (c : hS) (v3 : Int32), l1_G (wN wV) Q am_i_X8_addBits 2 [some (.ref 10), some (.int p1), some (.int p2), some (.int v3)] [] c (f_X8_addBits_2 N p1 p2 n c v3) := by
  intro n
  induction n with
  | zero => intro c v3; exact l1_none
  | succ n ih =>
    intro c v3
    rw [f_X8_addBits_2]
    refine l1_many mt_X8_addBits (pc' := bif am_cc .ge v3 p2 then 72 else 7) (L' := [some (.ref 10), some (.int p1), some (.int p2), some (.int v3)]) (st' := []) 3 rfl ?_
    refine l1_bif rfl ?_ ?_
    · exact l1_ret mt_X8_addBits rfl rfl rfl
    · refine l1_many mt_X8_addBits (pc' := 9) (L' := [some (.ref 10), some (.int p1), some (.int p2), some (.int v3)]) (st' := [.ref 10, .ref 10]) 2 rfl ?_
      refine l1_getI hQ mt_X8_addBits rfl (o := 10) (ci := 7) (k := 1) (a := 0) (b := 0) rfl rfl rfl rfl rfl ?_
      refine l1_many mt_X8_addBits (pc' := 18) (L' := [some (.ref 10), some (.int p1), some (.int p2), some (.int v3)]) (st' := [.ref 10, .int ((j_shr p1 v3) &&& 1), .int (c.1 10 1), .ref 10]) 6 rfl ?_
      refine l1_getI hQ mt_X8_addBits rfl (o := 10) (ci := 7) (k := 2) (a := 0) (b := 0) rfl rfl rfl rfl rfl ?_
      refine l1_many mt_X8_addBits (pc' := 23) (L' := [some (.ref 10), some (.int p1), some (.int p2), some (.int v3)]) (st' := [.int ((c.1 10 1) ||| (j_shl ((j_shr p1 v3) &&& 1) (c.1 10 2))), .ref 10]) 2 rfl ?_
      refine l1_putI hQ mt_X8_addBits rfl (o := 10) (ci := 7) (k := 1) (a := 0) rfl rfl rfl rfl rfl rfl (fun c1 => ?_)
      refine l1_many mt_X8_addBits (pc' := 28) (L' := [some (.ref 10), some (.int p1), some (.int p2), some (.int v3)]) (st' := [.ref 10, .ref 10]) 2 rfl ?_
      refine l1_getI hQ mt_X8_addBits rfl (o := 10) (ci := 7) (k := 2) (a := 0) (b := 0) rfl rfl rfl rfl rfl ?_
      refine l1_many mt_X8_addBits (pc' := 33) (L' := [some (.ref 10), some (.int p1), some (.int p2), some (.int v3)]) (st' := [.int ((c1.1 10 2) + 1), .ref 10]) 2 rfl ?_
      refine l1_putI hQ mt_X8_addBits rfl (o := 10) (ci := 7) (k := 2) (a := 0) rfl rfl rfl rfl rfl rfl (fun c2 => ?_)
      refine l1_many mt_X8_addBits (pc' := 37) (L' := [some (.ref 10), some (.int p1), some (.int p2), some (.int v3)]) (st' := [.ref 10]) 1 rfl ?_
      refine l1_getI hQ mt_X8_addBits rfl (o := 10) (ci := 7) (k := 2) (a := 0) (b := 0) rfl rfl rfl rfl rfl ?_
      refine l1_many mt_X8_addBits (pc' := bif am_cc .ne (c2.1 10 2) 8 then 66 else 45) (L' := [some (.ref 10), some (.int p1), some (.int p2), some (.int v3)]) (st' := []) 2 rfl ?_
      refine l1_bin rfl ?_ ?_
      · refine l1_many mt_X8_addBits (pc' := 46) (L' := [some (.ref 10), some (.int p1), some (.int p2), some (.int v3)]) (st' := [.ref 10]) 1 rfl ?_
        refine l1_getR hQ mt_X8_addBits rfl (o := 10) (ci := 7) (k := 0) (a := 0) (b := 1) rfl rfl rfl rfl rfl (q := 3) rfl ?_
        refine l1_many mt_X8_addBits (pc' := 50) (L' := [some (.ref 10), some (.int p1), some (.int p2), some (.int v3)]) (st' := [.ref 10, .ref 3]) 1 rfl ?_
        refine l1_getI hQ mt_X8_addBits rfl (o := 10) (ci := 7) (k := 1) (a := 0) (b := 0) rfl rfl rfl rfl rfl ?_
        refine l1_callV hQ mt_X8_addBits mt_X2_add rfl rfl (o := 3) (ci := 1) (As := [.int (c2.1 10 1)]) (rest := []) rfl rfl rfl rfl rfl rfl (st1 := fun _ => []) (fun _ => rfl) (ok_X2_add hQ c2 3 (c2.1 10 1) rfl) (fun _ c3 => ?_)
        refine l1_many mt_X8_addBits (pc' := 58) (L' := [some (.ref 10), some (.int p1), some (.int p2), some (.int v3)]) (st' := [.int 0, .ref 10]) 2 rfl ?_
        refine l1_putI hQ mt_X8_addBits rfl (o := 10) (ci := 7) (k := 1) (a := 0) rfl rfl rfl rfl rfl rfl (fun c4 => ?_)
        refine l1_many mt_X8_addBits (pc' := 63) (L' := [some (.ref 10), some (.int p1), some (.int p2), some (.int v3)]) (st' := [.int 0, .ref 10]) 2 rfl ?_
        refine l1_putI hQ mt_X8_addBits rfl (o := 10) (ci := 7) (k := 2) (a := 0) rfl rfl rfl rfl rfl rfl (fun c5 => ?_)
        refine l1_many mt_X8_addBits (pc' := 2) (L' := [some (.ref 10), some (.int p1), some (.int p2), some (.int (v3 + 1))]) (st' := []) 2 rfl ?_
        exact ih c5 (v3 + 1)
      · refine l1_many mt_X8_addBits (pc' := 2) (L' := [some (.ref 10), some (.int p1), some (.int p2), some (.int (v3 + 1))]) (st' := []) 2 rfl ?_
        exact ih c2 (v3 + 1)
set_option maxRecDepth 100000 in
theorem en_X8_addBits {Q : hS → am_H → Prop} (hQ : l1_em kc Q) (N : Nat) (c : hS) (p1 : Int32) (p2 : Int32) : l1_G (wN wV) Q am_i_X8_addBits 0 [some (.ref 10), some (.int p1), some (.int p2)] [] c (f_X8_addBits N c p1 p2) := by
  rw [f_X8_addBits]
  refine l1_many mt_X8_addBits (pc' := 2) (L' := [some (.ref 10), some (.int p1), some (.int p2), some (.int 0)]) (st' := []) 2 rfl ?_
  exact ok_X8_addBits_2 hQ N p1 p2 N c 0
theorem ok_X8_addBits {Q : hS → am_H → Prop} (hQ : l1_em kc Q) (N : Nat) (c : hS) (p1 : Int32) (p2 : Int32) : l1_T wV Q am_i_X8_addBits [.ref 10, .int p1, .int p2] c (f_X8_addBits N c p1 p2) := l1_of (en_X8_addBits hQ N c p1 p2) ⟨rfl, rfl, rfl, trivial⟩
set_option maxRecDepth 100000 in
theorem ok_X8_addCode_4 {Q : hS → am_H → Prop} (hQ : l1_em kc Q) (N : Nat) (p1 : Int32) (p2 : Int32) : ∀ n : Nat, ∀ (c : hS) (v3 : Int32), l1_G (wN wV) Q am_i_X8_addCode 4 [some (.ref 10), some (.int p1), none, some (.int v3)] [] c (f_X8_addCode_4 N p1 p2 n c v3) := by
  intro n
  induction n with
  | zero => intro c v3; exact l1_none
  | succ n ih =>
    intro c v3
    rw [f_X8_addCode_4]
    refine l1_many mt_X8_addCode (pc' := bif am_cc .lt v3 0 then 22 else 8) (L' := [some (.ref 10), some (.int p1), none, some (.int v3)]) (st' := []) 2 rfl ?_
    refine l1_bif rfl ?_ ?_
    · exact l1_ret mt_X8_addCode rfl rfl rfl
    · refine l1_many mt_X8_addCode (pc' := 13) (L' := [some (.ref 10), some (.int p1), none, some (.int v3)]) (st' := [.int 1, .int (j_shr p1 v3), .ref 10]) 5 rfl ?_
      refine l1_callV hQ mt_X8_addCode mt_X8_addBits rfl rfl (o := 10) (ci := 7) (As := [.int (j_shr p1 v3), .int 1]) (rest := []) rfl rfl rfl rfl rfl rfl (st1 := fun _ => []) (fun _ => rfl) (ok_X8_addBits hQ N c (j_shr p1 v3) 1) (fun _ c1 => ?_)
      refine l1_many mt_X8_addCode (pc' := 4) (L' := [some (.ref 10), some (.int p1), none, some (.int (v3 + (-1)))]) (st' := []) 2 rfl ?_
      exact ih c1 (v3 + (-1))
set_option maxRecDepth 100000 in
theorem en_X8_addCode {Q : hS → am_H → Prop} (hQ : l1_em kc Q) (N : Nat) (c : hS) (p1 : Int32) (p2 : Int32) : l1_G (wN wV) Q am_i_X8_addCode 0 [some (.ref 10), some (.int p1), some (.int p2)] [] c (f_X8_addCode N c p1 p2) := by
  rw [f_X8_addCode]
  refine l1_many mt_X8_addCode (pc' := 4) (L' := [some (.ref 10), some (.int p1), some (.int p2), some (.int (p2 - 1))]) (st' := []) 4 rfl ?_
  refine l1_weak (m := [true, true, false, true]) (L' := [some (.ref 10), some (.int p1), none, some (.int (p2 - 1))]) rfl ?_
  exact ok_X8_addCode_4 hQ N p1 p2 N c (p2 - 1)
theorem ok_X8_addCode {Q : hS → am_H → Prop} (hQ : l1_em kc Q) (N : Nat) (c : hS) (p1 : Int32) (p2 : Int32) : l1_T wV Q am_i_X8_addCode [.ref 10, .int p1, .int p2] c (f_X8_addCode N c p1 p2) := l1_of (en_X8_addCode hQ N c p1 p2) ⟨rfl, rfl, rfl, trivial⟩
set_option maxRecDepth 100000 in
theorem en_X8_addSymbol {Q : hS → am_H → Prop} (hQ : l1_em kc Q) (N : Nat) (c : hS) (p1 : Int32) : l1_G (wN wV) Q am_i_X8_addSymbol 0 [some (.ref 10), some (.int p1)] [] c (f_X8_addSymbol N c p1) := by
  rw [f_X8_addSymbol]
  refine l1_many mt_X8_addSymbol (pc' := bif am_cc .ge p1 144 then 20 else 7) (L' := [some (.ref 10), some (.int p1)]) (st' := []) 3 rfl ?_
  refine l1_bif rfl ?_ ?_
  · refine l1_many mt_X8_addSymbol (pc' := bif am_cc .ge p1 256 then 45 else 27) (L' := [some (.ref 10), some (.int p1)]) (st' := []) 3 rfl ?_
    refine l1_bif rfl ?_ ?_
    · refine l1_many mt_X8_addSymbol (pc' := bif am_cc .ge p1 280 then 66 else 52) (L' := [some (.ref 10), some (.int p1)]) (st' := []) 3 rfl ?_
      refine l1_bif rfl ?_ ?_
      · refine l1_many mt_X8_addSymbol (pc' := 78) (L' := [some (.ref 10), some (.int p1)]) (st' := [.int 8, .int ((192 + p1) - 280), .ref 10]) 7 rfl ?_
        refine l1_callV hQ mt_X8_addSymbol mt_X8_addCode rfl rfl (o := 10) (ci := 7) (As := [.int ((192 + p1) - 280), .int 8]) (rest := []) rfl rfl rfl rfl rfl rfl (st1 := fun _ => []) (fun _ => rfl) (ok_X8_addCode hQ N c ((192 + p1) - 280) 8) (fun _ c1 => ?_)
        exact l1_ret mt_X8_addSymbol rfl rfl rfl
      · refine l1_many mt_X8_addSymbol (pc' := 60) (L' := [some (.ref 10), some (.int p1)]) (st' := [.int 7, .int (p1 - 256), .ref 10]) 5 rfl ?_
        refine l1_callV hQ mt_X8_addSymbol mt_X8_addCode rfl rfl (o := 10) (ci := 7) (As := [.int (p1 - 256), .int 7]) (rest := []) rfl rfl rfl rfl rfl rfl (st1 := fun _ => []) (fun _ => rfl) (ok_X8_addCode hQ N c (p1 - 256) 7) (fun _ c2 => ?_)
        refine l1_many mt_X8_addSymbol (pc' := 81) (L' := [some (.ref 10), some (.int p1)]) (st' := []) 1 rfl ?_
        exact l1_ret mt_X8_addSymbol rfl rfl rfl
    · refine l1_many mt_X8_addSymbol (pc' := 39) (L' := [some (.ref 10), some (.int p1)]) (st' := [.int 9, .int ((400 + p1) - 144), .ref 10]) 7 rfl ?_
      refine l1_callV hQ mt_X8_addSymbol mt_X8_addCode rfl rfl (o := 10) (ci := 7) (As := [.int ((400 + p1) - 144), .int 9]) (rest := []) rfl rfl rfl rfl rfl rfl (st1 := fun _ => []) (fun _ => rfl) (ok_X8_addCode hQ N c ((400 + p1) - 144) 9) (fun _ c3 => ?_)
      refine l1_many mt_X8_addSymbol (pc' := 81) (L' := [some (.ref 10), some (.int p1)]) (st' := []) 1 rfl ?_
      exact l1_ret mt_X8_addSymbol rfl rfl rfl
  · refine l1_many mt_X8_addSymbol (pc' := 14) (L' := [some (.ref 10), some (.int p1)]) (st' := [.int 8, .int (48 + p1), .ref 10]) 5 rfl ?_
    refine l1_callV hQ mt_X8_addSymbol mt_X8_addCode rfl rfl (o := 10) (ci := 7) (As := [.int (48 + p1), .int 8]) (rest := []) rfl rfl rfl rfl rfl rfl (st1 := fun _ => []) (fun _ => rfl) (ok_X8_addCode hQ N c (48 + p1) 8) (fun _ c4 => ?_)
    refine l1_many mt_X8_addSymbol (pc' := 81) (L' := [some (.ref 10), some (.int p1)]) (st' := []) 1 rfl ?_
    exact l1_ret mt_X8_addSymbol rfl rfl rfl
theorem ok_X8_addSymbol {Q : hS → am_H → Prop} (hQ : l1_em kc Q) (N : Nat) (c : hS) (p1 : Int32) : l1_T wV Q am_i_X8_addSymbol [.ref 10, .int p1] c (f_X8_addSymbol N c p1) := l1_of (en_X8_addSymbol hQ N c p1) ⟨rfl, rfl, trivial⟩
set_option maxRecDepth 100000 in
theorem ok_X8_distanceSymbol_3 {Q : hS → am_H → Prop} (hQ : l1_em kc Q) (N : Nat) : ∀ n : Nat, ∀ (c : hS) (v1 : Int32), l1_G (wN wI) Q am_i_X8_distanceSymbol 3 [some (.ref 10), some (.int v1)] [] c (f_X8_distanceSymbol_3 N n c v1) := by
  intro n
  induction n with
  | zero => intro c v1; exact l1_none
  | succ n ih =>
    intro c v1
    rw [f_X8_distanceSymbol_3]
    refine l1_many mt_X8_distanceSymbol (pc' := bif am_cc .le v1 0 then 24 else 7) (L' := [some (.ref 10), some (.int v1)]) (st' := []) 2 rfl ?_
    refine l1_bif rfl ?_ ?_
    · refine l1_many mt_X8_distanceSymbol (pc' := 25) (L' := [some (.ref 10), some (.int v1)]) (st' := [.int v1]) 1 rfl ?_
      exact l1_ret mt_X8_distanceSymbol rfl rfl rfl
    · refine l1_many mt_X8_distanceSymbol (pc' := 8) (L' := [some (.ref 10), some (.int v1)]) (st' := [.int v1]) 1 rfl ?_
      refine l1_callS mt_X8_distanceSymbol mt_X11_distanceBase rfl rfl (As := [.int v1]) (rest := []) rfl rfl rfl (st1 := fun x1 => [.int x1]) (fun _ => rfl) (ok_X11_distanceBase hQ c v1) (fun x1 c2 => ?_)
      refine l1_many mt_X8_distanceSymbol (pc' := 12) (L' := [some (.ref 10), some (.int v1)]) (st' := [.ref 10, .int x1]) 1 rfl ?_
      refine l1_getI hQ mt_X8_distanceSymbol rfl (o := 10) (ci := 7) (k := 3) (a := 0) (b := 0) rfl rfl rfl rfl rfl ?_
      refine l1_many mt_X8_distanceSymbol (pc' := bif am_cc .le x1 (c2.1 10 3) then 24 else 18) (L' := [some (.ref 10), some (.int v1)]) (st' := []) 1 rfl ?_
      refine l1_bif rfl ?_ ?_
      · refine l1_many mt_X8_distanceSymbol (pc' := 25) (L' := [some (.ref 10), some (.int v1)]) (st' := [.int v1]) 1 rfl ?_
        exact l1_ret mt_X8_distanceSymbol rfl rfl rfl
      · refine l1_many mt_X8_distanceSymbol (pc' := 3) (L' := [some (.ref 10), some (.int (v1 + (-1)))]) (st' := []) 2 rfl ?_
        exact ih c2 (v1 + (-1))
set_option maxRecDepth 100000 in
theorem en_X8_distanceSymbol {Q : hS → am_H → Prop} (hQ : l1_em kc Q) (N : Nat) (c : hS) : l1_G (wN wI) Q am_i_X8_distanceSymbol 0 [some (.ref 10)] [] c (f_X8_distanceSymbol N c) := by
  rw [f_X8_distanceSymbol]
  refine l1_many mt_X8_distanceSymbol (pc' := 3) (L' := [some (.ref 10), some (.int 29)]) (st' := []) 2 rfl ?_
  exact ok_X8_distanceSymbol_3 hQ N N c 29
theorem ok_X8_distanceSymbol {Q : hS → am_H → Prop} (hQ : l1_em kc Q) (N : Nat) (c : hS) : l1_T wI Q am_i_X8_distanceSymbol [.ref 10] c (f_X8_distanceSymbol N c) := l1_of (en_X8_distanceSymbol hQ N c) ⟨rfl, trivial⟩
set_option maxRecDepth 100000 in
theorem ok_X8_lengthStep_3 {Q : hS → am_H → Prop} (hQ : l1_em kc Q) (N : Nat) (p1 : Int32) : ∀ n : Nat, ∀ (c : hS) (v2 : Int32), l1_G (wN wI) Q am_i_X8_lengthStep 3 [none, some (.int p1), some (.int v2)] [] c (f_X8_lengthStep_3 N p1 n c v2) := by
  intro n
  induction n with
  | zero => intro c v2; exact l1_none
  | succ n ih =>
    intro c v2
    rw [f_X8_lengthStep_3]
    refine l1_many mt_X8_lengthStep (pc' := bif am_cc .le v2 0 then 21 else 7) (L' := [none, some (.int p1), some (.int v2)]) (st' := []) 2 rfl ?_
    refine l1_bif rfl ?_ ?_
    · refine l1_many mt_X8_lengthStep (pc' := 22) (L' := [none, some (.int p1), some (.int v2)]) (st' := [.int v2]) 1 rfl ?_
      exact l1_ret mt_X8_lengthStep rfl rfl rfl
    · refine l1_many mt_X8_lengthStep (pc' := 8) (L' := [none, some (.int p1), some (.int v2)]) (st' := [.int v2]) 1 rfl ?_
      refine l1_callS mt_X8_lengthStep mt_X11_lengthBase rfl rfl (As := [.int v2]) (rest := []) rfl rfl rfl (st1 := fun x1 => [.int x1]) (fun _ => rfl) (ok_X11_lengthBase hQ c v2) (fun x1 c2 => ?_)
      refine l1_many mt_X8_lengthStep (pc' := bif am_cc .le x1 p1 then 21 else 15) (L' := [none, some (.int p1), some (.int v2)]) (st' := []) 2 rfl ?_
      refine l1_bif rfl ?_ ?_
      · refine l1_many mt_X8_lengthStep (pc' := 22) (L' := [none, some (.int p1), some (.int v2)]) (st' := [.int v2]) 1 rfl ?_
        exact l1_ret mt_X8_lengthStep rfl rfl rfl
      · refine l1_many mt_X8_lengthStep (pc' := 3) (L' := [none, some (.int p1), some (.int (v2 + (-1)))]) (st' := []) 2 rfl ?_
        exact ih c2 (v2 + (-1))
set_option maxRecDepth 100000 in
theorem en_X8_lengthStep {Q : hS → am_H → Prop} (hQ : l1_em kc Q) (N : Nat) (c : hS) (p1 : Int32) : l1_G (wN wI) Q am_i_X8_lengthStep 0 [some (.ref 10), some (.int p1)] [] c (f_X8_lengthStep N c p1) := by
  rw [f_X8_lengthStep]
  refine l1_many mt_X8_lengthStep (pc' := 3) (L' := [some (.ref 10), some (.int p1), some (.int 28)]) (st' := []) 2 rfl ?_
  refine l1_weak (m := [false, true, true]) (L' := [none, some (.int p1), some (.int 28)]) rfl ?_
  exact ok_X8_lengthStep_3 hQ N p1 N c 28
theorem ok_X8_lengthStep {Q : hS → am_H → Prop} (hQ : l1_em kc Q) (N : Nat) (c : hS) (p1 : Int32) : l1_T wI Q am_i_X8_lengthStep [.ref 10, .int p1] c (f_X8_lengthStep N c p1) := l1_of (en_X8_lengthStep hQ N c p1) ⟨rfl, rfl, trivial⟩
set_option maxRecDepth 100000 in
theorem ok_X8_longestBefore_67 {Q : hS → am_H → Prop} (hQ : l1_em kc Q) (N : Nat) (p1 : Nat) (p2 : Int32) (hp1 : kc p1 = 1) {k21 : hS → Int32 → Int32 → Int32 → Option (Int32 × hS)} (hk21 : ∀ c v3 v4 v5, l1_G (wN wI) Q am_i_X8_longestBefore 21 [some (.ref 10), some (.ref p1), some (.int p2), some (.int v3), some (.int v4), some (.int v5)] [] c (k21 c v3 v4 v5)) : ∀ (c : hS) (v3 : Int32) (v4 : Int32) (v5 : Int32) (v6 : Int32), l1_G (wN wI) Q am_i_X8_longestBefore 67 [some (.ref 10), some (.ref p1), some (.int p2), some (.int v3), some (.int v4), some (.int v5), some (.int v6)] [] c (f_X8_longestBefore_67 N p1 p2 k21 c v3 v4 v5 v6) := by
  intro c v3 v4 v5 v6
  rw [f_X8_longestBefore_67]
  refine l1_many mt_X8_longestBefore (pc' := bif am_cc .le v6 v4 then 86 else 74) (L' := [some (.ref 10), some (.ref p1), some (.int p2), some (.int v3), some (.int v4), some (.int v5), some (.int v6)]) (st' := []) 3 rfl ?_
  refine l1_bif rfl ?_ ?_
  · refine l1_many mt_X8_longestBefore (pc' := 21) (L' := [some (.ref 10), some (.ref p1), some (.int p2), some (.int v3), some (.int v4), some (.int (v5 + (-1))), some (.int v6)]) (st' := []) 2 rfl ?_
    refine l1_weak (m := [true, true, true, true, true, true, false]) (L' := [some (.ref 10), some (.ref p1), some (.int p2), some (.int v3), some (.int v4), some (.int (v5 + (-1)))]) rfl ?_
    exact hk21 c v3 v4 (v5 + (-1))
  · refine l1_many mt_X8_longestBefore (pc' := 83) (L' := [some (.ref 10), some (.ref p1), some (.int p2), some (.int v3), some (.int v6), some (.int v5), some (.int v6)]) (st' := [.int (p2 - v5), .ref 10]) 6 rfl ?_
    refine l1_putI hQ mt_X8_longestBefore rfl (o := 10) (ci := 7) (k := 3) (a := 0) rfl rfl rfl rfl rfl rfl (fun c1 => ?_)
    refine l1_many mt_X8_longestBefore (pc' := 21) (L' := [some (.ref 10), some (.ref p1), some (.int p2), some (.int v3), some (.int v6), some (.int (v5 + (-1))), some (.int v6)]) (st' := []) 2 rfl ?_
    refine l1_weak (m := [true, true, true, true, true, true, false]) (L' := [some (.ref 10), some (.ref p1), some (.int p2), some (.int v3), some (.int v6), some (.int (v5 + (-1)))]) rfl ?_
    exact hk21 c1 v3 v6 (v5 + (-1))
set_option maxRecDepth 100000 in
theorem ok_X8_longestBefore_35 {Q : hS → am_H → Prop} (hQ : l1_em kc Q) (N : Nat) (p1 : Nat) (p2 : Int32) (hp1 : kc p1 = 1) {k21 : hS → Int32 → Int32 → Int32 → Option (Int32 × hS)} (hk21 : ∀ c v3 v4 v5, l1_G (wN wI) Q am_i_X8_longestBefore 21 [some (.ref 10), some (.ref p1), some (.int p2), some (.int v3), some (.int v4), some (.int v5)] [] c (k21 c v3 v4 v5)) : ∀ n : Nat, ∀ (c : hS) (v3 : Int32) (v4 : Int32) (v5 : Int32) (v6 : Int32), l1_G (wN wI) Q am_i_X8_longestBefore 35 [some (.ref 10), some (.ref p1), some (.int p2), some (.int v3), some (.int v4), some (.int v5), some (.int v6)] [] c (f_X8_longestBefore_35 N p1 p2 k21 n c v3 v4 v5 v6) := by
  intro n
  induction n with
  | zero => intro c v3 v4 v5 v6; exact l1_none
  | succ n ih =>
    intro c v3 v4 v5 v6
    rw [f_X8_longestBefore_35]
    refine l1_many mt_X8_longestBefore (pc' := bif am_cc .ge v6 v3 then 67 else 41) (L' := [some (.ref 10), some (.ref p1), some (.int p2), some (.int v3), some (.int v4), some (.int v5), some (.int v6)]) (st' := []) 3 rfl ?_
    refine l1_bif rfl ?_ ?_
    · exact ok_X8_longestBefore_67 hQ N p1 p2 hp1 hk21 c v3 v4 v5 v6
    · refine l1_many mt_X8_longestBefore (pc' := 47) (L' := [some (.ref 10), some (.ref p1), some (.int p2), some (.int v3), some (.int v4), some (.int v5), some (.int v6)]) (st' := [.int (v5 + v6), .ref p1]) 4 rfl ?_
      refine l1_callV hQ mt_X8_longestBefore mt_X2_get rfl rfl (o := p1) (ci := 1) (As := [.int (v5 + v6)]) (rest := []) rfl rfl hp1 rfl rfl rfl (st1 := fun x1 => [.int x1]) (fun _ => rfl) (ok_X2_get hQ c p1 (v5 + v6) hp1) (fun x1 c2 => ?_)
      refine l1_many mt_X8_longestBefore (pc' := 55) (L' := [some (.ref 10), some (.ref p1), some (.int p2), some (.int v3), some (.int v4), some (.int v5), some (.int v6)]) (st' := [.int (p2 + v6), .ref p1, .int x1]) 4 rfl ?_
      refine l1_callV hQ mt_X8_longestBefore mt_X2_get rfl rfl (o := p1) (ci := 1) (As := [.int (p2 + v6)]) (rest := [.int x1]) rfl rfl hp1 rfl rfl rfl (st1 := fun x3 => [.int x3, .int x1]) (fun _ => rfl) (ok_X2_get hQ c2 p1 (p2 + v6) hp1) (fun x3 c4 => ?_)
      refine l1_many mt_X8_longestBefore (pc' := bif am_cc .ne x1 x3 then 67 else 61) (L' := [some (.ref 10), some (.ref p1), some (.int p2), some (.int v3), some (.int v4), some (.int v5), some (.int v6)]) (st' := []) 1 rfl ?_
      refine l1_bin rfl ?_ ?_
      · refine l1_many mt_X8_longestBefore (pc' := 35) (L' := [some (.ref 10), some (.ref p1), some (.int p2), some (.int v3), some (.int v4), some (.int v5), some (.int (v6 + 1))]) (st' := []) 2 rfl ?_
        exact ih c4 v3 v4 v5 (v6 + 1)
      · exact ok_X8_longestBefore_67 hQ N p1 p2 hp1 hk21 c4 v3 v4 v5 v6
set_option maxRecDepth 100000 in
theorem ok_X8_longestBefore_21 {Q : hS → am_H → Prop} (hQ : l1_em kc Q) (N : Nat) (p1 : Nat) (p2 : Int32) (hp1 : kc p1 = 1) : ∀ n : Nat, ∀ (c : hS) (v3 : Int32) (v4 : Int32) (v5 : Int32), l1_G (wN wI) Q am_i_X8_longestBefore 21 [some (.ref 10), some (.ref p1), some (.int p2), some (.int v3), some (.int v4), some (.int v5)] [] c (f_X8_longestBefore_21 N p1 p2 n c v3 v4 v5) := by
  intro n
  induction n with
  | zero => intro c v3 v4 v5; exact l1_none
  | succ n ih =>
    intro c v3 v4 v5
    rw [f_X8_longestBefore_21]
    refine l1_many mt_X8_longestBefore (pc' := bif am_cc .lt v5 0 then 92 else 26) (L' := [some (.ref 10), some (.ref p1), some (.int p2), some (.int v3), some (.int v4), some (.int v5)]) (st' := []) 2 rfl ?_
    refine l1_bif rfl ?_ ?_
    · refine l1_many mt_X8_longestBefore (pc' := 94) (L' := [some (.ref 10), some (.ref p1), some (.int p2), some (.int v3), some (.int v4), some (.int v5)]) (st' := [.int v4]) 1 rfl ?_
      exact l1_ret mt_X8_longestBefore rfl rfl rfl
    · refine l1_many mt_X8_longestBefore (pc' := bif am_cc .ge v4 v3 then 92 else 32) (L' := [some (.ref 10), some (.ref p1), some (.int p2), some (.int v3), some (.int v4), some (.int v5)]) (st' := []) 3 rfl ?_
      refine l1_bif rfl ?_ ?_
      · refine l1_many mt_X8_longestBefore (pc' := 94) (L' := [some (.ref 10), some (.ref p1), some (.int p2), some (.int v3), some (.int v4), some (.int v5)]) (st' := [.int v4]) 1 rfl ?_
        exact l1_ret mt_X8_longestBefore rfl rfl rfl
      · refine l1_many mt_X8_longestBefore (pc' := 35) (L' := [some (.ref 10), some (.ref p1), some (.int p2), some (.int v3), some (.int v4), some (.int v5), some (.int 0)]) (st' := []) 2 rfl ?_
        exact ok_X8_longestBefore_35 hQ N p1 p2 hp1 ih N c v3 v4 v5 0
set_option maxRecDepth 100000 in
theorem en_X8_longestBefore {Q : hS → am_H → Prop} (hQ : l1_em kc Q) (N : Nat) (c : hS) (p1 : Nat) (p2 : Int32) (hp1 : kc p1 = 1) : l1_G (wN wI) Q am_i_X8_longestBefore 0 [some (.ref 10), some (.ref p1), some (.int p2)] [] c (f_X8_longestBefore N c p1 p2) := by
  rw [f_X8_longestBefore]
  refine l1_many mt_X8_longestBefore (pc' := 4) (L' := [some (.ref 10), some (.ref p1), some (.int p2)]) (st' := [.ref p1, .int 258]) 2 rfl ?_
  refine l1_callV hQ mt_X8_longestBefore mt_X2_size rfl rfl (o := p1) (ci := 1) (As := []) (rest := [.int 258]) rfl rfl hp1 rfl rfl rfl (st1 := fun x1 => [.int x1, .int 258]) (fun _ => rfl) (ok_X2_size hQ c p1 hp1) (fun x1 c2 => ?_)
  refine l1_many mt_X8_longestBefore (pc' := 9) (L' := [some (.ref 10), some (.ref p1), some (.int p2)]) (st' := [.int (x1 - p2), .int 258]) 2 rfl ?_
  refine l1_min mt_X8_longestBefore rfl rfl rfl rfl ?_
  refine l1_many mt_X8_longestBefore (pc' := 21) (L' := [some (.ref 10), some (.ref p1), some (.int p2), some (.int (j_min 258 (x1 - p2))), some (.int 0), some (.int (p2 - 1))]) (st' := []) 7 rfl ?_
  exact ok_X8_longestBefore_21 hQ N p1 p2 hp1 N c2 (j_min 258 (x1 - p2)) 0 (p2 - 1)
theorem ok_X8_longestBefore {Q : hS → am_H → Prop} (hQ : l1_em kc Q) (N : Nat) (c : hS) (p1 : Nat) (p2 : Int32) (hp1 : kc p1 = 1) : l1_T wI Q am_i_X8_longestBefore [.ref 10, .ref p1, .int p2] c (f_X8_longestBefore N c p1 p2) := l1_of (en_X8_longestBefore hQ N c p1 p2 hp1) ⟨rfl, rfl, rfl, trivial⟩
set_option maxRecDepth 100000 in
theorem ok_X8_addPacked_24 {Q : hS → am_H → Prop} (hQ : l1_em kc Q) (N : Nat) (p1 : Nat) (hp1 : kc p1 = 1) : ∀ n : Nat, ∀ (c : hS) (v2 : Int32), l1_G (wN wV) Q am_i_X8_addPacked 24 [some (.ref 10), some (.ref p1), some (.int v2)] [] c (f_X8_addPacked_24 N p1 n c v2) := by
  intro n
  induction n with
  | zero => intro c v2; exact l1_none
  | succ n ih =>
    intro c v2
    rw [f_X8_addPacked_24]
    refine l1_many mt_X8_addPacked (pc' := 26) (L' := [some (.ref 10), some (.ref p1), some (.int v2)]) (st' := [.ref p1, .int v2]) 2 rfl ?_
    refine l1_callV hQ mt_X8_addPacked mt_X2_size rfl rfl (o := p1) (ci := 1) (As := []) (rest := [.int v2]) rfl rfl hp1 rfl rfl rfl (st1 := fun x1 => [.int x1, .int v2]) (fun _ => rfl) (ok_X2_size hQ c p1 hp1) (fun x1 c2 => ?_)
    refine l1_many mt_X8_addPacked (pc' := bif am_cc .ge v2 x1 then 131 else 32) (L' := [some (.ref 10), some (.ref p1), some (.int v2)]) (st' := []) 1 rfl ?_
    refine l1_bif rfl ?_ ?_
    · refine l1_many mt_X8_addPacked (pc' := 135) (L' := [some (.ref 10), some (.ref p1), some (.int v2)]) (st' := [.int 256, .ref 10]) 2 rfl ?_
      refine l1_callV hQ mt_X8_addPacked mt_X8_addSymbol rfl rfl (o := 10) (ci := 7) (As := [.int 256]) (rest := []) rfl rfl rfl rfl rfl rfl (st1 := fun _ => []) (fun _ => rfl) (ok_X8_addSymbol hQ N c2 256) (fun _ c3 => ?_)
      refine l1_many mt_X8_addPacked (pc' := 139) (L' := [some (.ref 10), some (.ref p1), some (.int v2)]) (st' := [.ref 10]) 1 rfl ?_
      refine l1_getI hQ mt_X8_addPacked rfl (o := 10) (ci := 7) (k := 2) (a := 0) (b := 0) rfl rfl rfl rfl rfl ?_
      refine l1_many mt_X8_addPacked (pc' := bif am_cc .le (c3.1 10 2) 0 then 156 else 145) (L' := [some (.ref 10), some (.ref p1), some (.int v2)]) (st' := []) 1 rfl ?_
      refine l1_bif rfl ?_ ?_
      · exact l1_ret mt_X8_addPacked rfl rfl rfl
      · refine l1_many mt_X8_addPacked (pc' := 146) (L' := [some (.ref 10), some (.ref p1), some (.int v2)]) (st' := [.ref 10]) 1 rfl ?_
        refine l1_getR hQ mt_X8_addPacked rfl (o := 10) (ci := 7) (k := 0) (a := 0) (b := 1) rfl rfl rfl rfl rfl (q := 3) rfl ?_
        refine l1_many mt_X8_addPacked (pc' := 150) (L' := [some (.ref 10), some (.ref p1), some (.int v2)]) (st' := [.ref 10, .ref 3]) 1 rfl ?_
        refine l1_getI hQ mt_X8_addPacked rfl (o := 10) (ci := 7) (k := 1) (a := 0) (b := 0) rfl rfl rfl rfl rfl ?_
        refine l1_callV hQ mt_X8_addPacked mt_X2_add rfl rfl (o := 3) (ci := 1) (As := [.int (c3.1 10 1)]) (rest := []) rfl rfl rfl rfl rfl rfl (st1 := fun _ => []) (fun _ => rfl) (ok_X2_add hQ c3 3 (c3.1 10 1) rfl) (fun _ c4 => ?_)
        exact l1_ret mt_X8_addPacked rfl rfl rfl
    · refine l1_many mt_X8_addPacked (pc' := 35) (L' := [some (.ref 10), some (.ref p1), some (.int v2)]) (st' := [.int v2, .ref p1, .ref 10]) 3 rfl ?_
      refine l1_callV hQ mt_X8_addPacked mt_X8_longestBefore rfl rfl (o := 10) (ci := 7) (As := [.ref p1, .int v2]) (rest := []) rfl rfl rfl rfl rfl rfl (st1 := fun x5 => [.int x5]) (fun _ => rfl) (ok_X8_longestBefore hQ N c2 p1 v2 hp1) (fun x5 c6 => ?_)
      refine l1_many mt_X8_addPacked (pc' := bif am_cc .lt x5 3 then 116 else 44) (L' := [some (.ref 10), some (.ref p1), some (.int v2), some (.int x5)]) (st' := []) 4 rfl ?_
      refine l1_bif rfl ?_ ?_
      · refine l1_many mt_X8_addPacked (pc' := 119) (L' := [some (.ref 10), some (.ref p1), some (.int v2), some (.int x5)]) (st' := [.int v2, .ref p1, .ref 10]) 3 rfl ?_
        refine l1_callV hQ mt_X8_addPacked mt_X2_get rfl rfl (o := p1) (ci := 1) (As := [.int v2]) (rest := [.ref 10]) rfl rfl hp1 rfl rfl rfl (st1 := fun x7 => [.int x7, .ref 10]) (fun _ => rfl) (ok_X2_get hQ c6 p1 v2 hp1) (fun x7 c8 => ?_)
        refine l1_callV hQ mt_X8_addPacked mt_X8_addSymbol rfl rfl (o := 10) (ci := 7) (As := [.int x7]) (rest := []) rfl rfl rfl rfl rfl rfl (st1 := fun _ => []) (fun _ => rfl) (ok_X8_addSymbol hQ N c8 x7) (fun _ c9 => ?_)
        refine l1_many mt_X8_addPacked (pc' := 24) (L' := [some (.ref 10), some (.ref p1), some (.int (v2 + 1)), some (.int x5)]) (st' := []) 2 rfl ?_
        refine l1_weak (m := [true, true, true, false, false, false]) (L' := [some (.ref 10), some (.ref p1), some (.int (v2 + 1))]) rfl ?_
        exact ih c9 (v2 + 1)
      · refine l1_many mt_X8_addPacked (pc' := 46) (L' := [some (.ref 10), some (.ref p1), some (.int v2), some (.int x5)]) (st' := [.int x5, .ref 10]) 2 rfl ?_
        refine l1_callV hQ mt_X8_addPacked mt_X8_lengthStep rfl rfl (o := 10) (ci := 7) (As := [.int x5]) (rest := []) rfl rfl rfl rfl rfl rfl (st1 := fun x10 => [.int x10]) (fun _ => rfl) (ok_X8_lengthStep hQ N c6 x5) (fun x10 c11 => ?_)
        refine l1_many mt_X8_addPacked (pc' := 58) (L' := [some (.ref 10), some (.ref p1), some (.int v2), some (.int x5), some (.int x10)]) (st' := [.int (257 + x10), .ref 10]) 5 rfl ?_
        refine l1_callV hQ mt_X8_addPacked mt_X8_addSymbol rfl rfl (o := 10) (ci := 7) (As := [.int (257 + x10)]) (rest := []) rfl rfl rfl rfl rfl rfl (st1 := fun _ => []) (fun _ => rfl) (ok_X8_addSymbol hQ N c11 (257 + x10)) (fun _ c12 => ?_)
        refine l1_many mt_X8_addPacked (pc' := 65) (L' := [some (.ref 10), some (.ref p1), some (.int v2), some (.int x5), some (.int x10)]) (st' := [.int x10, .int x5, .ref 10]) 3 rfl ?_
        refine l1_callS mt_X8_addPacked mt_X11_lengthBase rfl rfl (As := [.int x10]) (rest := [.int x5, .ref 10]) rfl rfl rfl (st1 := fun x13 => [.int x13, .int x5, .ref 10]) (fun _ => rfl) (ok_X11_lengthBase hQ c12 x10) (fun x13 c14 => ?_)
        refine l1_many mt_X8_addPacked (pc' := 71) (L' := [some (.ref 10), some (.ref p1), some (.int v2), some (.int x5), some (.int x10)]) (st' := [.int x10, .int (x5 - x13), .ref 10]) 2 rfl ?_
        refine l1_callS mt_X8_addPacked mt_X11_lengthBits rfl rfl (As := [.int x10]) (rest := [.int (x5 - x13), .ref 10]) rfl rfl rfl (st1 := fun x15 => [.int x15, .int (x5 - x13), .ref 10]) (fun _ => rfl) (ok_X11_lengthBits hQ c14 x10) (fun x15 c16 => ?_)
        refine l1_callV hQ mt_X8_addPacked mt_X8_addBits rfl rfl (o := 10) (ci := 7) (As := [.int (x5 - x13), .int x15]) (rest := []) rfl rfl rfl rfl rfl rfl (st1 := fun _ => []) (fun _ => rfl) (ok_X8_addBits hQ N c16 (x5 - x13) x15) (fun _ c17 => ?_)
        refine l1_many mt_X8_addPacked (pc' := 78) (L' := [some (.ref 10), some (.ref p1), some (.int v2), some (.int x5), some (.int x10)]) (st' := [.ref 10]) 1 rfl ?_
        refine l1_callV hQ mt_X8_addPacked mt_X8_distanceSymbol rfl rfl (o := 10) (ci := 7) (As := []) (rest := []) rfl rfl rfl rfl rfl rfl (st1 := fun x18 => [.int x18]) (fun _ => rfl) (ok_X8_distanceSymbol hQ N c17) (fun x18 c19 => ?_)
        refine l1_many mt_X8_addPacked (pc' := 87) (L' := [some (.ref 10), some (.ref p1), some (.int v2), some (.int x5), some (.int x10), some (.int x18)]) (st' := [.int 5, .int x18, .ref 10]) 4 rfl ?_
        refine l1_callV hQ mt_X8_addPacked mt_X8_addCode rfl rfl (o := 10) (ci := 7) (As := [.int x18, .int 5]) (rest := []) rfl rfl rfl rfl rfl rfl (st1 := fun _ => []) (fun _ => rfl) (ok_X8_addCode hQ N c19 x18 5) (fun _ c20 => ?_)
        refine l1_many mt_X8_addPacked (pc' := 92) (L' := [some (.ref 10), some (.ref p1), some (.int v2), some (.int x5), some (.int x10), some (.int x18)]) (st' := [.ref 10, .ref 10]) 2 rfl ?_
        refine l1_getI hQ mt_X8_addPacked rfl (o := 10) (ci := 7) (k := 3) (a := 0) (b := 0) rfl rfl rfl rfl rfl ?_
        refine l1_many mt_X8_addPacked (pc' := 97) (L' := [some (.ref 10), some (.ref p1), some (.int v2), some (.int x5), some (.int x10), some (.int x18)]) (st' := [.int x18, .int (c20.1 10 3), .ref 10]) 1 rfl ?_
        refine l1_callS mt_X8_addPacked mt_X11_distanceBase rfl rfl (As := [.int x18]) (rest := [.int (c20.1 10 3), .ref 10]) rfl rfl rfl (st1 := fun x21 => [.int x21, .int (c20.1 10 3), .ref 10]) (fun _ => rfl) (ok_X11_distanceBase hQ c20 x18) (fun x21 c22 => ?_)
        refine l1_many mt_X8_addPacked (pc' := 103) (L' := [some (.ref 10), some (.ref p1), some (.int v2), some (.int x5), some (.int x10), some (.int x18)]) (st' := [.int x18, .int ((c20.1 10 3) - x21), .ref 10]) 2 rfl ?_
        refine l1_callS mt_X8_addPacked mt_X11_distanceBits rfl rfl (As := [.int x18]) (rest := [.int ((c20.1 10 3) - x21), .ref 10]) rfl rfl rfl (st1 := fun x23 => [.int x23, .int ((c20.1 10 3) - x21), .ref 10]) (fun _ => rfl) (ok_X11_distanceBits hQ c22 x18) (fun x23 c24 => ?_)
        refine l1_callV hQ mt_X8_addPacked mt_X8_addBits rfl rfl (o := 10) (ci := 7) (As := [.int ((c20.1 10 3) - x21), .int x23]) (rest := []) rfl rfl rfl rfl rfl rfl (st1 := fun _ => []) (fun _ => rfl) (ok_X8_addBits hQ N c24 ((c20.1 10 3) - x21) x23) (fun _ c25 => ?_)
        refine l1_many mt_X8_addPacked (pc' := 24) (L' := [some (.ref 10), some (.ref p1), some (.int (v2 + x5)), some (.int x5), some (.int x10), some (.int x18)]) (st' := []) 6 rfl ?_
        refine l1_weak (m := [true, true, true, false, false, false]) (L' := [some (.ref 10), some (.ref p1), some (.int (v2 + x5))]) rfl ?_
        exact ih c25 (v2 + x5)
set_option maxRecDepth 100000 in
theorem en_X8_addPacked {Q : hS → am_H → Prop} (hQ : l1_em kc Q) (N : Nat) (c : hS) (p1 : Nat) (hp1 : kc p1 = 1) : l1_G (wN wV) Q am_i_X8_addPacked 0 [some (.ref 10), some (.ref p1)] [] c (f_X8_addPacked N c p1) := by
  rw [f_X8_addPacked]
  refine l1_many mt_X8_addPacked (pc' := 2) (L' := [some (.ref 10), some (.ref p1)]) (st' := [.int 0, .ref 10]) 2 rfl ?_
  refine l1_putI hQ mt_X8_addPacked rfl (o := 10) (ci := 7) (k := 1) (a := 0) rfl rfl rfl rfl rfl rfl (fun c1 => ?_)
  refine l1_many mt_X8_addPacked (pc' := 7) (L' := [some (.ref 10), some (.ref p1)]) (st' := [.int 0, .ref 10]) 2 rfl ?_
  refine l1_putI hQ mt_X8_addPacked rfl (o := 10) (ci := 7) (k := 2) (a := 0) rfl rfl rfl rfl rfl rfl (fun c2 => ?_)
  refine l1_many mt_X8_addPacked (pc' := 13) (L' := [some (.ref 10), some (.ref p1)]) (st' := [.int 1, .int 1, .ref 10]) 3 rfl ?_
  refine l1_callV hQ mt_X8_addPacked mt_X8_addBits rfl rfl (o := 10) (ci := 7) (As := [.int 1, .int 1]) (rest := []) rfl rfl rfl rfl rfl rfl (st1 := fun _ => []) (fun _ => rfl) (ok_X8_addBits hQ N c2 1 1) (fun _ c3 => ?_)
  refine l1_many mt_X8_addPacked (pc' := 19) (L' := [some (.ref 10), some (.ref p1)]) (st' := [.int 2, .int 1, .ref 10]) 3 rfl ?_
  refine l1_callV hQ mt_X8_addPacked mt_X8_addBits rfl rfl (o := 10) (ci := 7) (As := [.int 1, .int 2]) (rest := []) rfl rfl rfl rfl rfl rfl (st1 := fun _ => []) (fun _ => rfl) (ok_X8_addBits hQ N c3 1 2) (fun _ c4 => ?_)
  refine l1_many mt_X8_addPacked (pc' := 24) (L' := [some (.ref 10), some (.ref p1), some (.int 0)]) (st' := []) 2 rfl ?_
  exact ok_X8_addPacked_24 hQ N p1 hp1 N c4 0
theorem ok_X8_addPacked {Q : hS → am_H → Prop} (hQ : l1_em kc Q) (N : Nat) (c : hS) (p1 : Nat) (hp1 : kc p1 = 1) : l1_T wV Q am_i_X8_addPacked [.ref 10, .ref p1] c (f_X8_addPacked N c p1) := l1_of (en_X8_addPacked hQ N c p1 hp1) ⟨rfl, rfl, trivial⟩
set_option maxRecDepth 100000 in
theorem ok_X5_layOut_120 {Q : hS → am_H → Prop} (hQ : l1_em kc Q) (N : Nat) (p1 : Nat) (p2 : Int32) (hp1 : kc p1 = 8) {k2 : hS → Int32 → Option (Unit × hS)} (hk2 : ∀ c v3, l1_G (wN wV) Q am_i_X5_layOut 2 [some (.ref 36), some (.ref p1), some (.int p2), some (.int v3)] [] c (k2 c v3)) : ∀ (c : hS) (v3 : Int32) (v5 : Int32) (v7 : Int32), l1_G (wN wV) Q am_i_X5_layOut 120 [some (.ref 36), some (.ref p1), some (.int p2), some (.int v3), none, some (.int v5), none, some (.int v7)] [] c (f_X5_layOut_120 N p1 p2 k2 c v3 v5 v7) := by
  intro c v3 v5 v7
  rw [f_X5_layOut_120]
  refine l1_many mt_X5_layOut (pc' := 124) (L' := [some (.ref 36), some (.ref p1), some (.int p2), some (.int v3), none, some (.int v5), none, some (.int v7)]) (st' := [.ref 36, .int v5, .ref 36]) 3 rfl ?_
  refine l1_getR hQ mt_X5_layOut rfl (o := 36) (ci := 4) (k := 0) (a := 1) (b := 2) rfl rfl rfl rfl rfl (q := 3) rfl ?_
  refine l1_callV hQ mt_X5_layOut mt_X2_size rfl rfl (o := 3) (ci := 1) (As := []) (rest := [.int v5, .ref 36]) rfl rfl rfl rfl rfl rfl (st1 := fun x1 => [.int x1, .int v5, .ref 36]) (fun _ => rfl) (ok_X2_size hQ c 3 rfl) (fun x1 c2 => ?_)
  refine l1_many mt_X5_layOut (pc' := 133) (L' := [some (.ref 36), some (.ref p1), some (.int p2), some (.int v3), none, some (.int v5), none, some (.int v7)]) (st' := [.int (x1 - v7), .int v5, .ref 36]) 2 rfl ?_
  refine l1_callV hQ mt_X5_layOut mt_X5_setSize rfl rfl (o := 36) (ci := 4) (As := [.int v5, .int (x1 - v7)]) (rest := []) rfl rfl rfl rfl rfl rfl (st1 := fun _ => []) (fun _ => rfl) (ok_X5_setSize hQ N c2 v5 (x1 - v7)) (fun _ c3 => ?_)
  refine l1_many mt_X5_layOut (pc' := 2) (L' := [some (.ref 36), some (.ref p1), some (.int p2), some (.int (v3 + 1)), none, some (.int v5), none, some (.int v7)]) (st' := []) 2 rfl ?_
  refine l1_weak (m := [true, true, true, true, false, false, false, false]) (L' := [some (.ref 36), some (.ref p1), some (.int p2), some (.int (v3 + 1))]) rfl ?_
  exact hk2 c3 (v3 + 1)
set_option maxRecDepth 100000 in
theorem ok_X5_layOut_67 {Q : hS → am_H → Prop} (hQ : l1_em kc Q) (N : Nat) (p1 : Nat) (p2 : Int32) (hp1 : kc p1 = 8) {k2 : hS → Int32 → Option (Unit × hS)} (hk2 : ∀ c v3, l1_G (wN wV) Q am_i_X5_layOut 2 [some (.ref 36), some (.ref p1), some (.int p2), some (.int v3)] [] c (k2 c v3)) : ∀ (c : hS) (v3 : Int32) (v4 : Nat) (v5 : Int32) (v6 : Int32) (w0 : Int32) (w1 : Nat) (hv4 : kc v4 = 6) (hw1 : kc w1 = 6), l1_G (wN wV) Q am_i_X5_layOut 67 [some (.ref 36), some (.ref p1), some (.int p2), some (.int v3), some (.ref v4), some (.int v5), some (.int v6)] [.int w0, .ref w1, .ref 36] c (f_X5_layOut_67 N p1 p2 k2 c v3 v4 v5 v6 w0 w1) := by
  intro c v3 v4 v5 v6 w0 w1 hv4 hw1
  rw [f_X5_layOut_67]
  refine l1_callV hQ mt_X5_layOut mt_X5_addLocal rfl rfl (o := 36) (ci := 4) (As := [.ref w1, .int w0]) (rest := []) rfl rfl rfl rfl rfl rfl (st1 := fun _ => []) (fun _ => rfl) (ok_X5_addLocal hQ N c w1 w0 hw1) (fun _ c1 => ?_)
  refine l1_many mt_X5_layOut (pc' := 71) (L' := [some (.ref 36), some (.ref p1), some (.int p2), some (.int v3), some (.ref v4), some (.int v5), some (.int v6)]) (st' := [.ref 36]) 1 rfl ?_
  refine l1_getR hQ mt_X5_layOut rfl (o := 36) (ci := 4) (k := 0) (a := 1) (b := 2) rfl rfl rfl rfl rfl (q := 3) rfl ?_
  refine l1_callV hQ mt_X5_layOut mt_X2_size rfl rfl (o := 3) (ci := 1) (As := []) (rest := []) rfl rfl rfl rfl rfl rfl (st1 := fun x2 => [.int x2]) (fun _ => rfl) (ok_X2_size hQ c1 3 rfl) (fun x2 c3 => ?_)
  refine l1_many mt_X5_layOut (pc' := bif am_cc .eq v6 0 then 99 else 84) (L' := [some (.ref 36), some (.ref p1), some (.int p2), some (.int v3), some (.ref v4), some (.int v5), some (.int v6), some (.int x2)]) (st' := []) 3 rfl ?_
  refine l1_bif rfl ?_ ?_
  · refine l1_many mt_X5_layOut (pc' := 100) (L' := [some (.ref 36), some (.ref p1), some (.int p2), some (.int v3), some (.ref v4), some (.int v5), some (.int v6), some (.int x2)]) (st' := [.ref 36]) 1 rfl ?_
    refine l1_getR hQ mt_X5_layOut rfl (o := 36) (ci := 4) (k := 0) (a := 1) (b := 2) rfl rfl rfl rfl rfl (q := 3) rfl ?_
    refine l1_many mt_X5_layOut (pc' := 105) (L' := [some (.ref 36), some (.ref p1), some (.int p2), some (.int v3), some (.ref v4), some (.int v5), some (.int v6), some (.int x2)]) (st' := [.ref v4, .ref 3]) 1 rfl ?_
    refine l1_getR hQ mt_X5_layOut rfl (o := v4) (ci := 6) (k := 1) (a := 2) (b := 2) hv4 rfl rfl rfl rfl (q := (v4 + 3)) rfl ?_
    refine l1_many mt_X5_layOut (pc' := 111) (L' := [some (.ref 36), some (.ref p1), some (.int p2), some (.int v3), some (.ref v4), some (.int v5), some (.int v6), some (.int x2)]) (st' := [.ref v4, .int 0, .ref (v4 + 3), .ref 3]) 2 rfl ?_
    refine l1_getR hQ mt_X5_layOut rfl (o := v4) (ci := 6) (k := 1) (a := 2) (b := 2) hv4 rfl rfl rfl rfl (q := (v4 + 3)) rfl ?_
    refine l1_callV hQ mt_X5_layOut mt_X2_size rfl rfl (o := (v4 + 3)) (ci := 1) (As := []) (rest := [.int 0, .ref (v4 + 3), .ref 3]) rfl rfl (kc6_1 hv4) rfl rfl rfl (st1 := fun x4 => [.int x4, .int 0, .ref (v4 + 3), .ref 3]) (fun _ => rfl) (ok_X2_size hQ c3 (v4 + 3) (kc6_1 hv4)) (fun x4 c5 => ?_)
    refine l1_callV hQ mt_X5_layOut mt_X2_addRow rfl rfl (o := 3) (ci := 1) (As := [.ref (v4 + 3), .int 0, .int x4]) (rest := []) rfl rfl rfl rfl rfl rfl (st1 := fun _ => []) (fun _ => rfl) (ok_X2_addRow hQ N c5 3 (v4 + 3) 0 x4 rfl (kc6_1 hv4)) (fun _ c6 => ?_)
    refine l1_weak (m := [true, true, true, true, false, true, false, true]) (L' := [some (.ref 36), some (.ref p1), some (.int p2), some (.int v3), none, some (.int v5), none, some (.int x2)]) rfl ?_
    exact ok_X5_layOut_120 hQ N p1 p2 hp1 hk2 c6 v3 v5 x2
  · refine l1_many mt_X5_layOut (pc' := 85) (L' := [some (.ref 36), some (.ref p1), some (.int p2), some (.int v3), some (.ref v4), some (.int v5), some (.int v6), some (.int x2)]) (st' := [.ref 36]) 1 rfl ?_
    refine l1_getR hQ mt_X5_layOut rfl (o := 36) (ci := 4) (k := 3) (a := 0) (b := 1) rfl rfl rfl rfl rfl (q := 10) rfl ?_
    refine l1_many mt_X5_layOut (pc' := 90) (L' := [some (.ref 36), some (.ref p1), some (.int p2), some (.int v3), some (.ref v4), some (.int v5), some (.int v6), some (.int x2)]) (st' := [.ref v4, .ref 10]) 1 rfl ?_
    refine l1_getR hQ mt_X5_layOut rfl (o := v4) (ci := 6) (k := 1) (a := 2) (b := 2) hv4 rfl rfl rfl rfl (q := (v4 + 3)) rfl ?_
    refine l1_callV hQ mt_X5_layOut mt_X8_addPacked rfl rfl (o := 10) (ci := 7) (As := [.ref (v4 + 3)]) (rest := []) rfl rfl rfl rfl rfl rfl (st1 := fun _ => []) (fun _ => rfl) (ok_X8_addPacked hQ N c3 (v4 + 3) (kc6_1 hv4)) (fun _ c7 => ?_)
    refine l1_many mt_X5_layOut (pc' := 120) (L' := [some (.ref 36), some (.ref p1), some (.int p2), some (.int v3), some (.ref v4), some (.int v5), some (.int v6), some (.int x2)]) (st' := []) 1 rfl ?_
    refine l1_weak (m := [true, true, true, true, false, true, false, true]) (L' := [some (.ref 36), some (.ref p1), some (.int p2), some (.int v3), none, some (.int v5), none, some (.int x2)]) rfl ?_
    exact ok_X5_layOut_120 hQ N p1 p2 hp1 hk2 c7 v3 v5 x2
set_option maxRecDepth 100000 in
theorem ok_X5_layOut_51 {Q : hS → am_H → Prop} (hQ : l1_em kc Q) (N : Nat) (p1 : Nat) (p2 : Int32) (hp1 : kc p1 = 8) {k2 : hS → Int32 → Option (Unit × hS)} (hk2 : ∀ c v3, l1_G (wN wV) Q am_i_X5_layOut 2 [some (.ref 36), some (.ref p1), some (.int p2), some (.int v3)] [] c (k2 c v3)) : ∀ (c : hS) (v3 : Int32) (v4 : Nat) (v5 : Int32) (w0 : Int32) (hv4 : kc v4 = 6), l1_G (wN wV) Q am_i_X5_layOut 51 [some (.ref 36), some (.ref p1), some (.int p2), some (.int v3), some (.ref v4), some (.int v5)] [.int w0] c (f_X5_layOut_51 N p1 p2 k2 c v3 v4 v5 w0) := by
  intro c v3 v4 v5 w0 hv4
  rw [f_X5_layOut_51]
  refine l1_many mt_X5_layOut (pc' := bif am_cc .eq w0 0 then 66 else 61) (L' := [some (.ref 36), some (.ref p1), some (.int p2), some (.int v3), some (.ref v4), some (.int v5), some (.int w0)]) (st' := [.ref v4, .ref 36]) 5 rfl ?_
  refine l1_bif rfl ?_ ?_
  · refine l1_many mt_X5_layOut (pc' := 67) (L' := [some (.ref 36), some (.ref p1), some (.int p2), some (.int v3), some (.ref v4), some (.int v5), some (.int w0)]) (st' := [.int 0, .ref v4, .ref 36]) 1 rfl ?_
    exact ok_X5_layOut_67 hQ N p1 p2 hp1 hk2 c v3 v4 v5 w0 0 v4 hv4 hv4
  · refine l1_many mt_X5_layOut (pc' := 67) (L' := [some (.ref 36), some (.ref p1), some (.int p2), some (.int v3), some (.ref v4), some (.int v5), some (.int w0)]) (st' := [.int 8, .ref v4, .ref 36]) 2 rfl ?_
    exact ok_X5_layOut_67 hQ N p1 p2 hp1 hk2 c v3 v4 v5 w0 8 v4 hv4 hv4
set_option maxRecDepth 100000 in
theorem ok_X5_layOut_50 {Q : hS → am_H → Prop} (hQ : l1_em kc Q) (N : Nat) (p1 : Nat) (p2 : Int32) (hp1 : kc p1 = 8) {k2 : hS → Int32 → Option (Unit × hS)} (hk2 : ∀ c v3, l1_G (wN wV) Q am_i_X5_layOut 2 [some (.ref 36), some (.ref p1), some (.int p2), some (.int v3)] [] c (k2 c v3)) : ∀ (c : hS) (v3 : Int32) (v4 : Nat) (v5 : Int32) (hv4 : kc v4 = 6), l1_G (wN wV) Q am_i_X5_layOut 50 [some (.ref 36), some (.ref p1), some (.int p2), some (.int v3), some (.ref v4), some (.int v5)] [] c (f_X5_layOut_50 N p1 p2 k2 c v3 v4 v5) := by
  intro c v3 v4 v5 hv4
  rw [f_X5_layOut_50]
  refine l1_many mt_X5_layOut (pc' := 51) (L' := [some (.ref 36), some (.ref p1), some (.int p2), some (.int v3), some (.ref v4), some (.int v5)]) (st' := [.int 0]) 1 rfl ?_
  exact ok_X5_layOut_51 hQ N p1 p2 hp1 hk2 c v3 v4 v5 0 hv4
set_option maxRecDepth 100000 in
theorem ok_X5_layOut_2 {Q : hS → am_H → Prop} (hQ : l1_em kc Q) (N : Nat) (p1 : Nat) (p2 : Int32) (hp1 : kc p1 = 8) : ∀ n : Nat, ∀ (c : hS) (v3 : Int32), l1_G (wN wV) Q am_i_X5_layOut 2 [some (.ref 36), some (.ref p1), some (.int p2), some (.int v3)] [] c (f_X5_layOut_2 N p1 p2 n c v3) := by
  intro n
  induction n with
  | zero => intro c v3; exact l1_none
  | succ n ih =>
    intro c v3
    rw [f_X5_layOut_2]
    refine l1_many mt_X5_layOut (pc' := 4) (L' := [some (.ref 36), some (.ref p1), some (.int p2), some (.int v3)]) (st' := [.ref p1, .int v3]) 2 rfl ?_
    refine l1_callV hQ mt_X5_layOut mt_X9_size rfl rfl (o := p1) (ci := 8) (As := []) (rest := [.int v3]) rfl rfl hp1 rfl rfl rfl (st1 := fun x1 => [.int x1, .int v3]) (fun _ => rfl) (ok_X9_size hQ c p1 hp1) (fun x1 c2 => ?_)
    refine l1_many mt_X5_layOut (pc' := bif am_cc .ge v3 x1 then 142 else 10) (L' := [some (.ref 36), some (.ref p1), some (.int p2), some (.int v3)]) (st' := []) 1 rfl ?_
    refine l1_bif rfl ?_ ?_
    · refine l1_many mt_X5_layOut (pc' := 144) (L' := [some (.ref 36), some (.ref p1), some (.int p2), some (.int v3)]) (st' := [.ref p1, .ref 36]) 2 rfl ?_
      refine l1_callV hQ mt_X5_layOut mt_X5_addEntries rfl rfl (o := 36) (ci := 4) (As := [.ref p1]) (rest := []) rfl rfl rfl rfl rfl rfl (st1 := fun _ => []) (fun _ => rfl) (ok_X5_addEntries hQ N c2 p1 hp1) (fun _ c3 => ?_)
      exact l1_ret mt_X5_layOut rfl rfl rfl
    · refine l1_many mt_X5_layOut (pc' := 12) (L' := [some (.ref 36), some (.ref p1), some (.int p2), some (.int v3)]) (st' := [.int v3, .ref p1]) 2 rfl ?_
      refine l1_callV hQ mt_X5_layOut mt_X9_member rfl rfl (o := p1) (ci := 8) (As := [.int v3]) (rest := []) rfl rfl hp1 rfl rfl rfl (st1 := fun x4 => l1_mv x4 :: []) (fun _ => rfl) (ok_X9_member hQ c2 p1 v3 hp1) (fun x4 c5 => ?_)
      refine l1_opt (x := x4) ?_ (fun y6 => ?_)
      · refine l1_many mt_X5_layOut (pc' := 2) (L' := [some (.ref 36), some (.ref p1), some (.int p2), some (.int (v3 + 1)), some (.null)]) (st' := []) 5 rfl ?_
        refine l1_weak (m := [true, true, true, true, false, false, false, false]) (L' := [some (.ref 36), some (.ref p1), some (.int p2), some (.int (v3 + 1))]) rfl ?_
        exact ih c5 (v3 + 1)
      · refine l1_ck (fun hy => ?_)
        have hy6 : kc y6 = 6 := Nat.eq_of_beq_eq_true hy
        refine l1_many mt_X5_layOut (pc' := 23) (L' := [some (.ref 36), some (.ref p1), some (.int p2), some (.int v3), some (.ref y6)]) (st' := [.ref 36]) 4 rfl ?_
        refine l1_getR hQ mt_X5_layOut rfl (o := 36) (ci := 4) (k := 0) (a := 1) (b := 2) rfl rfl rfl rfl rfl (q := 3) rfl ?_
        refine l1_callV hQ mt_X5_layOut mt_X2_size rfl rfl (o := 3) (ci := 1) (As := []) (rest := []) rfl rfl rfl rfl rfl rfl (st1 := fun x7 => [.int x7]) (fun _ => rfl) (ok_X2_size hQ c5 3 rfl) (fun x7 c8 => ?_)
        refine l1_many mt_X5_layOut (pc' := bif am_cc .eq p2 0 then 50 else 35) (L' := [some (.ref 36), some (.ref p1), some (.int p2), some (.int v3), some (.ref y6), some (.int x7)]) (st' := []) 3 rfl ?_
        refine l1_bif rfl ?_ ?_
        · exact ok_X5_layOut_50 hQ N p1 p2 hp1 ih c8 v3 y6 x7 hy6
        · refine l1_many mt_X5_layOut (pc' := 37) (L' := [some (.ref 36), some (.ref p1), some (.int p2), some (.int v3), some (.ref y6), some (.int x7)]) (st' := [.ref y6]) 1 rfl ?_
          refine l1_getR hQ mt_X5_layOut rfl (o := y6) (ci := 6) (k := 1) (a := 2) (b := 2) hy6 rfl rfl rfl rfl (q := (y6 + 3)) rfl ?_
          refine l1_callV hQ mt_X5_layOut mt_X2_size rfl rfl (o := (y6 + 3)) (ci := 1) (As := []) (rest := []) rfl rfl (kc6_1 hy6) rfl rfl rfl (st1 := fun x9 => [.int x9]) (fun _ => rfl) (ok_X2_size hQ c8 (y6 + 3) (kc6_1 hy6)) (fun x9 c10 => ?_)
          refine l1_many mt_X5_layOut (pc' := bif am_cc .le x9 0 then 50 else 46) (L' := [some (.ref 36), some (.ref p1), some (.int p2), some (.int v3), some (.ref y6), some (.int x7)]) (st' := []) 1 rfl ?_
          refine l1_bif rfl ?_ ?_
          · exact ok_X5_layOut_50 hQ N p1 p2 hp1 ih c10 v3 y6 x7 hy6
          · refine l1_many mt_X5_layOut (pc' := 51) (L' := [some (.ref 36), some (.ref p1), some (.int p2), some (.int v3), some (.ref y6), some (.int x7)]) (st' := [.int 1]) 2 rfl ?_
            exact ok_X5_layOut_51 hQ N p1 p2 hp1 ih c10 v3 y6 x7 1 hy6
set_option maxRecDepth 100000 in
theorem en_X5_layOut {Q : hS → am_H → Prop} (hQ : l1_em kc Q) (N : Nat) (c : hS) (p1 : Nat) (p2 : Int32) (hp1 : kc p1 = 8) : l1_G (wN wV) Q am_i_X5_layOut 0 [some (.ref 36), some (.ref p1), some (.int p2)] [] c (f_X5_layOut N c p1 p2) := by
  rw [f_X5_layOut]
  refine l1_many mt_X5_layOut (pc' := 2) (L' := [some (.ref 36), some (.ref p1), some (.int p2), some (.int 0)]) (st' := []) 2 rfl ?_
  exact ok_X5_layOut_2 hQ N p1 p2 hp1 N c 0
theorem ok_X5_layOut {Q : hS → am_H → Prop} (hQ : l1_em kc Q) (N : Nat) (c : hS) (p1 : Nat) (p2 : Int32) (hp1 : kc p1 = 8) : l1_T wV Q am_i_X5_layOut [.ref 36, .ref p1, .int p2] c (f_X5_layOut N c p1 p2) := l1_of (en_X5_layOut hQ N c p1 p2 hp1) ⟨rfl, rfl, rfl, trivial⟩
set_option maxRecDepth 100000 in
theorem en_X6_number {Q : hS → am_H → Prop} (hQ : l1_em kc Q) (c : hS) : l1_G (wN wI) Q am_i_X6_number 0 [some (.ref 9)] [] c (f_X6_number c) := by
  rw [f_X6_number]
  refine l1_many mt_X6_number (pc' := 1) (L' := [some (.ref 9)]) (st' := [.ref 9]) 1 rfl ?_
  refine l1_getI hQ mt_X6_number rfl (o := 9) (ci := 5) (k := 0) (a := 0) (b := 0) rfl rfl rfl rfl rfl ?_
  exact l1_ret mt_X6_number rfl rfl rfl
theorem ok_X6_number {Q : hS → am_H → Prop} (hQ : l1_em kc Q) (c : hS) : l1_T wI Q am_i_X6_number [.ref 9] c (f_X6_number c) := l1_of (en_X6_number hQ c) ⟨rfl, trivial⟩
set_option maxRecDepth 100000 in
theorem en_X6_place {Q : hS → am_H → Prop} (hQ : l1_em kc Q) (c : hS) : l1_G (wN wI) Q am_i_X6_place 0 [some (.ref 9)] [] c (f_X6_place c) := by
  rw [f_X6_place]
  refine l1_many mt_X6_place (pc' := 1) (L' := [some (.ref 9)]) (st' := [.ref 9]) 1 rfl ?_
  refine l1_getI hQ mt_X6_place rfl (o := 9) (ci := 5) (k := 1) (a := 0) (b := 0) rfl rfl rfl rfl rfl ?_
  exact l1_ret mt_X6_place rfl rfl rfl
theorem ok_X6_place {Q : hS → am_H → Prop} (hQ : l1_em kc Q) (c : hS) : l1_T wI Q am_i_X6_place [.ref 9] c (f_X6_place c) := l1_of (en_X6_place hQ c) ⟨rfl, trivial⟩
set_option maxRecDepth 100000 in
theorem en_X6_clear {Q : hS → am_H → Prop} (hQ : l1_em kc Q) (c : hS) : l1_G (wN wV) Q am_i_X6_clear 0 [some (.ref 9)] [] c (f_X6_clear c) := by
  rw [f_X6_clear]
  refine l1_many mt_X6_clear (pc' := 2) (L' := [some (.ref 9)]) (st' := [.int 0, .ref 9]) 2 rfl ?_
  refine l1_putI hQ mt_X6_clear rfl (o := 9) (ci := 5) (k := 0) (a := 0) rfl rfl rfl rfl rfl rfl (fun c1 => ?_)
  refine l1_many mt_X6_clear (pc' := 7) (L' := [some (.ref 9)]) (st' := [.int (-1), .ref 9]) 2 rfl ?_
  refine l1_putI hQ mt_X6_clear rfl (o := 9) (ci := 5) (k := 1) (a := 0) rfl rfl rfl rfl rfl rfl (fun c2 => ?_)
  exact l1_ret mt_X6_clear rfl rfl rfl
theorem ok_X6_clear {Q : hS → am_H → Prop} (hQ : l1_em kc Q) (c : hS) : l1_T wV Q am_i_X6_clear [.ref 9] c (f_X6_clear c) := l1_of (en_X6_clear hQ c) ⟨rfl, trivial⟩
set_option maxRecDepth 100000 in
theorem en_X9_clear {Q : hS → am_H → Prop} (hQ : l1_em kc Q) (c : hS) (s : Nat) (hs : kc s = 8) : l1_G (wN wV) Q am_i_X9_clear 0 [some (.ref s)] [] c (f_X9_clear c s) := by
  rw [f_X9_clear]
  refine l1_many mt_X9_clear (pc' := 2) (L' := [some (.ref s)]) (st' := [.int 0, .ref s]) 2 rfl ?_
  refine l1_putI hQ mt_X9_clear rfl (o := s) (ci := 8) (k := 1) (a := 0) hs rfl rfl rfl rfl rfl (fun c1 => ?_)
  exact l1_ret mt_X9_clear rfl rfl rfl
theorem ok_X9_clear {Q : hS → am_H → Prop} (hQ : l1_em kc Q) (c : hS) (s : Nat) (hs : kc s = 8) : l1_T wV Q am_i_X9_clear [.ref s] c (f_X9_clear c s) := l1_of (en_X9_clear hQ c s hs) ⟨rfl, trivial⟩
set_option maxRecDepth 100000 in
theorem ok_X9_hasUnder_2 {Q : hS → am_H → Prop} (hQ : l1_em kc Q) (N : Nat) (s : Nat) (p1 : Nat) (hs : kc s = 8) (hp1 : kc p1 = 1) : ∀ n : Nat, ∀ (c : hS) (v2 : Int32), l1_G (wN wI) Q am_i_X9_hasUnder 2 [some (.ref s), some (.ref p1), some (.int v2)] [] c (f_X9_hasUnder_2 N s p1 n c v2) := by
  intro n
  induction n with
  | zero => intro c v2; exact l1_none
  | succ n ih =>
    intro c v2
    rw [f_X9_hasUnder_2]
    refine l1_many mt_X9_hasUnder (pc' := 4) (L' := [some (.ref s), some (.ref p1), some (.int v2)]) (st' := [.ref s, .int v2]) 2 rfl ?_
    refine l1_getI hQ mt_X9_hasUnder rfl (o := s) (ci := 8) (k := 1) (a := 0) (b := 0) hs rfl rfl rfl rfl ?_
    refine l1_many mt_X9_hasUnder (pc' := bif am_cc .ge v2 (c.1 s 1) then 39 else 10) (L' := [some (.ref s), some (.ref p1), some (.int v2)]) (st' := []) 1 rfl ?_
    refine l1_bif rfl ?_ ?_
    · refine l1_many mt_X9_hasUnder (pc' := 40) (L' := [some (.ref s), some (.ref p1), some (.int v2)]) (st' := [.int 0]) 1 rfl ?_
      exact l1_ret mt_X9_hasUnder rfl rfl rfl
    · refine l1_many mt_X9_hasUnder (pc' := 12) (L' := [some (.ref s), some (.ref p1), some (.int v2)]) (st' := [.int v2, .ref s]) 2 rfl ?_
      refine l1_callV hQ mt_X9_hasUnder mt_X9_member rfl rfl (o := s) (ci := 8) (As := [.int v2]) (rest := []) rfl rfl hs rfl rfl rfl (st1 := fun x1 => l1_mv x1 :: []) (fun _ => rfl) (ok_X9_member hQ c s v2 hs) (fun x1 c2 => ?_)
      refine l1_opt (x := x1) ?_ (fun y3 => ?_)
      · refine l1_many mt_X9_hasUnder (pc' := 2) (L' := [some (.ref s), some (.ref p1), some (.int (v2 + 1)), some (.null)]) (st' := []) 5 rfl ?_
        refine l1_weak (m := [true, true, true, false]) (L' := [some (.ref s), some (.ref p1), some (.int (v2 + 1))]) rfl ?_
        exact ih c2 (v2 + 1)
      · refine l1_ck (fun hy => ?_)
        have hy3 : kc y3 = 6 := Nat.eq_of_beq_eq_true hy
        refine l1_many mt_X9_hasUnder (pc' := 21) (L' := [some (.ref s), some (.ref p1), some (.int v2), some (.ref y3)]) (st' := [.ref y3]) 4 rfl ?_
        refine l1_getR hQ mt_X9_hasUnder rfl (o := y3) (ci := 6) (k := 0) (a := 2) (b := 2) hy3 rfl rfl rfl rfl (q := (y3 + 1)) rfl ?_
        refine l1_many mt_X9_hasUnder (pc' := 25) (L' := [some (.ref s), some (.ref p1), some (.int v2), some (.ref y3)]) (st' := [.ref p1, .ref (y3 + 1)]) 1 rfl ?_
        refine l1_callV hQ mt_X9_hasUnder mt_X2_liesUnder rfl rfl (o := (y3 + 1)) (ci := 1) (As := [.ref p1]) (rest := []) rfl rfl (kc6_0 hy3) rfl rfl rfl (st1 := fun x4 => [.int x4]) (fun _ => rfl) (ok_X2_liesUnder hQ N c2 (y3 + 1) p1 (kc6_0 hy3) hp1) (fun x4 c5 => ?_)
        refine l1_many mt_X9_hasUnder (pc' := bif am_cc .eq x4 0 then 33 else 31) (L' := [some (.ref s), some (.ref p1), some (.int v2), some (.ref y3)]) (st' := []) 1 rfl ?_
        refine l1_bif rfl ?_ ?_
        · refine l1_many mt_X9_hasUnder (pc' := 2) (L' := [some (.ref s), some (.ref p1), some (.int (v2 + 1)), some (.ref y3)]) (st' := []) 2 rfl ?_
          refine l1_weak (m := [true, true, true, false]) (L' := [some (.ref s), some (.ref p1), some (.int (v2 + 1))]) rfl ?_
          exact ih c5 (v2 + 1)
        · refine l1_many mt_X9_hasUnder (pc' := 32) (L' := [some (.ref s), some (.ref p1), some (.int v2), some (.ref y3)]) (st' := [.int 1]) 1 rfl ?_
          exact l1_ret mt_X9_hasUnder rfl rfl rfl
set_option maxRecDepth 100000 in
theorem en_X9_hasUnder {Q : hS → am_H → Prop} (hQ : l1_em kc Q) (N : Nat) (c : hS) (s : Nat) (p1 : Nat) (hs : kc s = 8) (hp1 : kc p1 = 1) : l1_G (wN wI) Q am_i_X9_hasUnder 0 [some (.ref s), some (.ref p1)] [] c (f_X9_hasUnder N c s p1) := by
  rw [f_X9_hasUnder]
  refine l1_many mt_X9_hasUnder (pc' := 2) (L' := [some (.ref s), some (.ref p1), some (.int 0)]) (st' := []) 2 rfl ?_
  exact ok_X9_hasUnder_2 hQ N s p1 hs hp1 N c 0
theorem ok_X9_hasUnder {Q : hS → am_H → Prop} (hQ : l1_em kc Q) (N : Nat) (c : hS) (s : Nat) (p1 : Nat) (hs : kc s = 8) (hp1 : kc p1 = 1) : l1_T wI Q am_i_X9_hasUnder [.ref s, .ref p1] c (f_X9_hasUnder N c s p1) := l1_of (en_X9_hasUnder hQ N c s p1 hs hp1) ⟨rfl, rfl, trivial⟩
set_option maxRecDepth 100000 in
theorem en_X11_partBehind {Q : hS → am_H → Prop} (hQ : l1_em kc Q) (c : hS) (p0 : Nat) (hp0 : kc p0 = 1) : l1_G (wN wI) Q am_i_X11_partBehind 0 [some (.ref p0)] [] c (f_X11_partBehind c p0) := by
  rw [f_X11_partBehind]
  refine l1_many mt_X11_partBehind (pc' := 1) (L' := [some (.ref p0)]) (st' := [.ref p0]) 1 rfl ?_
  refine l1_callV hQ mt_X11_partBehind mt_X2_size rfl rfl (o := p0) (ci := 1) (As := []) (rest := []) rfl rfl hp0 rfl rfl rfl (st1 := fun x1 => [.int x1]) (fun _ => rfl) (ok_X2_size hQ c p0 hp0) (fun x1 c2 => ?_)
  refine l1_many mt_X11_partBehind (pc' := bif am_cc .ne x1 0 then 11 else 7) (L' := [some (.ref p0)]) (st' := []) 1 rfl ?_
  refine l1_bin rfl ?_ ?_
  · refine l1_many mt_X11_partBehind (pc' := 17) (L' := [some (.ref p0)]) (st' := [.int 0]) 2 rfl ?_
    exact l1_ret mt_X11_partBehind rfl rfl rfl
  · refine l1_many mt_X11_partBehind (pc' := 12) (L' := [some (.ref p0)]) (st' := [.ref p0]) 1 rfl ?_
    refine l1_callV hQ mt_X11_partBehind mt_X2_size rfl rfl (o := p0) (ci := 1) (As := []) (rest := []) rfl rfl hp0 rfl rfl rfl (st1 := fun x3 => [.int x3]) (fun _ => rfl) (ok_X2_size hQ c2 p0 hp0) (fun x3 c4 => ?_)
    refine l1_many mt_X11_partBehind (pc' := 17) (L' := [some (.ref p0)]) (st' := [.int (x3 + 1)]) 2 rfl ?_
    exact l1_ret mt_X11_partBehind rfl rfl rfl
theorem ok_X11_partBehind {Q : hS → am_H → Prop} (hQ : l1_em kc Q) (c : hS) (p0 : Nat) (hp0 : kc p0 = 1) : l1_T wI Q am_i_X11_partBehind [.ref p0] c (f_X11_partBehind c p0) := l1_of (en_X11_partBehind hQ c p0 hp0) ⟨rfl, trivial⟩
set_option maxRecDepth 100000 in
theorem ok_X11_partLength_2 {Q : hS → am_H → Prop} (hQ : l1_em kc Q) (N : Nat) (p0 : Nat) (p1 : Int32) (hp0 : kc p0 = 1) : ∀ n : Nat, ∀ (c : hS) (v2 : Int32), l1_G (wN wI) Q am_i_X11_partLength 2 [some (.ref p0), some (.int p1), some (.int v2)] [] c (f_X11_partLength_2 N p0 p1 n c v2) := by
  intro n
  induction n with
  | zero => intro c v2; exact l1_none
  | succ n ih =>
    intro c v2
    rw [f_X11_partLength_2]
    refine l1_many mt_X11_partLength (pc' := 4) (L' := [some (.ref p0), some (.int p1), some (.int v2)]) (st' := [.ref p0, .int v2]) 2 rfl ?_
    refine l1_callV hQ mt_X11_partLength mt_X2_size rfl rfl (o := p0) (ci := 1) (As := []) (rest := [.int v2]) rfl rfl hp0 rfl rfl rfl (st1 := fun x1 => [.int x1, .int v2]) (fun _ => rfl) (ok_X2_size hQ c p0 hp0) (fun x1 c2 => ?_)
    refine l1_many mt_X11_partLength (pc' := bif am_cc .ge v2 x1 then 30 else 10) (L' := [some (.ref p0), some (.int p1), some (.int v2)]) (st' := []) 1 rfl ?_
    refine l1_bif rfl ?_ ?_
    · refine l1_many mt_X11_partLength (pc' := 31) (L' := [some (.ref p0), some (.int p1), some (.int v2)]) (st' := [.ref p0]) 1 rfl ?_
      refine l1_callV hQ mt_X11_partLength mt_X2_size rfl rfl (o := p0) (ci := 1) (As := []) (rest := []) rfl rfl hp0 rfl rfl rfl (st1 := fun x3 => [.int x3]) (fun _ => rfl) (ok_X2_size hQ c2 p0 hp0) (fun x3 c4 => ?_)
      refine l1_many mt_X11_partLength (pc' := 36) (L' := [some (.ref p0), some (.int p1), some (.int v2)]) (st' := [.int (x3 - p1)]) 2 rfl ?_
      exact l1_ret mt_X11_partLength rfl rfl rfl
    · refine l1_many mt_X11_partLength (pc' := 12) (L' := [some (.ref p0), some (.int p1), some (.int v2)]) (st' := [.int v2, .ref p0]) 2 rfl ?_
      refine l1_callV hQ mt_X11_partLength mt_X2_get rfl rfl (o := p0) (ci := 1) (As := [.int v2]) (rest := []) rfl rfl hp0 rfl rfl rfl (st1 := fun x5 => [.int x5]) (fun _ => rfl) (ok_X2_get hQ c2 p0 v2 hp0) (fun x5 c6 => ?_)
      refine l1_many mt_X11_partLength (pc' := bif am_cc .ne x5 47 then 24 else 20) (L' := [some (.ref p0), some (.int p1), some (.int v2)]) (st' := []) 2 rfl ?_
      refine l1_bin rfl ?_ ?_
      · refine l1_many mt_X11_partLength (pc' := 23) (L' := [some (.ref p0), some (.int p1), some (.int v2)]) (st' := [.int (v2 - p1)]) 3 rfl ?_
        exact l1_ret mt_X11_partLength rfl rfl rfl
      · refine l1_many mt_X11_partLength (pc' := 2) (L' := [some (.ref p0), some (.int p1), some (.int (v2 + 1))]) (st' := []) 2 rfl ?_
        exact ih c6 (v2 + 1)
set_option maxRecDepth 100000 in
theorem en_X11_partLength {Q : hS → am_H → Prop} (hQ : l1_em kc Q) (N : Nat) (c : hS) (p0 : Nat) (p1 : Int32) (hp0 : kc p0 = 1) : l1_G (wN wI) Q am_i_X11_partLength 0 [some (.ref p0), some (.int p1)] [] c (f_X11_partLength N c p0 p1) := by
  rw [f_X11_partLength]
  refine l1_many mt_X11_partLength (pc' := 2) (L' := [some (.ref p0), some (.int p1), some (.int p1)]) (st' := []) 2 rfl ?_
  exact ok_X11_partLength_2 hQ N p0 p1 hp0 N c p1
theorem ok_X11_partLength {Q : hS → am_H → Prop} (hQ : l1_em kc Q) (N : Nat) (c : hS) (p0 : Nat) (p1 : Int32) (hp0 : kc p0 = 1) : l1_T wI Q am_i_X11_partLength [.ref p0, .int p1] c (f_X11_partLength N c p0 p1) := l1_of (en_X11_partLength hQ N c p0 p1 hp0) ⟨rfl, rfl, trivial⟩
set_option maxRecDepth 100000 in
theorem ok_X9_isSamePart_20 {Q : hS → am_H → Prop} (hQ : l1_em kc Q) (N : Nat) (p0 : Nat) (p1 : Nat) (p2 : Int32) (hp0 : kc p0 = 1) (hp1 : kc p1 = 1) : ∀ n : Nat, ∀ (c : hS) (v3 : Int32) (v4 : Int32), l1_G (wN wI) Q am_i_X9_isSamePart 20 [some (.ref p0), some (.ref p1), some (.int p2), some (.int v3), some (.int v4)] [] c (f_X9_isSamePart_20 N p0 p1 p2 n c v3 v4) := by
  intro n
  induction n with
  | zero => intro c v3 v4; exact l1_none
  | succ n ih =>
    intro c v3 v4
    rw [f_X9_isSamePart_20]
    refine l1_many mt_X9_isSamePart (pc' := bif am_cc .ge v4 (p2 + v3) then 51 else 28) (L' := [some (.ref p0), some (.ref p1), some (.int p2), some (.int v3), some (.int v4)]) (st' := []) 5 rfl ?_
    refine l1_bif rfl ?_ ?_
    · refine l1_many mt_X9_isSamePart (pc' := 52) (L' := [some (.ref p0), some (.ref p1), some (.int p2), some (.int v3), some (.int v4)]) (st' := [.int 1]) 1 rfl ?_
      exact l1_ret mt_X9_isSamePart rfl rfl rfl
    · refine l1_many mt_X9_isSamePart (pc' := 31) (L' := [some (.ref p0), some (.ref p1), some (.int p2), some (.int v3), some (.int v4)]) (st' := [.int v4, .ref p0]) 2 rfl ?_
      refine l1_callV hQ mt_X9_isSamePart mt_X2_get rfl rfl (o := p0) (ci := 1) (As := [.int v4]) (rest := []) rfl rfl hp0 rfl rfl rfl (st1 := fun x1 => [.int x1]) (fun _ => rfl) (ok_X2_get hQ c p0 v4 hp0) (fun x1 c2 => ?_)
      refine l1_many mt_X9_isSamePart (pc' := 37) (L' := [some (.ref p0), some (.ref p1), some (.int p2), some (.int v3), some (.int v4)]) (st' := [.int v4, .ref p1, .int x1]) 2 rfl ?_
      refine l1_callV hQ mt_X9_isSamePart mt_X2_get rfl rfl (o := p1) (ci := 1) (As := [.int v4]) (rest := [.int x1]) rfl rfl hp1 rfl rfl rfl (st1 := fun x3 => [.int x3, .int x1]) (fun _ => rfl) (ok_X2_get hQ c2 p1 v4 hp1) (fun x3 c4 => ?_)
      refine l1_many mt_X9_isSamePart (pc' := bif am_cc .eq x1 x3 then 45 else 43) (L' := [some (.ref p0), some (.ref p1), some (.int p2), some (.int v3), some (.int v4)]) (st' := []) 1 rfl ?_
      refine l1_bif rfl ?_ ?_
      · refine l1_many mt_X9_isSamePart (pc' := 20) (L' := [some (.ref p0), some (.ref p1), some (.int p2), some (.int v3), some (.int (v4 + 1))]) (st' := []) 2 rfl ?_
        exact ih c4 v3 (v4 + 1)
      · refine l1_many mt_X9_isSamePart (pc' := 44) (L' := [some (.ref p0), some (.ref p1), some (.int p2), some (.int v3), some (.int v4)]) (st' := [.int 0]) 1 rfl ?_
        exact l1_ret mt_X9_isSamePart rfl rfl rfl
set_option maxRecDepth 100000 in
theorem en_X9_isSamePart {Q : hS → am_H → Prop} (hQ : l1_em kc Q) (N : Nat) (c : hS) (p0 : Nat) (p1 : Nat) (p2 : Int32) (hp0 : kc p0 = 1) (hp1 : kc p1 = 1) : l1_G (wN wI) Q am_i_X9_isSamePart 0 [some (.ref p0), some (.ref p1), some (.int p2)] [] c (f_X9_isSamePart N c p0 p1 p2) := by
  rw [f_X9_isSamePart]
  refine l1_many mt_X9_isSamePart (pc' := 2) (L' := [some (.ref p0), some (.ref p1), some (.int p2)]) (st' := [.int p2, .ref p0]) 2 rfl ?_
  refine l1_callS mt_X9_isSamePart mt_X11_partLength rfl rfl (As := [.ref p0, .int p2]) (rest := []) rfl rfl rfl (st1 := fun x1 => [.int x1]) (fun _ => rfl) (ok_X11_partLength hQ N c p0 p2 hp0) (fun x1 c2 => ?_)
  refine l1_many mt_X9_isSamePart (pc' := 8) (L' := [some (.ref p0), some (.ref p1), some (.int p2), some (.int x1)]) (st' := [.int p2, .ref p1]) 3 rfl ?_
  refine l1_callS mt_X9_isSamePart mt_X11_partLength rfl rfl (As := [.ref p1, .int p2]) (rest := []) rfl rfl rfl (st1 := fun x3 => [.int x3]) (fun _ => rfl) (ok_X11_partLength hQ N c2 p1 p2 hp1) (fun x3 c4 => ?_)
  refine l1_many mt_X9_isSamePart (pc' := bif am_cc .eq x3 x1 then 17 else 15) (L' := [some (.ref p0), some (.ref p1), some (.int p2), some (.int x1)]) (st' := []) 2 rfl ?_
  refine l1_bif rfl ?_ ?_
  · refine l1_many mt_X9_isSamePart (pc' := 20) (L' := [some (.ref p0), some (.ref p1), some (.int p2), some (.int x1), some (.int p2)]) (st' := []) 2 rfl ?_
    exact ok_X9_isSamePart_20 hQ N p0 p1 p2 hp0 hp1 N c4 x1 p2
  · refine l1_many mt_X9_isSamePart (pc' := 16) (L' := [some (.ref p0), some (.ref p1), some (.int p2), some (.int x1)]) (st' := [.int 0]) 1 rfl ?_
    exact l1_ret mt_X9_isSamePart rfl rfl rfl
theorem ok_X9_isSamePart {Q : hS → am_H → Prop} (hQ : l1_em kc Q) (N : Nat) (c : hS) (p0 : Nat) (p1 : Nat) (p2 : Int32) (hp0 : kc p0 = 1) (hp1 : kc p1 = 1) : l1_T wI Q am_i_X9_isSamePart [.ref p0, .ref p1, .int p2] c (f_X9_isSamePart N c p0 p1 p2) := l1_of (en_X9_isSamePart hQ N c p0 p1 p2 hp0 hp1) ⟨rfl, rfl, rfl, trivial⟩
set_option maxRecDepth 100000 in
theorem ok_X9_isFirstOfChild_26 {Q : hS → am_H → Prop} (hQ : l1_em kc Q) (N : Nat) (s : Nat) (p1 : Nat) (p2 : Int32) (hs : kc s = 8) (hp1 : kc p1 = 1) : ∀ n : Nat, ∀ (c : hS) (v3 : Nat) (v4 : Int32) (hv3 : kc v3 = 6), l1_G (wN wI) Q am_i_X9_isFirstOfChild 26 [some (.ref s), some (.ref p1), some (.int p2), some (.ref v3), some (.int v4)] [] c (f_X9_isFirstOfChild_26 N s p1 p2 n c v3 v4) := by
  intro n
  induction n with
  | zero => intro c v3 v4 hv3; exact l1_none
  | succ n ih =>
    intro c v3 v4 hv3
    rw [f_X9_isFirstOfChild_26]
    refine l1_many mt_X9_isFirstOfChild (pc' := bif am_cc .ge v4 p2 then 84 else 32) (L' := [some (.ref s), some (.ref p1), some (.int p2), some (.ref v3), some (.int v4)]) (st' := []) 3 rfl ?_
    refine l1_bif rfl ?_ ?_
    · refine l1_many mt_X9_isFirstOfChild (pc' := 85) (L' := [some (.ref s), some (.ref p1), some (.int p2), some (.ref v3), some (.int v4)]) (st' := [.int 1]) 1 rfl ?_
      exact l1_ret mt_X9_isFirstOfChild rfl rfl rfl
    · refine l1_many mt_X9_isFirstOfChild (pc' := 35) (L' := [some (.ref s), some (.ref p1), some (.int p2), some (.ref v3), some (.int v4)]) (st' := [.int v4, .ref s]) 2 rfl ?_
      refine l1_callV hQ mt_X9_isFirstOfChild mt_X9_member rfl rfl (o := s) (ci := 8) (As := [.int v4]) (rest := []) rfl rfl hs rfl rfl rfl (st1 := fun x1 => l1_mv x1 :: []) (fun _ => rfl) (ok_X9_member hQ c s v4 hs) (fun x1 c2 => ?_)
      refine l1_opt (x := x1) ?_ (fun y3 => ?_)
      · refine l1_many mt_X9_isFirstOfChild (pc' := 26) (L' := [some (.ref s), some (.ref p1), some (.int p2), some (.ref v3), some (.int (v4 + 1)), some (.null)]) (st' := []) 5 rfl ?_
        refine l1_weak (m := [true, true, true, true, true, false]) (L' := [some (.ref s), some (.ref p1), some (.int p2), some (.ref v3), some (.int (v4 + 1))]) rfl ?_
        exact ih c2 v3 (v4 + 1) hv3
      · refine l1_ck (fun hy => ?_)
        have hy3 : kc y3 = 6 := Nat.eq_of_beq_eq_true hy
        refine l1_many mt_X9_isFirstOfChild (pc' := 47) (L' := [some (.ref s), some (.ref p1), some (.int p2), some (.ref v3), some (.int v4), some (.ref y3)]) (st' := [.ref y3]) 4 rfl ?_
        refine l1_getR hQ mt_X9_isFirstOfChild rfl (o := y3) (ci := 6) (k := 0) (a := 2) (b := 2) hy3 rfl rfl rfl rfl (q := (y3 + 1)) rfl ?_
        refine l1_many mt_X9_isFirstOfChild (pc' := 51) (L' := [some (.ref s), some (.ref p1), some (.int p2), some (.ref v3), some (.int v4), some (.ref y3)]) (st' := [.ref p1, .ref (y3 + 1)]) 1 rfl ?_
        refine l1_callV hQ mt_X9_isFirstOfChild mt_X2_liesUnder rfl rfl (o := (y3 + 1)) (ci := 1) (As := [.ref p1]) (rest := []) rfl rfl (kc6_0 hy3) rfl rfl rfl (st1 := fun x4 => [.int x4]) (fun _ => rfl) (ok_X2_liesUnder hQ N c2 (y3 + 1) p1 (kc6_0 hy3) hp1) (fun x4 c5 => ?_)
        refine l1_many mt_X9_isFirstOfChild (pc' := bif am_cc .eq x4 0 then 78 else 57) (L' := [some (.ref s), some (.ref p1), some (.int p2), some (.ref v3), some (.int v4), some (.ref y3)]) (st' := []) 1 rfl ?_
        refine l1_bif rfl ?_ ?_
        · refine l1_many mt_X9_isFirstOfChild (pc' := 26) (L' := [some (.ref s), some (.ref p1), some (.int p2), some (.ref v3), some (.int (v4 + 1)), some (.ref y3)]) (st' := []) 2 rfl ?_
          refine l1_weak (m := [true, true, true, true, true, false]) (L' := [some (.ref s), some (.ref p1), some (.int p2), some (.ref v3), some (.int (v4 + 1))]) rfl ?_
          exact ih c5 v3 (v4 + 1) hv3
        · refine l1_many mt_X9_isFirstOfChild (pc' := 59) (L' := [some (.ref s), some (.ref p1), some (.int p2), some (.ref v3), some (.int v4), some (.ref y3)]) (st' := [.ref y3]) 1 rfl ?_
          refine l1_getR hQ mt_X9_isFirstOfChild rfl (o := y3) (ci := 6) (k := 0) (a := 2) (b := 2) hy3 rfl rfl rfl rfl (q := (y3 + 1)) rfl ?_
          refine l1_many mt_X9_isFirstOfChild (pc' := 63) (L' := [some (.ref s), some (.ref p1), some (.int p2), some (.ref v3), some (.int v4), some (.ref y3)]) (st' := [.ref v3, .ref (y3 + 1)]) 1 rfl ?_
          refine l1_getR hQ mt_X9_isFirstOfChild rfl (o := v3) (ci := 6) (k := 0) (a := 2) (b := 2) hv3 rfl rfl rfl rfl (q := (v3 + 1)) rfl ?_
          refine l1_many mt_X9_isFirstOfChild (pc' := 67) (L' := [some (.ref s), some (.ref p1), some (.int p2), some (.ref v3), some (.int v4), some (.ref y3)]) (st' := [.ref p1, .ref (v3 + 1), .ref (y3 + 1)]) 1 rfl ?_
          refine l1_callS mt_X9_isFirstOfChild mt_X11_partBehind rfl rfl (As := [.ref p1]) (rest := [.ref (v3 + 1), .ref (y3 + 1)]) rfl rfl rfl (st1 := fun x6 => [.int x6, .ref (v3 + 1), .ref (y3 + 1)]) (fun _ => rfl) (ok_X11_partBehind hQ c5 p1 hp1) (fun x6 c7 => ?_)
          refine l1_callS mt_X9_isFirstOfChild mt_X9_isSamePart rfl rfl (As := [.ref (y3 + 1), .ref (v3 + 1), .int x6]) (rest := []) rfl rfl rfl (st1 := fun x8 => [.int x8]) (fun _ => rfl) (ok_X9_isSamePart hQ N c7 (y3 + 1) (v3 + 1) x6 (kc6_0 hy3) (kc6_0 hv3)) (fun x8 c9 => ?_)
          refine l1_many mt_X9_isFirstOfChild (pc' := bif am_cc .eq x8 0 then 78 else 76) (L' := [some (.ref s), some (.ref p1), some (.int p2), some (.ref v3), some (.int v4), some (.ref y3)]) (st' := []) 1 rfl ?_
          refine l1_bif rfl ?_ ?_
          · refine l1_many mt_X9_isFirstOfChild (pc' := 26) (L' := [some (.ref s), some (.ref p1), some (.int p2), some (.ref v3), some (.int (v4 + 1)), some (.ref y3)]) (st' := []) 2 rfl ?_
            refine l1_weak (m := [true, true, true, true, true, false]) (L' := [some (.ref s), some (.ref p1), some (.int p2), some (.ref v3), some (.int (v4 + 1))]) rfl ?_
            exact ih c9 v3 (v4 + 1) hv3
          · refine l1_many mt_X9_isFirstOfChild (pc' := 77) (L' := [some (.ref s), some (.ref p1), some (.int p2), some (.ref v3), some (.int v4), some (.ref y3)]) (st' := [.int 0]) 1 rfl ?_
            exact l1_ret mt_X9_isFirstOfChild rfl rfl rfl
set_option maxRecDepth 100000 in
theorem en_X9_isFirstOfChild {Q : hS → am_H → Prop} (hQ : l1_em kc Q) (N : Nat) (c : hS) (s : Nat) (p1 : Nat) (p2 : Int32) (hs : kc s = 8) (hp1 : kc p1 = 1) : l1_G (wN wI) Q am_i_X9_isFirstOfChild 0 [some (.ref s), some (.ref p1), some (.int p2)] [] c (f_X9_isFirstOfChild N c s p1 p2) := by
  rw [f_X9_isFirstOfChild]
  refine l1_many mt_X9_isFirstOfChild (pc' := 2) (L' := [some (.ref s), some (.ref p1), some (.int p2)]) (st' := [.int p2, .ref s]) 2 rfl ?_
  refine l1_callV hQ mt_X9_isFirstOfChild mt_X9_member rfl rfl (o := s) (ci := 8) (As := [.int p2]) (rest := []) rfl rfl hs rfl rfl rfl (st1 := fun x1 => l1_mv x1 :: []) (fun _ => rfl) (ok_X9_member hQ c s p2 hs) (fun x1 c2 => ?_)
  refine l1_opt (x := x1) ?_ (fun y3 => ?_)
  · refine l1_many mt_X9_isFirstOfChild (pc' := 22) (L' := [some (.ref s), some (.ref p1), some (.int p2), some (.null)]) (st' := [.int 0]) 4 rfl ?_
    exact l1_ret mt_X9_isFirstOfChild rfl rfl rfl
  · refine l1_ck (fun hy => ?_)
    have hy3 : kc y3 = 6 := Nat.eq_of_beq_eq_true hy
    refine l1_many mt_X9_isFirstOfChild (pc' := 11) (L' := [some (.ref s), some (.ref p1), some (.int p2), some (.ref y3)]) (st' := [.ref y3]) 4 rfl ?_
    refine l1_getR hQ mt_X9_isFirstOfChild rfl (o := y3) (ci := 6) (k := 0) (a := 2) (b := 2) hy3 rfl rfl rfl rfl (q := (y3 + 1)) rfl ?_
    refine l1_many mt_X9_isFirstOfChild (pc' := 15) (L' := [some (.ref s), some (.ref p1), some (.int p2), some (.ref y3)]) (st' := [.ref p1, .ref (y3 + 1)]) 1 rfl ?_
    refine l1_callV hQ mt_X9_isFirstOfChild mt_X2_liesUnder rfl rfl (o := (y3 + 1)) (ci := 1) (As := [.ref p1]) (rest := []) rfl rfl (kc6_0 hy3) rfl rfl rfl (st1 := fun x4 => [.int x4]) (fun _ => rfl) (ok_X2_liesUnder hQ N c2 (y3 + 1) p1 (kc6_0 hy3) hp1) (fun x4 c5 => ?_)
    refine l1_many mt_X9_isFirstOfChild (pc' := bif am_cc .ne x4 0 then 23 else 21) (L' := [some (.ref s), some (.ref p1), some (.int p2), some (.ref y3)]) (st' := []) 1 rfl ?_
    refine l1_bin rfl ?_ ?_
    · refine l1_many mt_X9_isFirstOfChild (pc' := 22) (L' := [some (.ref s), some (.ref p1), some (.int p2), some (.ref y3)]) (st' := [.int 0]) 1 rfl ?_
      exact l1_ret mt_X9_isFirstOfChild rfl rfl rfl
    · refine l1_many mt_X9_isFirstOfChild (pc' := 26) (L' := [some (.ref s), some (.ref p1), some (.int p2), some (.ref y3), some (.int 0)]) (st' := []) 2 rfl ?_
      exact ok_X9_isFirstOfChild_26 hQ N s p1 p2 hs hp1 N c5 y3 0 hy3
theorem ok_X9_isFirstOfChild {Q : hS → am_H → Prop} (hQ : l1_em kc Q) (N : Nat) (c : hS) (s : Nat) (p1 : Nat) (p2 : Int32) (hs : kc s = 8) (hp1 : kc p1 = 1) : l1_T wI Q am_i_X9_isFirstOfChild [.ref s, .ref p1, .int p2] c (f_X9_isFirstOfChild N c s p1 p2) := l1_of (en_X9_isFirstOfChild hQ N c s p1 p2 hs hp1) ⟨rfl, rfl, rfl, trivial⟩
set_option maxRecDepth 100000 in
theorem ok_X9_children_4 {Q : hS → am_H → Prop} (hQ : l1_em kc Q) (N : Nat) (s : Nat) (p1 : Nat) (hs : kc s = 8) (hp1 : kc p1 = 1) : ∀ n : Nat, ∀ (c : hS) (v2 : Int32) (v3 : Int32), l1_G (wN wI) Q am_i_X9_children 4 [some (.ref s), some (.ref p1), some (.int v2), some (.int v3)] [] c (f_X9_children_4 N s p1 n c v2 v3) := by
  intro n
  induction n with
  | zero => intro c v2 v3; exact l1_none
  | succ n ih =>
    intro c v2 v3
    rw [f_X9_children_4]
    refine l1_many mt_X9_children (pc' := 6) (L' := [some (.ref s), some (.ref p1), some (.int v2), some (.int v3)]) (st' := [.ref s, .int v3]) 2 rfl ?_
    refine l1_getI hQ mt_X9_children rfl (o := s) (ci := 8) (k := 1) (a := 0) (b := 0) hs rfl rfl rfl rfl ?_
    refine l1_many mt_X9_children (pc' := bif am_cc .ge v3 (c.1 s 1) then 30 else 12) (L' := [some (.ref s), some (.ref p1), some (.int v2), some (.int v3)]) (st' := []) 1 rfl ?_
    refine l1_bif rfl ?_ ?_
    · refine l1_many mt_X9_children (pc' := 31) (L' := [some (.ref s), some (.ref p1), some (.int v2), some (.int v3)]) (st' := [.int v2]) 1 rfl ?_
      exact l1_ret mt_X9_children rfl rfl rfl
    · refine l1_many mt_X9_children (pc' := 15) (L' := [some (.ref s), some (.ref p1), some (.int v2), some (.int v3)]) (st' := [.int v3, .ref p1, .ref s]) 3 rfl ?_
      refine l1_callV hQ mt_X9_children mt_X9_isFirstOfChild rfl rfl (o := s) (ci := 8) (As := [.ref p1, .int v3]) (rest := []) rfl rfl hs rfl rfl rfl (st1 := fun x1 => [.int x1]) (fun _ => rfl) (ok_X9_isFirstOfChild hQ N c s p1 v3 hs hp1) (fun x1 c2 => ?_)
      refine l1_many mt_X9_children (pc' := bif am_cc .eq x1 0 then 24 else 21) (L' := [some (.ref s), some (.ref p1), some (.int v2), some (.int v3)]) (st' := []) 1 rfl ?_
      refine l1_bif rfl ?_ ?_
      · refine l1_many mt_X9_children (pc' := 4) (L' := [some (.ref s), some (.ref p1), some (.int v2), some (.int (v3 + 1))]) (st' := []) 2 rfl ?_
        exact ih c2 v2 (v3 + 1)
      · refine l1_many mt_X9_children (pc' := 4) (L' := [some (.ref s), some (.ref p1), some (.int (v2 + 1)), some (.int (v3 + 1))]) (st' := []) 3 rfl ?_
        exact ih c2 (v2 + 1) (v3 + 1)
set_option maxRecDepth 100000 in
theorem en_X9_children {Q : hS → am_H → Prop} (hQ : l1_em kc Q) (N : Nat) (c : hS) (s : Nat) (p1 : Nat) (hs : kc s = 8) (hp1 : kc p1 = 1) : l1_G (wN wI) Q am_i_X9_children 0 [some (.ref s), some (.ref p1)] [] c (f_X9_children N c s p1) := by
  rw [f_X9_children]
  refine l1_many mt_X9_children (pc' := 4) (L' := [some (.ref s), some (.ref p1), some (.int 0), some (.int 0)]) (st' := []) 4 rfl ?_
  exact ok_X9_children_4 hQ N s p1 hs hp1 N c 0 0
theorem ok_X9_children {Q : hS → am_H → Prop} (hQ : l1_em kc Q) (N : Nat) (c : hS) (s : Nat) (p1 : Nat) (hs : kc s = 8) (hp1 : kc p1 = 1) : l1_T wI Q am_i_X9_children [.ref s, .ref p1] c (f_X9_children N c s p1) := l1_of (en_X9_children hQ N c s p1 hs hp1) ⟨rfl, rfl, trivial⟩
