section
/-! THAT THE MACHINE FOLLOWS THEM, printed by gen_l1.py -/
set_option maxRecDepth 100000 in
theorem en_X5_addLocal {Q : hS → am_H → Prop} (hQ : l1_em kc Q) (N : Nat) (c : hS) (p1 : Nat) (p2 : Int32) (hp1 : kc p1 = 6) : l1_G (wN wV) Q am_i_X5_addLocal 0 [some (.ref 36), some (.ref p1), some (.int p2)] [] c (f_X5_addLocal N c p1 p2) := by
  rw [f_X5_addLocal]
  refine l1_many mt_X5_addLocal (pc' := 1) (L' := [some (.ref 36), some (.ref p1), some (.int p2)]) (st' := [.ref 36]) 1 rfl ?_
  refine l1_getR hQ mt_X5_addLocal rfl (o := 36) (ci := 4) (k := 0) (a := 1) (b := 2) rfl rfl rfl rfl rfl (q := 3) rfl ?_
  refine l1_many mt_X5_addLocal (pc' := 7) (L' := [some (.ref 36), some (.ref p1), some (.int p2)]) (st' := [.ref 1000000003, .ref 3]) 1 rfl ?_
  refine l1_callV hQ mt_X5_addLocal mt_X2_addMark rfl rfl (o := 3) (ci := 1) (As := [.ref 1000000003]) (rest := []) rfl rfl rfl rfl rfl rfl (st1 := fun _ => []) (fun _ => rfl) (ok_X2_addMark hQ N c 3 sa3 rfl oa3) (fun _ c1 => ?_)
  refine l1_many mt_X5_addLocal (pc' := 11) (L' := [some (.ref 36), some (.ref p1), some (.int p2)]) (st' := [.ref 36]) 1 rfl ?_
  refine l1_getR hQ mt_X5_addLocal rfl (o := 36) (ci := 4) (k := 0) (a := 1) (b := 2) rfl rfl rfl rfl rfl (q := 3) rfl ?_
  refine l1_many mt_X5_addLocal (pc' := 18) (L' := [some (.ref 36), some (.ref p1), some (.int p2)]) (st' := [.int 2, .long 20, .ref 3]) 2 rfl ?_
  refine l1_callV hQ mt_X5_addLocal mt_X2_addLittle rfl rfl (o := 3) (ci := 1) (As := [.long 20, .int 2]) (rest := []) rfl rfl rfl rfl rfl rfl (st1 := fun _ => []) (fun _ => rfl) (ok_X2_addLittle hQ N c1 3 20 2 rfl) (fun _ c2 => ?_)
  refine l1_many mt_X5_addLocal (pc' := 22) (L' := [some (.ref 36), some (.ref p1), some (.int p2)]) (st' := [.ref 36]) 1 rfl ?_
  refine l1_getR hQ mt_X5_addLocal rfl (o := 36) (ci := 4) (k := 0) (a := 1) (b := 2) rfl rfl rfl rfl rfl (q := 3) rfl ?_
  refine l1_many mt_X5_addLocal (pc' := 27) (L' := [some (.ref 36), some (.ref p1), some (.int p2)]) (st' := [.int 2, .long 0, .ref 3]) 2 rfl ?_
  refine l1_callV hQ mt_X5_addLocal mt_X2_addLittle rfl rfl (o := 3) (ci := 1) (As := [.long 0, .int 2]) (rest := []) rfl rfl rfl rfl rfl rfl (st1 := fun _ => []) (fun _ => rfl) (ok_X2_addLittle hQ N c2 3 0 2 rfl) (fun _ c3 => ?_)
  refine l1_many mt_X5_addLocal (pc' := 31) (L' := [some (.ref 36), some (.ref p1), some (.int p2)]) (st' := [.ref 36]) 1 rfl ?_
  refine l1_getR hQ mt_X5_addLocal rfl (o := 36) (ci := 4) (k := 0) (a := 1) (b := 2) rfl rfl rfl rfl rfl (q := 3) rfl ?_
  refine l1_many mt_X5_addLocal (pc' := 37) (L' := [some (.ref 36), some (.ref p1), some (.int p2)]) (st' := [.int 2, .long p2.toInt64, .ref 3]) 3 rfl ?_
  refine l1_callV hQ mt_X5_addLocal mt_X2_addLittle rfl rfl (o := 3) (ci := 1) (As := [.long p2.toInt64, .int 2]) (rest := []) rfl rfl rfl rfl rfl rfl (st1 := fun _ => []) (fun _ => rfl) (ok_X2_addLittle hQ N c3 3 p2.toInt64 2 rfl) (fun _ c4 => ?_)
  refine l1_many mt_X5_addLocal (pc' := 41) (L' := [some (.ref 36), some (.ref p1), some (.int p2)]) (st' := [.ref 36]) 1 rfl ?_
  refine l1_getR hQ mt_X5_addLocal rfl (o := 36) (ci := 4) (k := 0) (a := 1) (b := 2) rfl rfl rfl rfl rfl (q := 3) rfl ?_
  refine l1_many mt_X5_addLocal (pc' := 46) (L' := [some (.ref 36), some (.ref p1), some (.int p2)]) (st' := [.int 2, .long 0, .ref 3]) 2 rfl ?_
  refine l1_callV hQ mt_X5_addLocal mt_X2_addLittle rfl rfl (o := 3) (ci := 1) (As := [.long 0, .int 2]) (rest := []) rfl rfl rfl rfl rfl rfl (st1 := fun _ => []) (fun _ => rfl) (ok_X2_addLittle hQ N c4 3 0 2 rfl) (fun _ c5 => ?_)
  refine l1_many mt_X5_addLocal (pc' := 50) (L' := [some (.ref 36), some (.ref p1), some (.int p2)]) (st' := [.ref 36]) 1 rfl ?_
  refine l1_getR hQ mt_X5_addLocal rfl (o := 36) (ci := 4) (k := 0) (a := 1) (b := 2) rfl rfl rfl rfl rfl (q := 3) rfl ?_
  refine l1_many mt_X5_addLocal (pc' := 57) (L' := [some (.ref 36), some (.ref p1), some (.int p2)]) (st' := [.int 2, .long 33, .ref 3]) 2 rfl ?_
  refine l1_callV hQ mt_X5_addLocal mt_X2_addLittle rfl rfl (o := 3) (ci := 1) (As := [.long 33, .int 2]) (rest := []) rfl rfl rfl rfl rfl rfl (st1 := fun _ => []) (fun _ => rfl) (ok_X2_addLittle hQ N c5 3 33 2 rfl) (fun _ c6 => ?_)
  refine l1_many mt_X5_addLocal (pc' := 61) (L' := [some (.ref 36), some (.ref p1), some (.int p2)]) (st' := [.ref 36]) 1 rfl ?_
  refine l1_getR hQ mt_X5_addLocal rfl (o := 36) (ci := 4) (k := 0) (a := 1) (b := 2) rfl rfl rfl rfl rfl (q := 3) rfl ?_
  refine l1_many mt_X5_addLocal (pc' := 65) (L' := [some (.ref 36), some (.ref p1), some (.int p2)]) (st' := [.ref p1, .ref 3]) 1 rfl ?_
  refine l1_getR hQ mt_X5_addLocal rfl (o := p1) (ci := 6) (k := 1) (a := 2) (b := 2) hp1 rfl rfl rfl rfl (q := (p1 + 3)) rfl ?_
  refine l1_callS mt_X5_addLocal mt_X11_checkOf rfl rfl (As := [.ref (p1 + 3)]) (rest := [.ref 3]) rfl rfl rfl (st1 := fun x7 => [.int x7, .ref 3]) (fun _ => rfl) (ok_X11_checkOf hQ N c6 (p1 + 3) (kc6_1 hp1)) (fun x7 c8 => ?_)
  refine l1_many mt_X5_addLocal (pc' := 73) (L' := [some (.ref 36), some (.ref p1), some (.int p2)]) (st' := [.int 4, .long x7.toInt64, .ref 3]) 2 rfl ?_
  refine l1_callV hQ mt_X5_addLocal mt_X2_addLittle rfl rfl (o := 3) (ci := 1) (As := [.long x7.toInt64, .int 4]) (rest := []) rfl rfl rfl rfl rfl rfl (st1 := fun _ => []) (fun _ => rfl) (ok_X2_addLittle hQ N c8 3 x7.toInt64 4 rfl) (fun _ c9 => ?_)
  refine l1_many mt_X5_addLocal (pc' := 77) (L' := [some (.ref 36), some (.ref p1), some (.int p2)]) (st' := [.ref 36]) 1 rfl ?_
  refine l1_getR hQ mt_X5_addLocal rfl (o := 36) (ci := 4) (k := 0) (a := 1) (b := 2) rfl rfl rfl rfl rfl (q := 3) rfl ?_
  refine l1_many mt_X5_addLocal (pc' := 82) (L' := [some (.ref 36), some (.ref p1), some (.int p2)]) (st' := [.int 4, .long 0, .ref 3]) 2 rfl ?_
  refine l1_callV hQ mt_X5_addLocal mt_X2_addLittle rfl rfl (o := 3) (ci := 1) (As := [.long 0, .int 4]) (rest := []) rfl rfl rfl rfl rfl rfl (st1 := fun _ => []) (fun _ => rfl) (ok_X2_addLittle hQ N c9 3 0 4 rfl) (fun _ c10 => ?_)
  refine l1_many mt_X5_addLocal (pc' := 86) (L' := [some (.ref 36), some (.ref p1), some (.int p2)]) (st' := [.ref 36]) 1 rfl ?_
  refine l1_getR hQ mt_X5_addLocal rfl (o := 36) (ci := 4) (k := 0) (a := 1) (b := 2) rfl rfl rfl rfl rfl (q := 3) rfl ?_
  refine l1_many mt_X5_addLocal (pc' := 90) (L' := [some (.ref 36), some (.ref p1), some (.int p2)]) (st' := [.ref p1, .ref 3]) 1 rfl ?_
  refine l1_getR hQ mt_X5_addLocal rfl (o := p1) (ci := 6) (k := 1) (a := 2) (b := 2) hp1 rfl rfl rfl rfl (q := (p1 + 3)) rfl ?_
  refine l1_callV hQ mt_X5_addLocal mt_X2_size rfl rfl (o := (p1 + 3)) (ci := 1) (As := []) (rest := [.ref 3]) rfl rfl (kc6_1 hp1) rfl rfl rfl (st1 := fun x11 => [.int x11, .ref 3]) (fun _ => rfl) (ok_X2_size hQ c10 (p1 + 3) (kc6_1 hp1)) (fun x11 c12 => ?_)
  refine l1_many mt_X5_addLocal (pc' := 98) (L' := [some (.ref 36), some (.ref p1), some (.int p2)]) (st' := [.int 4, .long x11.toInt64, .ref 3]) 2 rfl ?_
  refine l1_callV hQ mt_X5_addLocal mt_X2_addLittle rfl rfl (o := 3) (ci := 1) (As := [.long x11.toInt64, .int 4]) (rest := []) rfl rfl rfl rfl rfl rfl (st1 := fun _ => []) (fun _ => rfl) (ok_X2_addLittle hQ N c12 3 x11.toInt64 4 rfl) (fun _ c13 => ?_)
  refine l1_many mt_X5_addLocal (pc' := 102) (L' := [some (.ref 36), some (.ref p1), some (.int p2)]) (st' := [.ref 36]) 1 rfl ?_
  refine l1_getR hQ mt_X5_addLocal rfl (o := 36) (ci := 4) (k := 0) (a := 1) (b := 2) rfl rfl rfl rfl rfl (q := 3) rfl ?_
  refine l1_many mt_X5_addLocal (pc' := 106) (L' := [some (.ref 36), some (.ref p1), some (.int p2)]) (st' := [.ref p1, .ref 3]) 1 rfl ?_
  refine l1_callS mt_X5_addLocal mt_X5_titleBytes rfl rfl (As := [.ref p1]) (rest := [.ref 3]) rfl rfl rfl (st1 := fun x14 => [.int x14, .ref 3]) (fun _ => rfl) (ok_X5_titleBytes hQ c13 p1 hp1) (fun x14 c15 => ?_)
  refine l1_many mt_X5_addLocal (pc' := 111) (L' := [some (.ref 36), some (.ref p1), some (.int p2)]) (st' := [.int 2, .long x14.toInt64, .ref 3]) 2 rfl ?_
  refine l1_callV hQ mt_X5_addLocal mt_X2_addLittle rfl rfl (o := 3) (ci := 1) (As := [.long x14.toInt64, .int 2]) (rest := []) rfl rfl rfl rfl rfl rfl (st1 := fun _ => []) (fun _ => rfl) (ok_X2_addLittle hQ N c15 3 x14.toInt64 2 rfl) (fun _ c16 => ?_)
  refine l1_many mt_X5_addLocal (pc' := 115) (L' := [some (.ref 36), some (.ref p1), some (.int p2)]) (st' := [.ref 36]) 1 rfl ?_
  refine l1_getR hQ mt_X5_addLocal rfl (o := 36) (ci := 4) (k := 0) (a := 1) (b := 2) rfl rfl rfl rfl rfl (q := 3) rfl ?_
  refine l1_many mt_X5_addLocal (pc' := 120) (L' := [some (.ref 36), some (.ref p1), some (.int p2)]) (st' := [.int 2, .long 0, .ref 3]) 2 rfl ?_
  refine l1_callV hQ mt_X5_addLocal mt_X2_addLittle rfl rfl (o := 3) (ci := 1) (As := [.long 0, .int 2]) (rest := []) rfl rfl rfl rfl rfl rfl (st1 := fun _ => []) (fun _ => rfl) (ok_X2_addLittle hQ N c16 3 0 2 rfl) (fun _ c17 => ?_)
  refine l1_many mt_X5_addLocal (pc' := 126) (L' := [some (.ref 36), some (.ref p1), some (.int p2)]) (st' := [.int 1, .ref p1, .ref 36]) 3 rfl ?_
  refine l1_callV hQ mt_X5_addLocal mt_X0_addTitle rfl rfl (o := 36) (ci := 4) (As := [.ref p1, .int 1]) (rest := []) rfl rfl rfl rfl rfl rfl (st1 := fun _ => []) (fun _ => rfl) (ok_X0_addTitle_36 hQ N c17 p1 1 hp1) (fun _ c18 => ?_)
  exact l1_ret mt_X5_addLocal rfl rfl rfl
theorem ok_X5_addLocal {Q : hS → am_H → Prop} (hQ : l1_em kc Q) (N : Nat) (c : hS) (p1 : Nat) (p2 : Int32) (hp1 : kc p1 = 6) : l1_T wV Q am_i_X5_addLocal [.ref 36, .ref p1, .int p2] c (f_X5_addLocal N c p1 p2) := l1_of (en_X5_addLocal hQ N c p1 p2 hp1) ⟨rfl, rfl, rfl, trivial⟩
set_option maxRecDepth 100000 in
theorem ok_X5_setSize_2 {Q : hS → am_H → Prop} (hQ : l1_em kc Q) (N : Nat) (p1 : Int32) (p2 : Int32) : ∀ n : Nat, ∀ (c : hS) (v3 : Int32), l1_G (wN wV) Q am_i_X5_setSize 2 [some (.ref 36), some (.int p1), some (.int p2), some (.int v3)] [] c (f_X5_setSize_2 N p1 p2 n c v3) := by
  intro n
  induction n with
  | zero => intro c v3; exact l1_none
  | succ n ih =>
    intro c v3
    rw [f_X5_setSize_2]
    refine l1_many mt_X5_setSize (pc' := bif am_cc .ge v3 4 then 32 else 7) (L' := [some (.ref 36), some (.int p1), some (.int p2), some (.int v3)]) (st' := []) 3 rfl ?_
    refine l1_bif rfl ?_ ?_
    · exact l1_ret mt_X5_setSize rfl rfl rfl
    · refine l1_many mt_X5_setSize (pc' := 8) (L' := [some (.ref 36), some (.int p1), some (.int p2), some (.int v3)]) (st' := [.ref 36]) 1 rfl ?_
      refine l1_getR hQ mt_X5_setSize rfl (o := 36) (ci := 4) (k := 0) (a := 1) (b := 2) rfl rfl rfl rfl rfl (q := 3) rfl ?_
      refine l1_many mt_X5_setSize (pc' := 23) (L' := [some (.ref 36), some (.int p1), some (.int p2), some (.int v3)]) (st' := [.int (j_ushr p2 (8 * v3)), .int ((p1 + 18) + v3), .ref 3]) 10 rfl ?_
      refine l1_callV hQ mt_X5_setSize mt_X2_set rfl rfl (o := 3) (ci := 1) (As := [.int ((p1 + 18) + v3), .int (j_ushr p2 (8 * v3))]) (rest := []) rfl rfl rfl rfl rfl rfl (st1 := fun _ => []) (fun _ => rfl) (ok_X2_set hQ c 3 ((p1 + 18) + v3) (j_ushr p2 (8 * v3)) rfl) (fun _ c1 => ?_)
      refine l1_many mt_X5_setSize (pc' := 2) (L' := [some (.ref 36), some (.int p1), some (.int p2), some (.int (v3 + 1))]) (st' := []) 2 rfl ?_
      exact ih c1 (v3 + 1)
set_option maxRecDepth 100000 in
theorem en_X5_setSize {Q : hS → am_H → Prop} (hQ : l1_em kc Q) (N : Nat) (c : hS) (p1 : Int32) (p2 : Int32) : l1_G (wN wV) Q am_i_X5_setSize 0 [some (.ref 36), some (.int p1), some (.int p2)] [] c (f_X5_setSize N c p1 p2) := by
  rw [f_X5_setSize]
  refine l1_many mt_X5_setSize (pc' := 2) (L' := [some (.ref 36), some (.int p1), some (.int p2), some (.int 0)]) (st' := []) 2 rfl ?_
  exact ok_X5_setSize_2 hQ N p1 p2 N c 0
theorem ok_X5_setSize {Q : hS → am_H → Prop} (hQ : l1_em kc Q) (N : Nat) (c : hS) (p1 : Int32) (p2 : Int32) : l1_T wV Q am_i_X5_setSize [.ref 36, .int p1, .int p2] c (f_X5_setSize N c p1 p2) := l1_of (en_X5_setSize hQ N c p1 p2) ⟨rfl, rfl, rfl, trivial⟩
set_option maxRecDepth 100000 in
theorem ok_X8_addBits_2 {Q : hS → am_H → Prop} (hQ : l1_em kc Q) (N : Nat) (p1 : Int32) (p2 : Int32) : ∀ n : Nat, ∀ (c : hS) (v3 : Int32), l1_G (wN wV) Q am_i_X8_addBits 2 [some (.ref 10), some (.int p1), some (.int p2), some (.int v3)] [] c (f_X8_addBits_2 N p1 p2 n c v3) := by
  intro n
  induction n with
  | zero => intro c v3; exact l1_none
  | succ n ih =>
    intro c v3
    rw [f_X8_addBits_2]
    refine l1_many mt_X8_addBits (pc' := bif am_cc .ge v3 p2 then 72 else 7) (L' := [some (.ref 10), some (.int p1), some (.int p2), some (.int v3)]) (st' := []) 3 rfl ?_
    refine l1_bif rfl ?_ ?_
    · exact l1_ret mt_X8_addBits rfl rfl rfl
    · refine l1_many mt_X8_addBits (pc' := 9) (L' := [some (.ref 10), some (.int p1), some (.int p2), some (.int v3)]) (st' := [.ref 10, .ref 10]) 2 rfl ?_
      refine l1_getI hQ mt_X8_addBits rfl (o := 10) (ci := 7) (k := 1) (a := 0) (b := 0) rfl rfl rfl rfl rfl ?_
      refine l1_many mt_X8_addBits (pc' := 18) (L' := [some (.ref 10), some (.int p1), some (.int p2), some (.int v3)]) (st' := [.ref 10, .int ((j_shr p1 v3) &&& 1), .int (c.1 10 1), .ref 10]) 6 rfl ?_
      refine l1_getI hQ mt_X8_addBits rfl (o := 10) (ci := 7) (k := 2) (a := 0) (b := 0) rfl rfl rfl rfl rfl ?_
      refine l1_many mt_X8_addBits (pc' := 23) (L' := [some (.ref 10), some (.int p1), some (.int p2), some (.int v3)]) (st' := [.int ((c.1 10 1) ||| (j_shl ((j_shr p1 v3) &&& 1) (c.1 10 2))), .ref 10]) 2 rfl ?_
      refine l1_putI hQ mt_X8_addBits rfl (o := 10) (ci := 7) (k := 1) (a := 0) rfl rfl rfl rfl rfl rfl (fun c1 => ?_)
      refine l1_many mt_X8_addBits (pc' := 28) (L' := [some (.ref 10), some (.int p1), some (.int p2), some (.int v3)]) (st' := [.ref 10, .ref 10]) 2 rfl ?_
      refine l1_getI hQ mt_X8_addBits rfl (o := 10) (ci := 7) (k := 2) (a := 0) (b := 0) rfl rfl rfl rfl rfl ?_
      refine l1_many mt_X8_addBits (pc' := 33) (L' := [some (.ref 10), some (.int p1), some (.int p2), some (.int v3)]) (st' := [.int ((c1.1 10 2) + 1), .ref 10]) 2 rfl ?_
      refine l1_putI hQ mt_X8_addBits rfl (o := 10) (ci := 7) (k := 2) (a := 0) rfl rfl rfl rfl rfl rfl (fun c2 => ?_)
      refine l1_many mt_X8_addBits (pc' := 37) (L' := [some (.ref 10), some (.int p1), some (.int p2), some (.int v3)]) (st' := [.ref 10]) 1 rfl ?_
      refine l1_getI hQ mt_X8_addBits rfl (o := 10) (ci := 7) (k := 2) (a := 0) (b := 0) rfl rfl rfl rfl rfl ?_
      refine l1_many mt_X8_addBits (pc' := bif am_cc .ne (c2.1 10 2) 8 then 66 else 45) (L' := [some (.ref 10), some (.int p1), some (.int p2), some (.int v3)]) (st' := []) 2 rfl ?_
      refine l1_bin rfl ?_ ?_
      · refine l1_many mt_X8_addBits (pc' := 46) (L' := [some (.ref 10), some (.int p1), some (.int p2), some (.int v3)]) (st' := [.ref 10]) 1 rfl ?_
        refine l1_getR hQ mt_X8_addBits rfl (o := 10) (ci := 7) (k := 0) (a := 0) (b := 1) rfl rfl rfl rfl rfl (q := 3) rfl ?_
        refine l1_many mt_X8_addBits (pc' := 50) (L' := [some (.ref 10), some (.int p1), some (.int p2), some (.int v3)]) (st' := [.ref 10, .ref 3]) 1 rfl ?_
        refine l1_getI hQ mt_X8_addBits rfl (o := 10) (ci := 7) (k := 1) (a := 0) (b := 0) rfl rfl rfl rfl rfl ?_
        refine l1_callV hQ mt_X8_addBits mt_X2_add rfl rfl (o := 3) (ci := 1) (As := [.int (c2.1 10 1)]) (rest := []) rfl rfl rfl rfl rfl rfl (st1 := fun _ => []) (fun _ => rfl) (ok_X2_add hQ c2 3 (c2.1 10 1) rfl) (fun _ c3 => ?_)
        refine l1_many mt_X8_addBits (pc' := 58) (L' := [some (.ref 10), some (.int p1), some (.int p2), some (.int v3)]) (st' := [.int 0, .ref 10]) 2 rfl ?_
        refine l1_putI hQ mt_X8_addBits rfl (o := 10) (ci := 7) (k := 1) (a := 0) rfl rfl rfl rfl rfl rfl (fun c4 => ?_)
        refine l1_many mt_X8_addBits (pc' := 63) (L' := [some (.ref 10), some (.int p1), some (.int p2), some (.int v3)]) (st' := [.int 0, .ref 10]) 2 rfl ?_
        refine l1_putI hQ mt_X8_addBits rfl (o := 10) (ci := 7) (k := 2) (a := 0) rfl rfl rfl rfl rfl rfl (fun c5 => ?_)
        refine l1_many mt_X8_addBits (pc' := 2) (L' := [some (.ref 10), some (.int p1), some (.int p2), some (.int (v3 + 1))]) (st' := []) 2 rfl ?_
        exact ih c5 (v3 + 1)
      · refine l1_many mt_X8_addBits (pc' := 2) (L' := [some (.ref 10), some (.int p1), some (.int p2), some (.int (v3 + 1))]) (st' := []) 2 rfl ?_
        exact ih c2 (v3 + 1)
set_option maxRecDepth 100000 in
theorem en_X8_addBits {Q : hS → am_H → Prop} (hQ : l1_em kc Q) (N : Nat) (c : hS) (p1 : Int32) (p2 : Int32) : l1_G (wN wV) Q am_i_X8_addBits 0 [some (.ref 10), some (.int p1), some (.int p2)] [] c (f_X8_addBits N c p1 p2) := by
  rw [f_X8_addBits]
  refine l1_many mt_X8_addBits (pc' := 2) (L' := [some (.ref 10), some (.int p1), some (.int p2), some (.int 0)]) (st' := []) 2 rfl ?_
  exact ok_X8_addBits_2 hQ N p1 p2 N c 0
theorem ok_X8_addBits {Q : hS → am_H → Prop} (hQ : l1_em kc Q) (N : Nat) (c : hS) (p1 : Int32) (p2 : Int32) : l1_T wV Q am_i_X8_addBits [.ref 10, .int p1, .int p2] c (f_X8_addBits N c p1 p2) := l1_of (en_X8_addBits hQ N c p1 p2) ⟨rfl, rfl, rfl, trivial⟩
set_option maxRecDepth 100000 in
theorem ok_X8_addCode_4 {Q : hS → am_H → Prop} (hQ : l1_em kc Q) (N : Nat) (p1 : Int32) (p2 : Int32) : ∀ n : Nat, ∀ (c : hS) (v3 : Int32), l1_G (wN wV) Q am_i_X8_addCode 4 [some (.ref 10), some (.int p1), none, some (.int v3)] [] c (f_X8_addCode_4 N p1 p2 n c v3) := by
  intro n
  induction n with
  | zero => intro c v3; exact l1_none
  | succ n ih =>
    intro c v3
    rw [f_X8_addCode_4]
    refine l1_many mt_X8_addCode (pc' := bif am_cc .lt v3 0 then 22 else 8) (L' := [some (.ref 10), some (.int p1), none, some (.int v3)]) (st' := []) 2 rfl ?_
    refine l1_bif rfl ?_ ?_
    · exact l1_ret mt_X8_addCode rfl rfl rfl
    · refine l1_many mt_X8_addCode (pc' := 13) (L' := [some (.ref 10), some (.int p1), none, some (.int v3)]) (st' := [.int 1, .int (j_shr p1 v3), .ref 10]) 5 rfl ?_
      refine l1_callV hQ mt_X8_addCode mt_X8_addBits rfl rfl (o := 10) (ci := 7) (As := [.int (j_shr p1 v3), .int 1]) (rest := []) rfl rfl rfl rfl rfl rfl (st1 := fun _ => []) (fun _ => rfl) (ok_X8_addBits hQ N c (j_shr p1 v3) 1) (fun _ c1 => ?_)
      refine l1_many mt_X8_addCode (pc' := 4) (L' := [some (.ref 10), some (.int p1), none, some (.int (v3 + (-1)))]) (st' := []) 2 rfl ?_
      exact ih c1 (v3 + (-1))
set_option maxRecDepth 100000 in
theorem en_X8_addCode {Q : hS → am_H → Prop} (hQ : l1_em kc Q) (N : Nat) (c : hS) (p1 : Int32) (p2 : Int32) : l1_G (wN wV) Q am_i_X8_addCode 0 [some (.ref 10), some (.int p1), some (.int p2)] [] c (f_X8_addCode N c p1 p2) := by
  rw [f_X8_addCode]
  refine l1_many mt_X8_addCode (pc' := 4) (L' := [some (.ref 10), some (.int p1), some (.int p2), some (.int (p2 - 1))]) (st' := []) 4 rfl ?_
  refine l1_weak (m := [true, true, false, true]) (L' := [some (.ref 10), some (.int p1), none, some (.int (p2 - 1))]) rfl ?_
  exact ok_X8_addCode_4 hQ N p1 p2 N c (p2 - 1)
theorem ok_X8_addCode {Q : hS → am_H → Prop} (hQ : l1_em kc Q) (N : Nat) (c : hS) (p1 : Int32) (p2 : Int32) : l1_T wV Q am_i_X8_addCode [.ref 10, .int p1, .int p2] c (f_X8_addCode N c p1 p2) := l1_of (en_X8_addCode hQ N c p1 p2) ⟨rfl, rfl, rfl, trivial⟩
set_option maxRecDepth 100000 in
theorem en_X8_addSymbol {Q : hS → am_H → Prop} (hQ : l1_em kc Q) (N : Nat) (c : hS) (p1 : Int32) : l1_G (wN wV) Q am_i_X8_addSymbol 0 [some (.ref 10), some (.int p1)] [] c (f_X8_addSymbol N c p1) := by
  rw [f_X8_addSymbol]
  refine l1_many mt_X8_addSymbol (pc' := bif am_cc .ge p1 144 then 20 else 7) (L' := [some (.ref 10), some (.int p1)]) (st' := []) 3 rfl ?_
  refine l1_bif rfl ?_ ?_
  · refine l1_many mt_X8_addSymbol (pc' := bif am_cc .ge p1 256 then 45 else 27) (L' := [some (.ref 10), some (.int p1)]) (st' := []) 3 rfl ?_
    refine l1_bif rfl ?_ ?_
    · refine l1_many mt_X8_addSymbol (pc' := bif am_cc .ge p1 280 then 66 else 52) (L' := [some (.ref 10), some (.int p1)]) (st' := []) 3 rfl ?_
      refine l1_bif rfl ?_ ?_
      · refine l1_many mt_X8_addSymbol (pc' := 78) (L' := [some (.ref 10), some (.int p1)]) (st' := [.int 8, .int ((192 + p1) - 280), .ref 10]) 7 rfl ?_
        refine l1_callV hQ mt_X8_addSymbol mt_X8_addCode rfl rfl (o := 10) (ci := 7) (As := [.int ((192 + p1) - 280), .int 8]) (rest := []) rfl rfl rfl rfl rfl rfl (st1 := fun _ => []) (fun _ => rfl) (ok_X8_addCode hQ N c ((192 + p1) - 280) 8) (fun _ c1 => ?_)
        exact l1_ret mt_X8_addSymbol rfl rfl rfl
      · refine l1_many mt_X8_addSymbol (pc' := 60) (L' := [some (.ref 10), some (.int p1)]) (st' := [.int 7, .int (p1 - 256), .ref 10]) 5 rfl ?_
        refine l1_callV hQ mt_X8_addSymbol mt_X8_addCode rfl rfl (o := 10) (ci := 7) (As := [.int (p1 - 256), .int 7]) (rest := []) rfl rfl rfl rfl rfl rfl (st1 := fun _ => []) (fun _ => rfl) (ok_X8_addCode hQ N c (p1 - 256) 7) (fun _ c2 => ?_)
        refine l1_many mt_X8_addSymbol (pc' := 81) (L' := [some (.ref 10), some (.int p1)]) (st' := []) 1 rfl ?_
        exact l1_ret mt_X8_addSymbol rfl rfl rfl
    · refine l1_many mt_X8_addSymbol (pc' := 39) (L' := [some (.ref 10), some (.int p1)]) (st' := [.int 9, .int ((400 + p1) - 144), .ref 10]) 7 rfl ?_
      refine l1_callV hQ mt_X8_addSymbol mt_X8_addCode rfl rfl (o := 10) (ci := 7) (As := [.int ((400 + p1) - 144), .int 9]) (rest := []) rfl rfl rfl rfl rfl rfl (st1 := fun _ => []) (fun _ => rfl) (ok_X8_addCode hQ N c ((400 + p1) - 144) 9) (fun _ c3 => ?_)
      refine l1_many mt_X8_addSymbol (pc' := 81) (L' := [some (.ref 10), some (.int p1)]) (st' := []) 1 rfl ?_
      exact l1_ret mt_X8_addSymbol rfl rfl rfl
  · refine l1_many mt_X8_addSymbol (pc' := 14) (L' := [some (.ref 10), some (.int p1)]) (st' := [.int 8, .int (48 + p1), .ref 10]) 5 rfl ?_
    refine l1_callV hQ mt_X8_addSymbol mt_X8_addCode rfl rfl (o := 10) (ci := 7) (As := [.int (48 + p1), .int 8]) (rest := []) rfl rfl rfl rfl rfl rfl (st1 := fun _ => []) (fun _ => rfl) (ok_X8_addCode hQ N c (48 + p1) 8) (fun _ c4 => ?_)
    refine l1_many mt_X8_addSymbol (pc' := 81) (L' := [some (.ref 10), some (.int p1)]) (st' := []) 1 rfl ?_
    exact l1_ret mt_X8_addSymbol rfl rfl rfl
theorem ok_X8_addSymbol {Q : hS → am_H → Prop} (hQ : l1_em kc Q) (N : Nat) (c : hS) (p1 : Int32) : l1_T wV Q am_i_X8_addSymbol [.ref 10, .int p1] c (f_X8_addSymbol N c p1) := l1_of (en_X8_addSymbol hQ N c p1) ⟨rfl, rfl, trivial⟩
set_option maxRecDepth 100000 in
theorem ok_X8_distanceSymbol_3 {Q : hS → am_H → Prop} (hQ : l1_em kc Q) (N : Nat) : ∀ n : Nat, ∀ (c : hS) (v1 : Int32), l1_G (wN wI) Q am_i_X8_distanceSymbol 3 [some (.ref 10), some (.int v1)] [] c (f_X8_distanceSymbol_3 N n c v1) := by
  intro n
  induction n with
  | zero => intro c v1; exact l1_none
  | succ n ih =>
    intro c v1
    rw [f_X8_distanceSymbol_3]
    refine l1_many mt_X8_distanceSymbol (pc' := bif am_cc .le v1 0 then 24 else 7) (L' := [some (.ref 10), some (.int v1)]) (st' := []) 2 rfl ?_
    refine l1_bif rfl ?_ ?_
    · refine l1_many mt_X8_distanceSymbol (pc' := 25) (L' := [some (.ref 10), some (.int v1)]) (st' := [.int v1]) 1 rfl ?_
      exact l1_ret mt_X8_distanceSymbol rfl rfl rfl
    · refine l1_many mt_X8_distanceSymbol (pc' := 8) (L' := [some (.ref 10), some (.int v1)]) (st' := [.int v1]) 1 rfl ?_
      refine l1_callS mt_X8_distanceSymbol mt_X11_distanceBase rfl rfl (As := [.int v1]) (rest := []) rfl rfl rfl (st1 := fun x1 => [.int x1]) (fun _ => rfl) (ok_X11_distanceBase hQ c v1) (fun x1 c2 => ?_)
      refine l1_many mt_X8_distanceSymbol (pc' := 12) (L' := [some (.ref 10), some (.int v1)]) (st' := [.ref 10, .int x1]) 1 rfl ?_
      refine l1_getI hQ mt_X8_distanceSymbol rfl (o := 10) (ci := 7) (k := 3) (a := 0) (b := 0) rfl rfl rfl rfl rfl ?_
      refine l1_many mt_X8_distanceSymbol (pc' := bif am_cc .le x1 (c2.1 10 3) then 24 else 18) (L' := [some (.ref 10), some (.int v1)]) (st' := []) 1 rfl ?_
      refine l1_bif rfl ?_ ?_
      · refine l1_many mt_X8_distanceSymbol (pc' := 25) (L' := [some (.ref 10), some (.int v1)]) (st' := [.int v1]) 1 rfl ?_
        exact l1_ret mt_X8_distanceSymbol rfl rfl rfl
      · refine l1_many mt_X8_distanceSymbol (pc' := 3) (L' := [some (.ref 10), some (.int (v1 + (-1)))]) (st' := []) 2 rfl ?_
        exact ih c2 (v1 + (-1))
set_option maxRecDepth 100000 in
theorem en_X8_distanceSymbol {Q : hS → am_H → Prop} (hQ : l1_em kc Q) (N : Nat) (c : hS) : l1_G (wN wI) Q am_i_X8_distanceSymbol 0 [some (.ref 10)] [] c (f_X8_distanceSymbol N c) := by
  rw [f_X8_distanceSymbol]
  refine l1_many mt_X8_distanceSymbol (pc' := 3) (L' := [some (.ref 10), some (.int 29)]) (st' := []) 2 rfl ?_
  exact ok_X8_distanceSymbol_3 hQ N N c 29
theorem ok_X8_distanceSymbol {Q : hS → am_H → Prop} (hQ : l1_em kc Q) (N : Nat) (c : hS) : l1_T wI Q am_i_X8_distanceSymbol [.ref 10] c (f_X8_distanceSymbol N c) := l1_of (en_X8_distanceSymbol hQ N c) ⟨rfl, trivial⟩
set_option maxRecDepth 100000 in
theorem ok_X8_lengthStep_3 {Q : hS → am_H → Prop} (hQ : l1_em kc Q) (N : Nat) (p1 : Int32) : ∀ n : Nat, ∀ (c : hS) (v2 : Int32), l1_G (wN wI) Q am_i_X8_lengthStep 3 [none, some (.int p1), some (.int v2)] [] c (f_X8_lengthStep_3 N p1 n c v2) := by
  intro n
  induction n with
  | zero => intro c v2; exact l1_none
  | succ n ih =>
    intro c v2
    rw [f_X8_lengthStep_3]
    refine l1_many mt_X8_lengthStep (pc' := bif am_cc .le v2 0 then 21 else 7) (L' := [none, some (.int p1), some (.int v2)]) (st' := []) 2 rfl ?_
    refine l1_bif rfl ?_ ?_
    · refine l1_many mt_X8_lengthStep (pc' := 22) (L' := [none, some (.int p1), some (.int v2)]) (st' := [.int v2]) 1 rfl ?_
      exact l1_ret mt_X8_lengthStep rfl rfl rfl
    · refine l1_many mt_X8_lengthStep (pc' := 8) (L' := [none, some (.int p1), some (.int v2)]) (st' := [.int v2]) 1 rfl ?_
      refine l1_callS mt_X8_lengthStep mt_X11_lengthBase rfl rfl (As := [.int v2]) (rest := []) rfl rfl rfl (st1 := fun x1 => [.int x1]) (fun _ => rfl) (ok_X11_lengthBase hQ c v2) (fun x1 c2 => ?_)
      refine l1_many mt_X8_lengthStep (pc' := bif am_cc .le x1 p1 then 21 else 15) (L' := [none, some (.int p1), some (.int v2)]) (st' := []) 2 rfl ?_
      refine l1_bif rfl ?_ ?_
      · refine l1_many mt_X8_lengthStep (pc' := 22) (L' := [none, some (.int p1), some (.int v2)]) (st' := [.int v2]) 1 rfl ?_
        exact l1_ret mt_X8_lengthStep rfl rfl rfl
      · refine l1_many mt_X8_lengthStep (pc' := 3) (L' := [none, some (.int p1), some (.int (v2 + (-1)))]) (st' := []) 2 rfl ?_
        exact ih c2 (v2 + (-1))
set_option maxRecDepth 100000 in
theorem en_X8_lengthStep {Q : hS → am_H → Prop} (hQ : l1_em kc Q) (N : Nat) (c : hS) (p1 : Int32) : l1_G (wN wI) Q am_i_X8_lengthStep 0 [some (.ref 10), some (.int p1)] [] c (f_X8_lengthStep N c p1) := by
  rw [f_X8_lengthStep]
  refine l1_many mt_X8_lengthStep (pc' := 3) (L' := [some (.ref 10), some (.int p1), some (.int 28)]) (st' := []) 2 rfl ?_
  refine l1_weak (m := [false, true, true]) (L' := [none, some (.int p1), some (.int 28)]) rfl ?_
  exact ok_X8_lengthStep_3 hQ N p1 N c 28
theorem ok_X8_lengthStep {Q : hS → am_H → Prop} (hQ : l1_em kc Q) (N : Nat) (c : hS) (p1 : Int32) : l1_T wI Q am_i_X8_lengthStep [.ref 10, .int p1] c (f_X8_lengthStep N c p1) := l1_of (en_X8_lengthStep hQ N c p1) ⟨rfl, rfl, trivial⟩
set_option maxRecDepth 100000 in
theorem ok_X8_longestBefore_67 {Q : hS → am_H → Prop} (hQ : l1_em kc Q) (N : Nat) (p1 : Nat) (p2 : Int32) (hp1 : kc p1 = 1) {k21 : hS → Int32 → Int32 → Int32 → Option (Int32 × hS)} (hk21 : ∀ c v3 v4 v5, l1_G (wN wI) Q am_i_X8_longestBefore 21 [some (.ref 10), some (.ref p1), some (.int p2), some (.int v3), some (.int v4), some (.int v5)] [] c (k21 c v3 v4 v5)) : ∀ (c : hS) (v3 : Int32) (v4 : Int32) (v5 : Int32) (v6 : Int32), l1_G (wN wI) Q am_i_X8_longestBefore 67 [some (.ref 10), some (.ref p1), some (.int p2), some (.int v3), some (.int v4), some (.int v5), some (.int v6)] [] c (f_X8_longestBefore_67 N p1 p2 k21 c v3 v4 v5 v6) := by
  intro c v3 v4 v5 v6
  rw [f_X8_longestBefore_67]
  refine l1_many mt_X8_longestBefore (pc' := bif am_cc .le v6 v4 then 86 else 74) (L' := [some (.ref 10), some (.ref p1), some (.int p2), some (.int v3), some (.int v4), some (.int v5), some (.int v6)]) (st' := []) 3 rfl ?_
  refine l1_bif rfl ?_ ?_
  · refine l1_many mt_X8_longestBefore (pc' := 21) (L' := [some (.ref 10), some (.ref p1), some (.int p2), some (.int v3), some (.int v4), some (.int (v5 + (-1))), some (.int v6)]) (st' := []) 2 rfl ?_
    refine l1_weak (m := [true, true, true, true, true, true, false]) (L' := [some (.ref 10), some (.ref p1), some (.int p2), some (.int v3), some (.int v4), some (.int (v5 + (-1)))]) rfl ?_
    exact hk21 c v3 v4 (v5 + (-1))
  · refine l1_many mt_X8_longestBefore (pc' := 83) (L' := [some (.ref 10), some (.ref p1), some (.int p2), some (.int v3), some (.int v6), some (.int v5), some (.int v6)]) (st' := [.int (p2 - v5), .ref 10]) 6 rfl ?_
    refine l1_putI hQ mt_X8_longestBefore rfl (o := 10) (ci := 7) (k := 3) (a := 0) rfl rfl rfl rfl rfl rfl (fun c1 => ?_)
    refine l1_many mt_X8_longestBefore (pc' := 21) (L' := [some (.ref 10), some (.ref p1), some (.int p2), some (.int v3), some (.int v6), some (.int (v5 + (-1))), some (.int v6)]) (st' := []) 2 rfl ?_
    refine l1_weak (m := [true, true, true, true, true, true, false]) (L' := [some (.ref 10), some (.ref p1), some (.int p2), some (.int v3), some (.int v6), some (.int (v5 + (-1)))]) rfl ?_
    exact hk21 c1 v3 v6 (v5 + (-1))
set_option maxRecDepth 100000 in
theorem ok_X8_longestBefore_35 {Q : hS → am_H → Prop} (hQ : l1_em kc Q) (N : Nat) (p1 : Nat) (p2 : Int32) (hp1 : kc p1 = 1) {k21 : hS → Int32 → Int32 → Int32 → Option (Int32 × hS)} (hk21 : ∀ c v3 v4 v5, l1_G (wN wI) Q am_i_X8_longestBefore 21 [some (.ref 10), some (.ref p1), some (.int p2), some (.int v3), some (.int v4), some (.int v5)] [] c (k21 c v3 v4 v5)) : ∀ n : Nat, ∀ (c : hS) (v3 : Int32) (v4 : Int32) (v5 : Int32) (v6 : Int32), l1_G (wN wI) Q am_i_X8_longestBefore 35 [some (.ref 10), some (.ref p1), some (.int p2), some (.int v3), some (.int v4), some (.int v5), some (.int v6)] [] c (f_X8_longestBefore_35 N p1 p2 k21 n c v3 v4 v5 v6) := by
  intro n
  induction n with
  | zero => intro c v3 v4 v5 v6; exact l1_none
  | succ n ih =>
    intro c v3 v4 v5 v6
    rw [f_X8_longestBefore_35]
    refine l1_many mt_X8_longestBefore (pc' := bif am_cc .ge v6 v3 then 67 else 41) (L' := [some (.ref 10), some (.ref p1), some (.int p2), some (.int v3), some (.int v4), some (.int v5), some (.int v6)]) (st' := []) 3 rfl ?_
    refine l1_bif rfl ?_ ?_
    · exact ok_X8_longestBefore_67 hQ N p1 p2 hp1 hk21 c v3 v4 v5 v6
    · refine l1_many mt_X8_longestBefore (pc' := 47) (L' := [some (.ref 10), some (.ref p1), some (.int p2), some (.int v3), some (.int v4), some (.int v5), some (.int v6)]) (st' := [.int (v5 + v6), .ref p1]) 4 rfl ?_
      refine l1_callV hQ mt_X8_longestBefore mt_X2_get rfl rfl (o := p1) (ci := 1) (As := [.int (v5 + v6)]) (rest := []) rfl rfl hp1 rfl rfl rfl (st1 := fun x1 => [.int x1]) (fun _ => rfl) (ok_X2_get hQ c p1 (v5 + v6) hp1) (fun x1 c2 => ?_)
      refine l1_many mt_X8_longestBefore (pc' := 55) (L' := [some (.ref 10), some (.ref p1), some (.int p2), some (.int v3), some (.int v4), some (.int v5), some (.int v6)]) (st' := [.int (p2 + v6), .ref p1, .int x1]) 4 rfl ?_
      refine l1_callV hQ mt_X8_longestBefore mt_X2_get rfl rfl (o := p1) (ci := 1) (As := [.int (p2 + v6)]) (rest := [.int x1]) rfl rfl hp1 rfl rfl rfl (st1 := fun x3 => [.int x3, .int x1]) (fun _ => rfl) (ok_X2_get hQ c2 p1 (p2 + v6) hp1) (fun x3 c4 => ?_)
      refine l1_many mt_X8_longestBefore (pc' := bif am_cc .ne x1 x3 then 67 else 61) (L' := [some (.ref 10), some (.ref p1), some (.int p2), some (.int v3), some (.int v4), some (.int v5), some (.int v6)]) (st' := []) 1 rfl ?_
      refine l1_bin rfl ?_ ?_
      · refine l1_many mt_X8_longestBefore (pc' := 35) (L' := [some (.ref 10), some (.ref p1), some (.int p2), some (.int v3), some (.int v4), some (.int v5), some (.int (v6 + 1))]) (st' := []) 2 rfl ?_
        exact ih c4 v3 v4 v5 (v6 + 1)
      · exact ok_X8_longestBefore_67 hQ N p1 p2 hp1 hk21 c4 v3 v4 v5 v6
set_option maxRecDepth 100000 in
theorem ok_X8_longestBefore_21 {Q : hS → am_H → Prop} (hQ : l1_em kc Q) (N : Nat) (p1 : Nat) (p2 : Int32) (hp1 : kc p1 = 1) : ∀ n : Nat, ∀ (c : hS) (v3 : Int32) (v4 : Int32) (v5 : Int32), l1_G (wN wI) Q am_i_X8_longestBefore 21 [some (.ref 10), some (.ref p1), some (.int p2), some (.int v3), some (.int v4), some (.int v5)] [] c (f_X8_longestBefore_21 N p1 p2 n c v3 v4 v5) := by
  intro n
  induction n with
  | zero => intro c v3 v4 v5; exact l1_none
  | succ n ih =>
    intro c v3 v4 v5
    rw [f_X8_longestBefore_21]
    refine l1_many mt_X8_longestBefore (pc' := bif am_cc .lt v5 0 then 92 else 26) (L' := [some (.ref 10), some (.ref p1), some (.int p2), some (.int v3), some (.int v4), some (.int v5)]) (st' := []) 2 rfl ?_
    refine l1_bif rfl ?_ ?_
    · refine l1_many mt_X8_longestBefore (pc' := 94) (L' := [some (.ref 10), some (.ref p1), some (.int p2), some (.int v3), some (.int v4), some (.int v5)]) (st' := [.int v4]) 1 rfl ?_
      exact l1_ret mt_X8_longestBefore rfl rfl rfl
    · refine l1_many mt_X8_longestBefore (pc' := bif am_cc .ge v4 v3 then 92 else 32) (L' := [some (.ref 10), some (.ref p1), some (.int p2), some (.int v3), some (.int v4), some (.int v5)]) (st' := []) 3 rfl ?_
      refine l1_bif rfl ?_ ?_
      · refine l1_many mt_X8_longestBefore (pc' := 94) (L' := [some (.ref 10), some (.ref p1), some (.int p2), some (.int v3), some (.int v4), some (.int v5)]) (st' := [.int v4]) 1 rfl ?_
        exact l1_ret mt_X8_longestBefore rfl rfl rfl
      · refine l1_many mt_X8_longestBefore (pc' := 35) (L' := [some (.ref 10), some (.ref p1), some (.int p2), some (.int v3), some (.int v4), some (.int v5), some (.int 0)]) (st' := []) 2 rfl ?_
        exact ok_X8_longestBefore_35 hQ N p1 p2 hp1 ih N c v3 v4 v5 0
set_option maxRecDepth 100000 in
theorem en_X8_longestBefore {Q : hS → am_H → Prop} (hQ : l1_em kc Q) (N : Nat) (c : hS) (p1 : Nat) (p2 : Int32) (hp1 : kc p1 = 1) : l1_G (wN wI) Q am_i_X8_longestBefore 0 [some (.ref 10), some (.ref p1), some (.int p2)] [] c (f_X8_longestBefore N c p1 p2) := by
  rw [f_X8_longestBefore]
  refine l1_many mt_X8_longestBefore (pc' := 4) (L' := [some (.ref 10), some (.ref p1), some (.int p2)]) (st' := [.ref p1, .int 258]) 2 rfl ?_
  refine l1_callV hQ mt_X8_longestBefore mt_X2_size rfl rfl (o := p1) (ci := 1) (As := []) (rest := [.int 258]) rfl rfl hp1 rfl rfl rfl (st1 := fun x1 => [.int x1, .int 258]) (fun _ => rfl) (ok_X2_size hQ c p1 hp1) (fun x1 c2 => ?_)
  refine l1_many mt_X8_longestBefore (pc' := 9) (L' := [some (.ref 10), some (.ref p1), some (.int p2)]) (st' := [.int (x1 - p2), .int 258]) 2 rfl ?_
  refine l1_min mt_X8_longestBefore rfl rfl rfl rfl ?_
  refine l1_many mt_X8_longestBefore (pc' := 21) (L' := [some (.ref 10), some (.ref p1), some (.int p2), some (.int (j_min 258 (x1 - p2))), some (.int 0), some (.int (p2 - 1))]) (st' := []) 7 rfl ?_
  exact ok_X8_longestBefore_21 hQ N p1 p2 hp1 N c2 (j_min 258 (x1 - p2)) 0 (p2 - 1)
theorem ok_X8_longestBefore {Q : hS → am_H → Prop} (hQ : l1_em kc Q) (N : Nat) (c : hS) (p1 : Nat) (p2 : Int32) (hp1 : kc p1 = 1) : l1_T wI Q am_i_X8_longestBefore [.ref 10, .ref p1, .int p2] c (f_X8_longestBefore N c p1 p2) := l1_of (en_X8_longestBefore hQ N c p1 p2 hp1) ⟨rfl, rfl, rfl, trivial⟩
set_option maxRecDepth 100000 in
theorem ok_X8_addPacked_24 {Q : hS → am_H → Prop} (hQ : l1_em kc Q) (N : Nat) (p1 : Nat) (hp1 : kc p1 = 1) : ∀ n : Nat, ∀ (c : hS) (v2 : Int32), l1_G (wN wV) Q am_i_X8_addPacked 24 [some (.ref 10), some (.ref p1), some (.int v2)] [] c (f_X8_addPacked_24 N p1 n c v2) := by
  intro n
  induction n with
  | zero => intro c v2; exact l1_none
  | succ n ih =>
    intro c v2
    rw [f_X8_addPacked_24]
    refine l1_many mt_X8_addPacked (pc' := 26) (L' := [some (.ref 10), some (.ref p1), some (.int v2)]) (st' := [.ref p1, .int v2]) 2 rfl ?_
    refine l1_callV hQ mt_X8_addPacked mt_X2_size rfl rfl (o := p1) (ci := 1) (As := []) (rest := [.int v2]) rfl rfl hp1 rfl rfl rfl (st1 := fun x1 => [.int x1, .int v2]) (fun _ => rfl) (ok_X2_size hQ c p1 hp1) (fun x1 c2 => ?_)
    refine l1_many mt_X8_addPacked (pc' := bif am_cc .ge v2 x1 then 131 else 32) (L' := [some (.ref 10), some (.ref p1), some (.int v2)]) (st' := []) 1 rfl ?_
    refine l1_bif rfl ?_ ?_
    · refine l1_many mt_X8_addPacked (pc' := 135) (L' := [some (.ref 10), some (.ref p1), some (.int v2)]) (st' := [.int 256, .ref 10]) 2 rfl ?_
      refine l1_callV hQ mt_X8_addPacked mt_X8_addSymbol rfl rfl (o := 10) (ci := 7) (As := [.int 256]) (rest := []) rfl rfl rfl rfl rfl rfl (st1 := fun _ => []) (fun _ => rfl) (ok_X8_addSymbol hQ N c2 256) (fun _ c3 => ?_)
      refine l1_many mt_X8_addPacked (pc' := 139) (L' := [some (.ref 10), some (.ref p1), some (.int v2)]) (st' := [.ref 10]) 1 rfl ?_
      refine l1_getI hQ mt_X8_addPacked rfl (o := 10) (ci := 7) (k := 2) (a := 0) (b := 0) rfl rfl rfl rfl rfl ?_
      refine l1_many mt_X8_addPacked (pc' := bif am_cc .le (c3.1 10 2) 0 then 156 else 145) (L' := [some (.ref 10), some (.ref p1), some (.int v2)]) (st' := []) 1 rfl ?_
      refine l1_bif rfl ?_ ?_
      · exact l1_ret mt_X8_addPacked rfl rfl rfl
      · refine l1_many mt_X8_addPacked (pc' := 146) (L' := [some (.ref 10), some (.ref p1), some (.int v2)]) (st' := [.ref 10]) 1 rfl ?_
        refine l1_getR hQ mt_X8_addPacked rfl (o := 10) (ci := 7) (k := 0) (a := 0) (b := 1) rfl rfl rfl rfl rfl (q := 3) rfl ?_
        refine l1_many mt_X8_addPacked (pc' := 150) (L' := [some (.ref 10), some (.ref p1), some (.int v2)]) (st' := [.ref 10, .ref 3]) 1 rfl ?_
        refine l1_getI hQ mt_X8_addPacked rfl (o := 10) (ci := 7) (k := 1) (a := 0) (b := 0) rfl rfl rfl rfl rfl ?_
        refine l1_callV hQ mt_X8_addPacked mt_X2_add rfl rfl (o := 3) (ci := 1) (As := [.int (c3.1 10 1)]) (rest := []) rfl rfl rfl rfl rfl rfl (st1 := fun _ => []) (fun _ => rfl) (ok_X2_add hQ c3 3 (c3.1 10 1) rfl) (fun _ c4 => ?_)
        exact l1_ret mt_X8_addPacked rfl rfl rfl
    · refine l1_many mt_X8_addPacked (pc' := 35) (L' := [some (.ref 10), some (.ref p1), some (.int v2)]) (st' := [.int v2, .ref p1, .ref 10]) 3 rfl ?_
      refine l1_callV hQ mt_X8_addPacked mt_X8_longestBefore rfl rfl (o := 10) (ci := 7) (As := [.ref p1, .int v2]) (rest := []) rfl rfl rfl rfl rfl rfl (st1 := fun x5 => [.int x5]) (fun _ => rfl) (ok_X8_longestBefore hQ N c2 p1 v2 hp1) (fun x5 c6 => ?_)
      refine l1_many mt_X8_addPacked (pc' := bif am_cc .lt x5 3 then 116 else 44) (L' := [some (.ref 10), some (.ref p1), some (.int v2), some (.int x5)]) (st' := []) 4 rfl ?_
      refine l1_bif rfl ?_ ?_
      · refine l1_many mt_X8_addPacked (pc' := 119) (L' := [some (.ref 10), some (.ref p1), some (.int v2), some (.int x5)]) (st' := [.int v2, .ref p1, .ref 10]) 3 rfl ?_
        refine l1_callV hQ mt_X8_addPacked mt_X2_get rfl rfl (o := p1) (ci := 1) (As := [.int v2]) (rest := [.ref 10]) rfl rfl hp1 rfl rfl rfl (st1 := fun x7 => [.int x7, .ref 10]) (fun _ => rfl) (ok_X2_get hQ c6 p1 v2 hp1) (fun x7 c8 => ?_)
        refine l1_callV hQ mt_X8_addPacked mt_X8_addSymbol rfl rfl (o := 10) (ci := 7) (As := [.int x7]) (rest := []) rfl rfl rfl rfl rfl rfl (st1 := fun _ => []) (fun _ => rfl) (ok_X8_addSymbol hQ N c8 x7) (fun _ c9 => ?_)
        refine l1_many mt_X8_addPacked (pc' := 24) (L' := [some (.ref 10), some (.ref p1), some (.int (v2 + 1)), some (.int x5)]) (st' := []) 2 rfl ?_
        refine l1_weak (m := [true, true, true, false, false, false]) (L' := [some (.ref 10), some (.ref p1), some (.int (v2 + 1))]) rfl ?_
        exact ih c9 (v2 + 1)
      · refine l1_many mt_X8_addPacked (pc' := 46) (L' := [some (.ref 10), some (.ref p1), some (.int v2), some (.int x5)]) (st' := [.int x5, .ref 10]) 2 rfl ?_
        refine l1_callV hQ mt_X8_addPacked mt_X8_lengthStep rfl rfl (o := 10) (ci := 7) (As := [.int x5]) (rest := []) rfl rfl rfl rfl rfl rfl (st1 := fun x10 => [.int x10]) (fun _ => rfl) (ok_X8_lengthStep hQ N c6 x5) (fun x10 c11 => ?_)
        refine l1_many mt_X8_addPacked (pc' := 58) (L' := [some (.ref 10), some (.ref p1), some (.int v2), some (.int x5), some (.int x10)]) (st' := [.int (257 + x10), .ref 10]) 5 rfl ?_
        refine l1_callV hQ mt_X8_addPacked mt_X8_addSymbol rfl rfl (o := 10) (ci := 7) (As := [.int (257 + x10)]) (rest := []) rfl rfl rfl rfl rfl rfl (st1 := fun _ => []) (fun _ => rfl) (ok_X8_addSymbol hQ N c11 (257 + x10)) (fun _ c12 => ?_)
        refine l1_many mt_X8_addPacked (pc' := 65) (L' := [some (.ref 10), some (.ref p1), some (.int v2), some (.int x5), some (.int x10)]) (st' := [.int x10, .int x5, .ref 10]) 3 rfl ?_
        refine l1_callS mt_X8_addPacked mt_X11_lengthBase rfl rfl (As := [.int x10]) (rest := [.int x5, .ref 10]) rfl rfl rfl (st1 := fun x13 => [.int x13, .int x5, .ref 10]) (fun _ => rfl) (ok_X11_lengthBase hQ c12 x10) (fun x13 c14 => ?_)
        refine l1_many mt_X8_addPacked (pc' := 71) (L' := [some (.ref 10), some (.ref p1), some (.int v2), some (.int x5), some (.int x10)]) (st' := [.int x10, .int (x5 - x13), .ref 10]) 2 rfl ?_
        refine l1_callS mt_X8_addPacked mt_X11_lengthBits rfl rfl (As := [.int x10]) (rest := [.int (x5 - x13), .ref 10]) rfl rfl rfl (st1 := fun x15 => [.int x15, .int (x5 - x13), .ref 10]) (fun _ => rfl) (ok_X11_lengthBits hQ c14 x10) (fun x15 c16 => ?_)
        refine l1_callV hQ mt_X8_addPacked mt_X8_addBits rfl rfl (o := 10) (ci := 7) (As := [.int (x5 - x13), .int x15]) (rest := []) rfl rfl rfl rfl rfl rfl (st1 := fun _ => []) (fun _ => rfl) (ok_X8_addBits hQ N c16 (x5 - x13) x15) (fun _ c17 => ?_)
        refine l1_many mt_X8_addPacked (pc' := 78) (L' := [some (.ref 10), some (.ref p1), some (.int v2), some (.int x5), some (.int x10)]) (st' := [.ref 10]) 1 rfl ?_
        refine l1_callV hQ mt_X8_addPacked mt_X8_distanceSymbol rfl rfl (o := 10) (ci := 7) (As := []) (rest := []) rfl rfl rfl rfl rfl rfl (st1 := fun x18 => [.int x18]) (fun _ => rfl) (ok_X8_distanceSymbol hQ N c17) (fun x18 c19 => ?_)
        refine l1_many mt_X8_addPacked (pc' := 87) (L' := [some (.ref 10), some (.ref p1), some (.int v2), some (.int x5), some (.int x10), some (.int x18)]) (st' := [.int 5, .int x18, .ref 10]) 4 rfl ?_
        refine l1_callV hQ mt_X8_addPacked mt_X8_addCode rfl rfl (o := 10) (ci := 7) (As := [.int x18, .int 5]) (rest := []) rfl rfl rfl rfl rfl rfl (st1 := fun _ => []) (fun _ => rfl) (ok_X8_addCode hQ N c19 x18 5) (fun _ c20 => ?_)
        refine l1_many mt_X8_addPacked (pc' := 92) (L' := [some (.ref 10), some (.ref p1), some (.int v2), some (.int x5), some (.int x10), some (.int x18)]) (st' := [.ref 10, .ref 10]) 2 rfl ?_
        refine l1_getI hQ mt_X8_addPacked rfl (o := 10) (ci := 7) (k := 3) (a := 0) (b := 0) rfl rfl rfl rfl rfl ?_
        refine l1_many mt_X8_addPacked (pc' := 97) (L' := [some (.ref 10), some (.ref p1), some (.int v2), some (.int x5), some (.int x10), some (.int x18)]) (st' := [.int x18, .int (c20.1 10 3), .ref 10]) 1 rfl ?_
        refine l1_callS mt_X8_addPacked mt_X11_distanceBase rfl rfl (As := [.int x18]) (rest := [.int (c20.1 10 3), .ref 10]) rfl rfl rfl (st1 := fun x21 => [.int x21, .int (c20.1 10 3), .ref 10]) (fun _ => rfl) (ok_X11_distanceBase hQ c20 x18) (fun x21 c22 => ?_)
        refine l1_many mt_X8_addPacked (pc' := 103) (L' := [some (.ref 10), some (.ref p1), some (.int v2), some (.int x5), some (.int x10), some (.int x18)]) (st' := [.int x18, .int ((c20.1 10 3) - x21), .ref 10]) 2 rfl ?_
        refine l1_callS mt_X8_addPacked mt_X11_distanceBits rfl rfl (As := [.int x18]) (rest := [.int ((c20.1 10 3) - x21), .ref 10]) rfl rfl rfl (st1 := fun x23 => [.int x23, .int ((c20.1 10 3) - x21), .ref 10]) (fun _ => rfl) (ok_X11_distanceBits hQ c22 x18) (fun x23 c24 => ?_)
        refine l1_callV hQ mt_X8_addPacked mt_X8_addBits rfl rfl (o := 10) (ci := 7) (As := [.int ((c20.1 10 3) - x21), .int x23]) (rest := []) rfl rfl rfl rfl rfl rfl (st1 := fun _ => []) (fun _ => rfl) (ok_X8_addBits hQ N c24 ((c20.1 10 3) - x21) x23) (fun _ c25 => ?_)
        refine l1_many mt_X8_addPacked (pc' := 24) (L' := [some (.ref 10), some (.ref p1), some (.int (v2 + x5)), some (.int x5), some (.int x10), some (.int x18)]) (st' := []) 6 rfl ?_
        refine l1_weak (m := [true, true, true, false, false, false]) (L' := [some (.ref 10), some (.ref p1), some (.int (v2 + x5))]) rfl ?_
        exact ih c25 (v2 + x5)
set_option maxRecDepth 100000 in
theorem en_X8_addPacked {Q : hS → am_H → Prop} (hQ : l1_em kc Q) (N : Nat) (c : hS) (p1 : Nat) (hp1 : kc p1 = 1) : l1_G (wN wV) Q am_i_X8_addPacked 0 [some (.ref 10), some (.ref p1)] [] c (f_X8_addPacked N c p1) := by
  rw [f_X8_addPacked]
  refine l1_many mt_X8_addPacked (pc' := 2) (L' := [some (.ref 10), some (.ref p1)]) (st' := [.int 0, .ref 10]) 2 rfl ?_
  refine l1_putI hQ mt_X8_addPacked rfl (o := 10) (ci := 7) (k := 1) (a := 0) rfl rfl rfl rfl rfl rfl (fun c1 => ?_)
  refine l1_many mt_X8_addPacked (pc' := 7) (L' := [some (.ref 10), some (.ref p1)]) (st' := [.int 0, .ref 10]) 2 rfl ?_
  refine l1_putI hQ mt_X8_addPacked rfl (o := 10) (ci := 7) (k := 2) (a := 0) rfl rfl rfl rfl rfl rfl (fun c2 => ?_)
  refine l1_many mt_X8_addPacked (pc' := 13) (L' := [some (.ref 10), some (.ref p1)]) (st' := [.int 1, .int 1, .ref 10]) 3 rfl ?_
  refine l1_callV hQ mt_X8_addPacked mt_X8_addBits rfl rfl (o := 10) (ci := 7) (As := [.int 1, .int 1]) (rest := []) rfl rfl rfl rfl rfl rfl (st1 := fun _ => []) (fun _ => rfl) (ok_X8_addBits hQ N c2 1 1) (fun _ c3 => ?_)
  refine l1_many mt_X8_addPacked (pc' := 19) (L' := [some (.ref 10), some (.ref p1)]) (st' := [.int 2, .int 1, .ref 10]) 3 rfl ?_
  refine l1_callV hQ mt_X8_addPacked mt_X8_addBits rfl rfl (o := 10) (ci := 7) (As := [.int 1, .int 2]) (rest := []) rfl rfl rfl rfl rfl rfl (st1 := fun _ => []) (fun _ => rfl) (ok_X8_addBits hQ N c3 1 2) (fun _ c4 => ?_)
  refine l1_many mt_X8_addPacked (pc' := 24) (L' := [some (.ref 10), some (.ref p1), some (.int 0)]) (st' := []) 2 rfl ?_
  exact ok_X8_addPacked_24 hQ N p1 hp1 N c4 0
theorem ok_X8_addPacked {Q : hS → am_H → Prop} (hQ : l1_em kc Q) (N : Nat) (c : hS) (p1 : Nat) (hp1 : kc p1 = 1) : l1_T wV Q am_i_X8_addPacked [.ref 10, .ref p1] c (f_X8_addPacked N c p1) := l1_of (en_X8_addPacked hQ N c p1 hp1) ⟨rfl, rfl, trivial⟩
set_option maxRecDepth 100000 in
theorem ok_X5_layOut_120 {Q : hS → am_H → Prop} (hQ : l1_em kc Q) (N : Nat) (p1 : Nat) (p2 : Int32) (hp1 : kc p1 = 8) {k2 : hS → Int32 → Option (Unit × hS)} (hk2 : ∀ c v3, l1_G (wN wV) Q am_i_X5_layOut 2 [some (.ref 36), some (.ref p1), some (.int p2), some (.int v3)] [] c (k2 c v3)) : ∀ (c : hS) (v3 : Int32) (v5 : Int32) (v7 : Int32), l1_G (wN wV) Q am_i_X5_layOut 120 [some (.ref 36), some (.ref p1), some (.int p2), some (.int v3), none, some (.int v5), none, some (.int v7)] [] c (f_X5_layOut_120 N p1 p2 k2 c v3 v5 v7) := by
  intro c v3 v5 v7
  rw [f_X5_layOut_120]
  refine l1_many mt_X5_layOut (pc' := 124) (L' := [some (.ref 36), some (.ref p1), some (.int p2), some (.int v3), none, some (.int v5), none, some (.int v7)]) (st' := [.ref 36, .int v5, .ref 36]) 3 rfl ?_
  refine l1_getR hQ mt_X5_layOut rfl (o := 36) (ci := 4) (k := 0) (a := 1) (b := 2) rfl rfl rfl rfl rfl (q := 3) rfl ?_
  refine l1_callV hQ mt_X5_layOut mt_X2_size rfl rfl (o := 3) (ci := 1) (As := []) (rest := [.int v5, .ref 36]) rfl rfl rfl rfl rfl rfl (st1 := fun x1 => [.int x1, .int v5, .ref 36]) (fun _ => rfl) (ok_X2_size hQ c 3 rfl) (fun x1 c2 => ?_)
  refine l1_many mt_X5_layOut (pc' := 133) (L' := [some (.ref 36), some (.ref p1), some (.int p2), some (.int v3), none, some (.int v5), none, some (.int v7)]) (st' := [.int (x1 - v7), .int v5, .ref 36]) 2 rfl ?_
  refine l1_callV hQ mt_X5_layOut mt_X5_setSize rfl rfl (o := 36) (ci := 4) (As := [.int v5, .int (x1 - v7)]) (rest := []) rfl rfl rfl rfl rfl rfl (st1 := fun _ => []) (fun _ => rfl) (ok_X5_setSize hQ N c2 v5 (x1 - v7)) (fun _ c3 => ?_)
  refine l1_many mt_X5_layOut (pc' := 2) (L' := [some (.ref 36), some (.ref p1), some (.int p2), some (.int (v3 + 1)), none, some (.int v5), none, some (.int v7)]) (st' := []) 2 rfl ?_
  refine l1_weak (m := [true, true, true, true, false, false, false, false]) (L' := [some (.ref 36), some (.ref p1), some (.int p2), some (.int (v3 + 1))]) rfl ?_
  exact hk2 c3 (v3 + 1)
set_option maxRecDepth 100000 in
theorem ok_X5_layOut_67 {Q : hS → am_H → Prop} (hQ : l1_em kc Q) (N : Nat) (p1 : Nat) (p2 : Int32) (hp1 : kc p1 = 8) {k2 : hS → Int32 → Option (Unit × hS)} (hk2 : ∀ c v3, l1_G (wN wV) Q am_i_X5_layOut 2 [some (.ref 36), some (.ref p1), some (.int p2), some (.int v3)] [] c (k2 c v3)) : ∀ (c : hS) (v3 : Int32) (v4 : Nat) (v5 : Int32) (v6 : Int32) (w0 : Int32) (w1 : Nat) (hv4 : kc v4 = 6) (hw1 : kc w1 = 6), l1_G (wN wV) Q am_i_X5_layOut 67 [some (.ref 36), some (.ref p1), some (.int p2), some (.int v3), some (.ref v4), some (.int v5), some (.int v6)] [.int w0, .ref w1, .ref 36] c (f_X5_layOut_67 N p1 p2 k2 c v3 v4 v5 v6 w0 w1) := by
  intro c v3 v4 v5 v6 w0 w1 hv4 hw1
  rw [f_X5_layOut_67]
  refine l1_callV hQ mt_X5_layOut mt_X5_addLocal rfl rfl (o := 36) (ci := 4) (As := [.ref w1, .int w0]) (rest := []) rfl rfl rfl rfl rfl rfl (st1 := fun _ => []) (fun _ => rfl) (ok_X5_addLocal hQ N c w1 w0 hw1) (fun _ c1 => ?_)
  refine l1_many mt_X5_layOut (pc' := 71) (L' := [some (.ref 36), some (.ref p1), some (.int p2), some (.int v3), some (.ref v4), some (.int v5), some (.int v6)]) (st' := [.ref 36]) 1 rfl ?_
  refine l1_getR hQ mt_X5_layOut rfl (o := 36) (ci := 4) (k := 0) (a := 1) (b := 2) rfl rfl rfl rfl rfl (q := 3) rfl ?_
  refine l1_callV hQ mt_X5_layOut mt_X2_size rfl rfl (o := 3) (ci := 1) (As := []) (rest := []) rfl rfl rfl rfl rfl rfl (st1 := fun x2 => [.int x2]) (fun _ => rfl) (ok_X2_size hQ c1 3 rfl) (fun x2 c3 => ?_)
  refine l1_many mt_X5_layOut (pc' := bif am_cc .eq v6 0 then 99 else 84) (L' := [some (.ref 36), some (.ref p1), some (.int p2), some (.int v3), some (.ref v4), some (.int v5), some (.int v6), some (.int x2)]) (st' := []) 3 rfl ?_
  refine l1_bif rfl ?_ ?_
  · refine l1_many mt_X5_layOut (pc' := 100) (L' := [some (.ref 36), some (.ref p1), some (.int p2), some (.int v3), some (.ref v4), some (.int v5), some (.int v6), some (.int x2)]) (st' := [.ref 36]) 1 rfl ?_
    refine l1_getR hQ mt_X5_layOut rfl (o := 36) (ci := 4) (k := 0) (a := 1) (b := 2) rfl rfl rfl rfl rfl (q := 3) rfl ?_
    refine l1_many mt_X5_layOut (pc' := 105) (L' := [some (.ref 36), some (.ref p1), some (.int p2), some (.int v3), some (.ref v4), some (.int v5), some (.int v6), some (.int x2)]) (st' := [.ref v4, .ref 3]) 1 rfl ?_
    refine l1_getR hQ mt_X5_layOut rfl (o := v4) (ci := 6) (k := 1) (a := 2) (b := 2) hv4 rfl rfl rfl rfl (q := (v4 + 3)) rfl ?_
    refine l1_many mt_X5_layOut (pc' := 111) (L' := [some (.ref 36), some (.ref p1), some (.int p2), some (.int v3), some (.ref v4), some (.int v5), some (.int v6), some (.int x2)]) (st' := [.ref v4, .int 0, .ref (v4 + 3), .ref 3]) 2 rfl ?_
    refine l1_getR hQ mt_X5_layOut rfl (o := v4) (ci := 6) (k := 1) (a := 2) (b := 2) hv4 rfl rfl rfl rfl (q := (v4 + 3)) rfl ?_
    refine l1_callV hQ mt_X5_layOut mt_X2_size rfl rfl (o := (v4 + 3)) (ci := 1) (As := []) (rest := [.int 0, .ref (v4 + 3), .ref 3]) rfl rfl (kc6_1 hv4) rfl rfl rfl (st1 := fun x4 => [.int x4, .int 0, .ref (v4 + 3), .ref 3]) (fun _ => rfl) (ok_X2_size hQ c3 (v4 + 3) (kc6_1 hv4)) (fun x4 c5 => ?_)
    refine l1_callV hQ mt_X5_layOut mt_X2_addRow rfl rfl (o := 3) (ci := 1) (As := [.ref (v4 + 3), .int 0, .int x4]) (rest := []) rfl rfl rfl rfl rfl rfl (st1 := fun _ => []) (fun _ => rfl) (ok_X2_addRow hQ N c5 3 (v4 + 3) 0 x4 rfl (kc6_1 hv4)) (fun _ c6 => ?_)
    refine l1_weak (m := [true, true, true, true, false, true, false, true]) (L' := [some (.ref 36), some (.ref p1), some (.int p2), some (.int v3), none, some (.int v5), none, some (.int x2)]) rfl ?_
    exact ok_X5_layOut_120 hQ N p1 p2 hp1 hk2 c6 v3 v5 x2
  · refine l1_many mt_X5_layOut (pc' := 85) (L' := [some (.ref 36), some (.ref p1), some (.int p2), some (.int v3), some (.ref v4), some (.int v5), some (.int v6), some (.int x2)]) (st' := [.ref 36]) 1 rfl ?_
    refine l1_getR hQ mt_X5_layOut rfl (o := 36) (ci := 4) (k := 3) (a := 0) (b := 1) rfl rfl rfl rfl rfl (q := 10) rfl ?_
    refine l1_many mt_X5_layOut (pc' := 90) (L' := [some (.ref 36), some (.ref p1), some (.int p2), some (.int v3), some (.ref v4), some (.int v5), some (.int v6), some (.int x2)]) (st' := [.ref v4, .ref 10]) 1 rfl ?_
    refine l1_getR hQ mt_X5_layOut rfl (o := v4) (ci := 6) (k := 1) (a := 2) (b := 2) hv4 rfl rfl rfl rfl (q := (v4 + 3)) rfl ?_
    refine l1_callV hQ mt_X5_layOut mt_X8_addPacked rfl rfl (o := 10) (ci := 7) (As := [.ref (v4 + 3)]) (rest := []) rfl rfl rfl rfl rfl rfl (st1 := fun _ => []) (fun _ => rfl) (ok_X8_addPacked hQ N c3 (v4 + 3) (kc6_1 hv4)) (fun _ c7 => ?_)
    refine l1_many mt_X5_layOut (pc' := 120) (L' := [some (.ref 36), some (.ref p1), some (.int p2), some (.int v3), some (.ref v4), some (.int v5), some (.int v6), some (.int x2)]) (st' := []) 1 rfl ?_
    refine l1_weak (m := [true, true, true, true, false, true, false, true]) (L' := [some (.ref 36), some (.ref p1), some (.int p2), some (.int v3), none, some (.int v5), none, some (.int x2)]) rfl ?_
    exact ok_X5_layOut_120 hQ N p1 p2 hp1 hk2 c7 v3 v5 x2
set_option maxRecDepth 100000 in
theorem ok_X5_layOut_51 {Q : hS → am_H → Prop} (hQ : l1_em kc Q) (N : Nat) (p1 : Nat) (p2 : Int32) (hp1 : kc p1 = 8) {k2 : hS → Int32 → Option (Unit × hS)} (hk2 : ∀ c v3, l1_G (wN wV) Q am_i_X5_layOut 2 [some (.ref 36), some (.ref p1), some (.int p2), some (.int v3)] [] c (k2 c v3)) : ∀ (c : hS) (v3 : Int32) (v4 : Nat) (v5 : Int32) (w0 : Int32) (hv4 : kc v4 = 6), l1_G (wN wV) Q am_i_X5_layOut 51 [some (.ref 36), some (.ref p1), some (.int p2), some (.int v3), some (.ref v4), some (.int v5)] [.int w0] c (f_X5_layOut_51 N p1 p2 k2 c v3 v4 v5 w0) := by
  intro c v3 v4 v5 w0 hv4
  rw [f_X5_layOut_51]
  refine l1_many mt_X5_layOut (pc' := bif am_cc .eq w0 0 then 66 else 61) (L' := [some (.ref 36), some (.ref p1), some (.int p2), some (.int v3), some (.ref v4), some (.int v5), some (.int w0)]) (st' := [.ref v4, .ref 36]) 5 rfl ?_
  refine l1_bif rfl ?_ ?_
  · refine l1_many mt_X5_layOut (pc' := 67) (L' := [some (.ref 36), some (.ref p1), some (.int p2), some (.int v3), some (.ref v4), some (.int v5), some (.int w0)]) (st' := [.int 0, .ref v4, .ref 36]) 1 rfl ?_
    exact ok_X5_layOut_67 hQ N p1 p2 hp1 hk2 c v3 v4 v5 w0 0 v4 hv4 hv4
  · refine l1_many mt_X5_layOut (pc' := 67) (L' := [some (.ref 36), some (.ref p1), some (.int p2), some (.int v3), some (.ref v4), some (.int v5), some (.int w0)]) (st' := [.int 8, .ref v4, .ref 36]) 2 rfl ?_
    exact ok_X5_layOut_67 hQ N p1 p2 hp1 hk2 c v3 v4 v5 w0 8 v4 hv4 hv4
set_option maxRecDepth 100000 in
theorem ok_X5_layOut_50 {Q : hS → am_H → Prop} (hQ : l1_em kc Q) (N : Nat) (p1 : Nat) (p2 : Int32) (hp1 : kc p1 = 8) {k2 : hS → Int32 → Option (Unit × hS)} (hk2 : ∀ c v3, l1_G (wN wV) Q am_i_X5_layOut 2 [some (.ref 36), some (.ref p1), some (.int p2), some (.int v3)] [] c (k2 c v3)) : ∀ (c : hS) (v3 : Int32) (v4 : Nat) (v5 : Int32) (hv4 : kc v4 = 6), l1_G (wN wV) Q am_i_X5_layOut 50 [some (.ref 36), some (.ref p1), some (.int p2), some (.int v3), some (.ref v4), some (.int v5)] [] c (f_X5_layOut_50 N p1 p2 k2 c v3 v4 v5) := by
  intro c v3 v4 v5 hv4
  rw [f_X5_layOut_50]
  refine l1_many mt_X5_layOut (pc' := 51) (L' := [some (.ref 36), some (.ref p1), some (.int p2), some (.int v3), some (.ref v4), some (.int v5)]) (st' := [.int 0]) 1 rfl ?_
  exact ok_X5_layOut_51 hQ N p1 p2 hp1 hk2 c v3 v4 v5 0 hv4
set_option maxRecDepth 100000 in
theorem ok_X5_layOut_2 {Q : hS → am_H → Prop} (hQ : l1_em kc Q) (N : Nat) (p1 : Nat) (p2 : Int32) (hp1 : kc p1 = 8) : ∀ n : Nat, ∀ (c : hS) (v3 : Int32), l1_G (wN wV) Q am_i_X5_layOut 2 [some (.ref 36), some (.ref p1), some (.int p2), some (.int v3)] [] c (f_X5_layOut_2 N p1 p2 n c v3) := by
  intro n
  induction n with
  | zero => intro c v3; exact l1_none
  | succ n ih =>
    intro c v3
    rw [f_X5_layOut_2]
    refine l1_many mt_X5_layOut (pc' := 4) (L' := [some (.ref 36), some (.ref p1), some (.int p2), some (.int v3)]) (st' := [.ref p1, .int v3]) 2 rfl ?_
    refine l1_callV hQ mt_X5_layOut mt_X9_size rfl rfl (o := p1) (ci := 8) (As := []) (rest := [.int v3]) rfl rfl hp1 rfl rfl rfl (st1 := fun x1 => [.int x1, .int v3]) (fun _ => rfl) (ok_X9_size hQ c p1 hp1) (fun x1 c2 => ?_)
    refine l1_many mt_X5_layOut (pc' := bif am_cc .ge v3 x1 then 142 else 10) (L' := [some (.ref 36), some (.ref p1), some (.int p2), some (.int v3)]) (st' := []) 1 rfl ?_
    refine l1_bif rfl ?_ ?_
    · refine l1_many mt_X5_layOut (pc' := 144) (L' := [some (.ref 36), some (.ref p1), some (.int p2), some (.int v3)]) (st' := [.ref p1, .ref 36]) 2 rfl ?_
      refine l1_callV hQ mt_X5_layOut mt_X5_addEntries rfl rfl (o := 36) (ci := 4) (As := [.ref p1]) (rest := []) rfl rfl rfl rfl rfl rfl (st1 := fun _ => []) (fun _ => rfl) (ok_X5_addEntries hQ N c2 p1 hp1) (fun _ c3 => ?_)
      exact l1_ret mt_X5_layOut rfl rfl rfl
    · refine l1_many mt_X5_layOut (pc' := 12) (L' := [some (.ref 36), some (.ref p1), some (.int p2), some (.int v3)]) (st' := [.int v3, .ref p1]) 2 rfl ?_
      refine l1_callV hQ mt_X5_layOut mt_X9_member rfl rfl (o := p1) (ci := 8) (As := [.int v3]) (rest := []) rfl rfl hp1 rfl rfl rfl (st1 := fun x4 => l1_mv x4 :: []) (fun _ => rfl) (ok_X9_member hQ c2 p1 v3 hp1) (fun x4 c5 => ?_)
      refine l1_opt (x := x4) ?_ (fun y6 => ?_)
      · refine l1_many mt_X5_layOut (pc' := 2) (L' := [some (.ref 36), some (.ref p1), some (.int p2), some (.int (v3 + 1)), some (.null)]) (st' := []) 5 rfl ?_
        refine l1_weak (m := [true, true, true, true, false, false, false, false]) (L' := [some (.ref 36), some (.ref p1), some (.int p2), some (.int (v3 + 1))]) rfl ?_
        exact ih c5 (v3 + 1)
      · refine l1_ck (fun hy => ?_)
        have hy6 : kc y6 = 6 := Nat.eq_of_beq_eq_true hy
        refine l1_many mt_X5_layOut (pc' := 23) (L' := [some (.ref 36), some (.ref p1), some (.int p2), some (.int v3), some (.ref y6)]) (st' := [.ref 36]) 4 rfl ?_
        refine l1_getR hQ mt_X5_layOut rfl (o := 36) (ci := 4) (k := 0) (a := 1) (b := 2) rfl rfl rfl rfl rfl (q := 3) rfl ?_
        refine l1_callV hQ mt_X5_layOut mt_X2_size rfl rfl (o := 3) (ci := 1) (As := []) (rest := []) rfl rfl rfl rfl rfl rfl (st1 := fun x7 => [.int x7]) (fun _ => rfl) (ok_X2_size hQ c5 3 rfl) (fun x7 c8 => ?_)
        refine l1_many mt_X5_layOut (pc' := bif am_cc .eq p2 0 then 50 else 35) (L' := [some (.ref 36), some (.ref p1), some (.int p2), some (.int v3), some (.ref y6), some (.int x7)]) (st' := []) 3 rfl ?_
        refine l1_bif rfl ?_ ?_
        · exact ok_X5_layOut_50 hQ N p1 p2 hp1 ih c8 v3 y6 x7 hy6
        · refine l1_many mt_X5_layOut (pc' := 37) (L' := [some (.ref 36), some (.ref p1), some (.int p2), some (.int v3), some (.ref y6), some (.int x7)]) (st' := [.ref y6]) 1 rfl ?_
          refine l1_getR hQ mt_X5_layOut rfl (o := y6) (ci := 6) (k := 1) (a := 2) (b := 2) hy6 rfl rfl rfl rfl (q := (y6 + 3)) rfl ?_
          refine l1_callV hQ mt_X5_layOut mt_X2_size rfl rfl (o := (y6 + 3)) (ci := 1) (As := []) (rest := []) rfl rfl (kc6_1 hy6) rfl rfl rfl (st1 := fun x9 => [.int x9]) (fun _ => rfl) (ok_X2_size hQ c8 (y6 + 3) (kc6_1 hy6)) (fun x9 c10 => ?_)
          refine l1_many mt_X5_layOut (pc' := bif am_cc .le x9 0 then 50 else 46) (L' := [some (.ref 36), some (.ref p1), some (.int p2), some (.int v3), some (.ref y6), some (.int x7)]) (st' := []) 1 rfl ?_
          refine l1_bif rfl ?_ ?_
          · exact ok_X5_layOut_50 hQ N p1 p2 hp1 ih c10 v3 y6 x7 hy6
          · refine l1_many mt_X5_layOut (pc' := 51) (L' := [some (.ref 36), some (.ref p1), some (.int p2), some (.int v3), some (.ref y6), some (.int x7)]) (st' := [.int 1]) 2 rfl ?_
            exact ok_X5_layOut_51 hQ N p1 p2 hp1 ih c10 v3 y6 x7 1 hy6
set_option maxRecDepth 100000 in
theorem en_X5_layOut {Q : hS → am_H → Prop} (hQ : l1_em kc Q) (N : Nat) (c : hS) (p1 : Nat) (p2 : Int32) (hp1 : kc p1 = 8) : l1_G (wN wV) Q am_i_X5_layOut 0 [some (.ref 36), some (.ref p1), some (.int p2)] [] c (f_X5_layOut N c p1 p2) := by
  rw [f_X5_layOut]
  refine l1_many mt_X5_layOut (pc' := 2) (L' := [some (.ref 36), some (.ref p1), some (.int p2), some (.int 0)]) (st' := []) 2 rfl ?_
  exact ok_X5_layOut_2 hQ N p1 p2 hp1 N c 0
theorem ok_X5_layOut {Q : hS → am_H → Prop} (hQ : l1_em kc Q) (N : Nat) (c : hS) (p1 : Nat) (p2 : Int32) (hp1 : kc p1 = 8) : l1_T wV Q am_i_X5_layOut [.ref 36, .ref p1, .int p2] c (f_X5_layOut N c p1 p2) := l1_of (en_X5_layOut hQ N c p1 p2 hp1) ⟨rfl, rfl, rfl, trivial⟩
set_option maxRecDepth 100000 in
theorem en_X6_number {Q : hS → am_H → Prop} (hQ : l1_em kc Q) (c : hS) : l1_G (wN wI) Q am_i_X6_number 0 [some (.ref 9)] [] c (f_X6_number c) := by
  rw [f_X6_number]
  refine l1_many mt_X6_number (pc' := 1) (L' := [some (.ref 9)]) (st' := [.ref 9]) 1 rfl ?_
  refine l1_getI hQ mt_X6_number rfl (o := 9) (ci := 5) (k := 0) (a := 0) (b := 0) rfl rfl rfl rfl rfl ?_
  exact l1_ret mt_X6_number rfl rfl rfl
theorem ok_X6_number {Q : hS → am_H → Prop} (hQ : l1_em kc Q) (c : hS) : l1_T wI Q am_i_X6_number [.ref 9] c (f_X6_number c) := l1_of (en_X6_number hQ c) ⟨rfl, trivial⟩
set_option maxRecDepth 100000 in
theorem en_X6_place {Q : hS → am_H → Prop} (hQ : l1_em kc Q) (c : hS) : l1_G (wN wI) Q am_i_X6_place 0 [some (.ref 9)] [] c (f_X6_place c) := by
  rw [f_X6_place]
  refine l1_many mt_X6_place (pc' := 1) (L' := [some (.ref 9)]) (st' := [.ref 9]) 1 rfl ?_
  refine l1_getI hQ mt_X6_place rfl (o := 9) (ci := 5) (k := 1) (a := 0) (b := 0) rfl rfl rfl rfl rfl ?_
  exact l1_ret mt_X6_place rfl rfl rfl
theorem ok_X6_place {Q : hS → am_H → Prop} (hQ : l1_em kc Q) (c : hS) : l1_T wI Q am_i_X6_place [.ref 9] c (f_X6_place c) := l1_of (en_X6_place hQ c) ⟨rfl, trivial⟩
set_option maxRecDepth 100000 in
theorem en_X6_clear {Q : hS → am_H → Prop} (hQ : l1_em kc Q) (c : hS) : l1_G (wN wV) Q am_i_X6_clear 0 [some (.ref 9)] [] c (f_X6_clear c) := by
  rw [f_X6_clear]
  refine l1_many mt_X6_clear (pc' := 2) (L' := [some (.ref 9)]) (st' := [.int 0, .ref 9]) 2 rfl ?_
  refine l1_putI hQ mt_X6_clear rfl (o := 9) (ci := 5) (k := 0) (a := 0) rfl rfl rfl rfl rfl rfl (fun c1 => ?_)
  refine l1_many mt_X6_clear (pc' := 7) (L' := [some (.ref 9)]) (st' := [.int (-1), .ref 9]) 2 rfl ?_
  refine l1_putI hQ mt_X6_clear rfl (o := 9) (ci := 5) (k := 1) (a := 0) rfl rfl rfl rfl rfl rfl (fun c2 => ?_)
  exact l1_ret mt_X6_clear rfl rfl rfl
theorem ok_X6_clear {Q : hS → am_H → Prop} (hQ : l1_em kc Q) (c : hS) : l1_T wV Q am_i_X6_clear [.ref 9] c (f_X6_clear c) := l1_of (en_X6_clear hQ c) ⟨rfl, trivial⟩
set_option maxRecDepth 100000 in
theorem en_X9_clear {Q : hS → am_H → Prop} (hQ : l1_em kc Q) (c : hS) (s : Nat) (hs : kc s = 8) : l1_G (wN wV) Q am_i_X9_clear 0 [some (.ref s)] [] c (f_X9_clear c s) := by
  rw [f_X9_clear]
  refine l1_many mt_X9_clear (pc' := 2) (L' := [some (.ref s)]) (st' := [.int 0, .ref s]) 2 rfl ?_
  refine l1_putI hQ mt_X9_clear rfl (o := s) (ci := 8) (k := 1) (a := 0) hs rfl rfl rfl rfl rfl (fun c1 => ?_)
  exact l1_ret mt_X9_clear rfl rfl rfl
theorem ok_X9_clear {Q : hS → am_H → Prop} (hQ : l1_em kc Q) (c : hS) (s : Nat) (hs : kc s = 8) : l1_T wV Q am_i_X9_clear [.ref s] c (f_X9_clear c s) := l1_of (en_X9_clear hQ c s hs) ⟨rfl, trivial⟩
set_option maxRecDepth 100000 in
theorem ok_X9_hasUnder_2 {Q : hS → am_H → Prop} (hQ : l1_em kc Q) (N : Nat) (s : Nat) (p1 : Nat) (hs : kc s = 8) (hp1 : kc p1 = 1) : ∀ n : Nat, ∀ (c : hS) (v2 : Int32), l1_G (wN wI) Q am_i_X9_hasUnder 2 [some (.ref s), some (.ref p1), some (.int v2)] [] c (f_X9_hasUnder_2 N s p1 n c v2) := by
  intro n
  induction n with
  | zero => intro c v2; exact l1_none
  | succ n ih =>
    intro c v2
    rw [f_X9_hasUnder_2]
    refine l1_many mt_X9_hasUnder (pc' := 4) (L' := [some (.ref s), some (.ref p1), some (.int v2)]) (st' := [.ref s, .int v2]) 2 rfl ?_
    refine l1_getI hQ mt_X9_hasUnder rfl (o := s) (ci := 8) (k := 1) (a := 0) (b := 0) hs rfl rfl rfl rfl ?_
    refine l1_many mt_X9_hasUnder (pc' := bif am_cc .ge v2 (c.1 s 1) then 39 else 10) (L' := [some (.ref s), some (.ref p1), some (.int v2)]) (st' := []) 1 rfl ?_
    refine l1_bif rfl ?_ ?_
    · refine l1_many mt_X9_hasUnder (pc' := 40) (L' := [some (.ref s), some (.ref p1), some (.int v2)]) (st' := [.int 0]) 1 rfl ?_
      exact l1_ret mt_X9_hasUnder rfl rfl rfl
    · refine l1_many mt_X9_hasUnder (pc' := 12) (L' := [some (.ref s), some (.ref p1), some (.int v2)]) (st' := [.int v2, .ref s]) 2 rfl ?_
      refine l1_callV hQ mt_X9_hasUnder mt_X9_member rfl rfl (o := s) (ci := 8) (As := [.int v2]) (rest := []) rfl rfl hs rfl rfl rfl (st1 := fun x1 => l1_mv x1 :: []) (fun _ => rfl) (ok_X9_member hQ c s v2 hs) (fun x1 c2 => ?_)
      refine l1_opt (x := x1) ?_ (fun y3 => ?_)
      · refine l1_many mt_X9_hasUnder (pc' := 2) (L' := [some (.ref s), some (.ref p1), some (.int (v2 + 1)), some (.null)]) (st' := []) 5 rfl ?_
        refine l1_weak (m := [true, true, true, false]) (L' := [some (.ref s), some (.ref p1), some (.int (v2 + 1))]) rfl ?_
        exact ih c2 (v2 + 1)
      · refine l1_ck (fun hy => ?_)
        have hy3 : kc y3 = 6 := Nat.eq_of_beq_eq_true hy
        refine l1_many mt_X9_hasUnder (pc' := 21) (L' := [some (.ref s), some (.ref p1), some (.int v2), some (.ref y3)]) (st' := [.ref y3]) 4 rfl ?_
        refine l1_getR hQ mt_X9_hasUnder rfl (o := y3) (ci := 6) (k := 0) (a := 2) (b := 2) hy3 rfl rfl rfl rfl (q := (y3 + 1)) rfl ?_
        refine l1_many mt_X9_hasUnder (pc' := 25) (L' := [some (.ref s), some (.ref p1), some (.int v2), some (.ref y3)]) (st' := [.ref p1, .ref (y3 + 1)]) 1 rfl ?_
        refine l1_callV hQ mt_X9_hasUnder mt_X2_liesUnder rfl rfl (o := (y3 + 1)) (ci := 1) (As := [.ref p1]) (rest := []) rfl rfl (kc6_0 hy3) rfl rfl rfl (st1 := fun x4 => [.int x4]) (fun _ => rfl) (ok_X2_liesUnder hQ N c2 (y3 + 1) p1 (kc6_0 hy3) hp1) (fun x4 c5 => ?_)
        refine l1_many mt_X9_hasUnder (pc' := bif am_cc .eq x4 0 then 33 else 31) (L' := [some (.ref s), some (.ref p1), some (.int v2), some (.ref y3)]) (st' := []) 1 rfl ?_
        refine l1_bif rfl ?_ ?_
        · refine l1_many mt_X9_hasUnder (pc' := 2) (L' := [some (.ref s), some (.ref p1), some (.int (v2 + 1)), some (.ref y3)]) (st' := []) 2 rfl ?_
          refine l1_weak (m := [true, true, true, false]) (L' := [some (.ref s), some (.ref p1), some (.int (v2 + 1))]) rfl ?_
          exact ih c5 (v2 + 1)
        · refine l1_many mt_X9_hasUnder (pc' := 32) (L' := [some (.ref s), some (.ref p1), some (.int v2), some (.ref y3)]) (st' := [.int 1]) 1 rfl ?_
          exact l1_ret mt_X9_hasUnder rfl rfl rfl
set_option maxRecDepth 100000 in
theorem en_X9_hasUnder {Q : hS → am_H → Prop} (hQ : l1_em kc Q) (N : Nat) (c : hS) (s : Nat) (p1 : Nat) (hs : kc s = 8) (hp1 : kc p1 = 1) : l1_G (wN wI) Q am_i_X9_hasUnder 0 [some (.ref s), some (.ref p1)] [] c (f_X9_hasUnder N c s p1) := by
  rw [f_X9_hasUnder]
  refine l1_many mt_X9_hasUnder (pc' := 2) (L' := [some (.ref s), some (.ref p1), some (.int 0)]) (st' := []) 2 rfl ?_
  exact ok_X9_hasUnder_2 hQ N s p1 hs hp1 N c 0
theorem ok_X9_hasUnder {Q : hS → am_H → Prop} (hQ : l1_em kc Q) (N : Nat) (c : hS) (s : Nat) (p1 : Nat) (hs : kc s = 8) (hp1 : kc p1 = 1) : l1_T wI Q am_i_X9_hasUnder [.ref s, .ref p1] c (f_X9_hasUnder N c s p1) := l1_of (en_X9_hasUnder hQ N c s p1 hs hp1) ⟨rfl, rfl, trivial⟩
set_option maxRecDepth 100000 in
theorem en_X11_partBehind {Q : hS → am_H → Prop} (hQ : l1_em kc Q) (c : hS) (p0 : Nat) (hp0 : kc p0 = 1) : l1_G (wN wI) Q am_i_X11_partBehind 0 [some (.ref p0)] [] c (f_X11_partBehind c p0) := by
  rw [f_X11_partBehind]
  refine l1_many mt_X11_partBehind (pc' := 1) (L' := [some (.ref p0)]) (st' := [.ref p0]) 1 rfl ?_
  refine l1_callV hQ mt_X11_partBehind mt_X2_size rfl rfl (o := p0) (ci := 1) (As := []) (rest := []) rfl rfl hp0 rfl rfl rfl (st1 := fun x1 => [.int x1]) (fun _ => rfl) (ok_X2_size hQ c p0 hp0) (fun x1 c2 => ?_)
  refine l1_many mt_X11_partBehind (pc' := bif am_cc .ne x1 0 then 11 else 7) (L' := [some (.ref p0)]) (st' := []) 1 rfl ?_
  refine l1_bin rfl ?_ ?_
  · refine l1_many mt_X11_partBehind (pc' := 17) (L' := [some (.ref p0)]) (st' := [.int 0]) 2 rfl ?_
    exact l1_ret mt_X11_partBehind rfl rfl rfl
  · refine l1_many mt_X11_partBehind (pc' := 12) (L' := [some (.ref p0)]) (st' := [.ref p0]) 1 rfl ?_
    refine l1_callV hQ mt_X11_partBehind mt_X2_size rfl rfl (o := p0) (ci := 1) (As := []) (rest := []) rfl rfl hp0 rfl rfl rfl (st1 := fun x3 => [.int x3]) (fun _ => rfl) (ok_X2_size hQ c2 p0 hp0) (fun x3 c4 => ?_)
    refine l1_many mt_X11_partBehind (pc' := 17) (L' := [some (.ref p0)]) (st' := [.int (x3 + 1)]) 2 rfl ?_
    exact l1_ret mt_X11_partBehind rfl rfl rfl
theorem ok_X11_partBehind {Q : hS → am_H → Prop} (hQ : l1_em kc Q) (c : hS) (p0 : Nat) (hp0 : kc p0 = 1) : l1_T wI Q am_i_X11_partBehind [.ref p0] c (f_X11_partBehind c p0) := l1_of (en_X11_partBehind hQ c p0 hp0) ⟨rfl, trivial⟩
set_option maxRecDepth 100000 in
theorem ok_X11_partLength_2 {Q : hS → am_H → Prop} (hQ : l1_em kc Q) (N : Nat) (p0 : Nat) (p1 : Int32) (hp0 : kc p0 = 1) : ∀ n : Nat, ∀ (c : hS) (v2 : Int32), l1_G (wN wI) Q am_i_X11_partLength 2 [some (.ref p0), some (.int p1), some (.int v2)] [] c (f_X11_partLength_2 N p0 p1 n c v2) := by
  intro n
  induction n with
  | zero => intro c v2; exact l1_none
  | succ n ih =>
    intro c v2
    rw [f_X11_partLength_2]
    refine l1_many mt_X11_partLength (pc' := 4) (L' := [some (.ref p0), some (.int p1), some (.int v2)]) (st' := [.ref p0, .int v2]) 2 rfl ?_
    refine l1_callV hQ mt_X11_partLength mt_X2_size rfl rfl (o := p0) (ci := 1) (As := []) (rest := [.int v2]) rfl rfl hp0 rfl rfl rfl (st1 := fun x1 => [.int x1, .int v2]) (fun _ => rfl) (ok_X2_size hQ c p0 hp0) (fun x1 c2 => ?_)
    refine l1_many mt_X11_partLength (pc' := bif am_cc .ge v2 x1 then 30 else 10) (L' := [some (.ref p0), some (.int p1), some (.int v2)]) (st' := []) 1 rfl ?_
    refine l1_bif rfl ?_ ?_
    · refine l1_many mt_X11_partLength (pc' := 31) (L' := [some (.ref p0), some (.int p1), some (.int v2)]) (st' := [.ref p0]) 1 rfl ?_
      refine l1_callV hQ mt_X11_partLength mt_X2_size rfl rfl (o := p0) (ci := 1) (As := []) (rest := []) rfl rfl hp0 rfl rfl rfl (st1 := fun x3 => [.int x3]) (fun _ => rfl) (ok_X2_size hQ c2 p0 hp0) (fun x3 c4 => ?_)
      refine l1_many mt_X11_partLength (pc' := 36) (L' := [some (.ref p0), some (.int p1), some (.int v2)]) (st' := [.int (x3 - p1)]) 2 rfl ?_
      exact l1_ret mt_X11_partLength rfl rfl rfl
    · refine l1_many mt_X11_partLength (pc' := 12) (L' := [some (.ref p0), some (.int p1), some (.int v2)]) (st' := [.int v2, .ref p0]) 2 rfl ?_
      refine l1_callV hQ mt_X11_partLength mt_X2_get rfl rfl (o := p0) (ci := 1) (As := [.int v2]) (rest := []) rfl rfl hp0 rfl rfl rfl (st1 := fun x5 => [.int x5]) (fun _ => rfl) (ok_X2_get hQ c2 p0 v2 hp0) (fun x5 c6 => ?_)
      refine l1_many mt_X11_partLength (pc' := bif am_cc .ne x5 47 then 24 else 20) (L' := [some (.ref p0), some (.int p1), some (.int v2)]) (st' := []) 2 rfl ?_
      refine l1_bin rfl ?_ ?_
      · refine l1_many mt_X11_partLength (pc' := 23) (L' := [some (.ref p0), some (.int p1), some (.int v2)]) (st' := [.int (v2 - p1)]) 3 rfl ?_
        exact l1_ret mt_X11_partLength rfl rfl rfl
      · refine l1_many mt_X11_partLength (pc' := 2) (L' := [some (.ref p0), some (.int p1), some (.int (v2 + 1))]) (st' := []) 2 rfl ?_
        exact ih c6 (v2 + 1)
set_option maxRecDepth 100000 in
theorem en_X11_partLength {Q : hS → am_H → Prop} (hQ : l1_em kc Q) (N : Nat) (c : hS) (p0 : Nat) (p1 : Int32) (hp0 : kc p0 = 1) : l1_G (wN wI) Q am_i_X11_partLength 0 [some (.ref p0), some (.int p1)] [] c (f_X11_partLength N c p0 p1) := by
  rw [f_X11_partLength]
  refine l1_many mt_X11_partLength (pc' := 2) (L' := [some (.ref p0), some (.int p1), some (.int p1)]) (st' := []) 2 rfl ?_
  exact ok_X11_partLength_2 hQ N p0 p1 hp0 N c p1
theorem ok_X11_partLength {Q : hS → am_H → Prop} (hQ : l1_em kc Q) (N : Nat) (c : hS) (p0 : Nat) (p1 : Int32) (hp0 : kc p0 = 1) : l1_T wI Q am_i_X11_partLength [.ref p0, .int p1] c (f_X11_partLength N c p0 p1) := l1_of (en_X11_partLength hQ N c p0 p1 hp0) ⟨rfl, rfl, trivial⟩
set_option maxRecDepth 100000 in
theorem ok_X9_isSamePart_20 {Q : hS → am_H → Prop} (hQ : l1_em kc Q) (N : Nat) (p0 : Nat) (p1 : Nat) (p2 : Int32) (hp0 : kc p0 = 1) (hp1 : kc p1 = 1) : ∀ n : Nat, ∀ (c : hS) (v3 : Int32) (v4 : Int32), l1_G (wN wI) Q am_i_X9_isSamePart 20 [some (.ref p0), some (.ref p1), some (.int p2), some (.int v3), some (.int v4)] [] c (f_X9_isSamePart_20 N p0 p1 p2 n c v3 v4) := by
  intro n
  induction n with
  | zero => intro c v3 v4; exact l1_none
  | succ n ih =>
    intro c v3 v4
    rw [f_X9_isSamePart_20]
    refine l1_many mt_X9_isSamePart (pc' := bif am_cc .ge v4 (p2 + v3) then 51 else 28) (L' := [some (.ref p0), some (.ref p1), some (.int p2), some (.int v3), some (.int v4)]) (st' := []) 5 rfl ?_
    refine l1_bif rfl ?_ ?_
    · refine l1_many mt_X9_isSamePart (pc' := 52) (L' := [some (.ref p0), some (.ref p1), some (.int p2), some (.int v3), some (.int v4)]) (st' := [.int 1]) 1 rfl ?_
      exact l1_ret mt_X9_isSamePart rfl rfl rfl
    · refine l1_many mt_X9_isSamePart (pc' := 31) (L' := [some (.ref p0), some (.ref p1), some (.int p2), some (.int v3), some (.int v4)]) (st' := [.int v4, .ref p0]) 2 rfl ?_
      refine l1_callV hQ mt_X9_isSamePart mt_X2_get rfl rfl (o := p0) (ci := 1) (As := [.int v4]) (rest := []) rfl rfl hp0 rfl rfl rfl (st1 := fun x1 => [.int x1]) (fun _ => rfl) (ok_X2_get hQ c p0 v4 hp0) (fun x1 c2 => ?_)
      refine l1_many mt_X9_isSamePart (pc' := 37) (L' := [some (.ref p0), some (.ref p1), some (.int p2), some (.int v3), some (.int v4)]) (st' := [.int v4, .ref p1, .int x1]) 2 rfl ?_
      refine l1_callV hQ mt_X9_isSamePart mt_X2_get rfl rfl (o := p1) (ci := 1) (As := [.int v4]) (rest := [.int x1]) rfl rfl hp1 rfl rfl rfl (st1 := fun x3 => [.int x3, .int x1]) (fun _ => rfl) (ok_X2_get hQ c2 p1 v4 hp1) (fun x3 c4 => ?_)
      refine l1_many mt_X9_isSamePart (pc' := bif am_cc .eq x1 x3 then 45 else 43) (L' := [some (.ref p0), some (.ref p1), some (.int p2), some (.int v3), some (.int v4)]) (st' := []) 1 rfl ?_
      refine l1_bif rfl ?_ ?_
      · refine l1_many mt_X9_isSamePart (pc' := 20) (L' := [some (.ref p0), some (.ref p1), some (.int p2), some (.int v3), some (.int (v4 + 1))]) (st' := []) 2 rfl ?_
        exact ih c4 v3 (v4 + 1)
      · refine l1_many mt_X9_isSamePart (pc' := 44) (L' := [some (.ref p0), some (.ref p1), some (.int p2), some (.int v3), some (.int v4)]) (st' := [.int 0]) 1 rfl ?_
        exact l1_ret mt_X9_isSamePart rfl rfl rfl
set_option maxRecDepth 100000 in
theorem en_X9_isSamePart {Q : hS → am_H → Prop} (hQ : l1_em kc Q) (N : Nat) (c : hS) (p0 : Nat) (p1 : Nat) (p2 : Int32) (hp0 : kc p0 = 1) (hp1 : kc p1 = 1) : l1_G (wN wI) Q am_i_X9_isSamePart 0 [some (.ref p0), some (.ref p1), some (.int p2)] [] c (f_X9_isSamePart N c p0 p1 p2) := by
  rw [f_X9_isSamePart]
  refine l1_many mt_X9_isSamePart (pc' := 2) (L' := [some (.ref p0), some (.ref p1), some (.int p2)]) (st' := [.int p2, .ref p0]) 2 rfl ?_
  refine l1_callS mt_X9_isSamePart mt_X11_partLength rfl rfl (As := [.ref p0, .int p2]) (rest := []) rfl rfl rfl (st1 := fun x1 => [.int x1]) (fun _ => rfl) (ok_X11_partLength hQ N c p0 p2 hp0) (fun x1 c2 => ?_)
  refine l1_many mt_X9_isSamePart (pc' := 8) (L' := [some (.ref p0), some (.ref p1), some (.int p2), some (.int x1)]) (st' := [.int p2, .ref p1]) 3 rfl ?_
  refine l1_callS mt_X9_isSamePart mt_X11_partLength rfl rfl (As := [.ref p1, .int p2]) (rest := []) rfl rfl rfl (st1 := fun x3 => [.int x3]) (fun _ => rfl) (ok_X11_partLength hQ N c2 p1 p2 hp1) (fun x3 c4 => ?_)
  refine l1_many mt_X9_isSamePart (pc' := bif am_cc .eq x3 x1 then 17 else 15) (L' := [some (.ref p0), some (.ref p1), some (.int p2), some (.int x1)]) (st' := []) 2 rfl ?_
  refine l1_bif rfl ?_ ?_
  · refine l1_many mt_X9_isSamePart (pc' := 20) (L' := [some (.ref p0), some (.ref p1), some (.int p2), some (.int x1), some (.int p2)]) (st' := []) 2 rfl ?_
    exact ok_X9_isSamePart_20 hQ N p0 p1 p2 hp0 hp1 N c4 x1 p2
  · refine l1_many mt_X9_isSamePart (pc' := 16) (L' := [some (.ref p0), some (.ref p1), some (.int p2), some (.int x1)]) (st' := [.int 0]) 1 rfl ?_
    exact l1_ret mt_X9_isSamePart rfl rfl rfl
theorem ok_X9_isSamePart {Q : hS → am_H → Prop} (hQ : l1_em kc Q) (N : Nat) (c : hS) (p0 : Nat) (p1 : Nat) (p2 : Int32) (hp0 : kc p0 = 1) (hp1 : kc p1 = 1) : l1_T wI Q am_i_X9_isSamePart [.ref p0, .ref p1, .int p2] c (f_X9_isSamePart N c p0 p1 p2) := l1_of (en_X9_isSamePart hQ N c p0 p1 p2 hp0 hp1) ⟨rfl, rfl, rfl, trivial⟩
set_option maxRecDepth 100000 in
theorem ok_X9_isFirstOfChild_26 {Q : hS → am_H → Prop} (hQ : l1_em kc Q) (N : Nat) (s : Nat) (p1 : Nat) (p2 : Int32) (hs : kc s = 8) (hp1 : kc p1 = 1) : ∀ n : Nat, ∀ (c : hS) (v3 : Nat) (v4 : Int32) (hv3 : kc v3 = 6), l1_G (wN wI) Q am_i_X9_isFirstOfChild 26 [some (.ref s), some (.ref p1), some (.int p2), some (.ref v3), some (.int v4)] [] c (f_X9_isFirstOfChild_26 N s p1 p2 n c v3 v4) := by
  intro n
  induction n with
  | zero => intro c v3 v4 hv3; exact l1_none
  | succ n ih =>
    intro c v3 v4 hv3
    rw [f_X9_isFirstOfChild_26]
    refine l1_many mt_X9_isFirstOfChild (pc' := bif am_cc .ge v4 p2 then 84 else 32) (L' := [some (.ref s), some (.ref p1), some (.int p2), some (.ref v3), some (.int v4)]) (st' := []) 3 rfl ?_
    refine l1_bif rfl ?_ ?_
    · refine l1_many mt_X9_isFirstOfChild (pc' := 85) (L' := [some (.ref s), some (.ref p1), some (.int p2), some (.ref v3), some (.int v4)]) (st' := [.int 1]) 1 rfl ?_
      exact l1_ret mt_X9_isFirstOfChild rfl rfl rfl
    · refine l1_many mt_X9_isFirstOfChild (pc' := 35) (L' := [some (.ref s), some (.ref p1), some (.int p2), some (.ref v3), some (.int v4)]) (st' := [.int v4, .ref s]) 2 rfl ?_
      refine l1_callV hQ mt_X9_isFirstOfChild mt_X9_member rfl rfl (o := s) (ci := 8) (As := [.int v4]) (rest := []) rfl rfl hs rfl rfl rfl (st1 := fun x1 => l1_mv x1 :: []) (fun _ => rfl) (ok_X9_member hQ c s v4 hs) (fun x1 c2 => ?_)
      refine l1_opt (x := x1) ?_ (fun y3 => ?_)
      · refine l1_many mt_X9_isFirstOfChild (pc' := 26) (L' := [some (.ref s), some (.ref p1), some (.int p2), some (.ref v3), some (.int (v4 + 1)), some (.null)]) (st' := []) 5 rfl ?_
        refine l1_weak (m := [true, true, true, true, true, false]) (L' := [some (.ref s), some (.ref p1), some (.int p2), some (.ref v3), some (.int (v4 + 1))]) rfl ?_
        exact ih c2 v3 (v4 + 1) hv3
      · refine l1_ck (fun hy => ?_)
        have hy3 : kc y3 = 6 := Nat.eq_of_beq_eq_true hy
        refine l1_many mt_X9_isFirstOfChild (pc' := 47) (L' := [some (.ref s), some (.ref p1), some (.int p2), some (.ref v3), some (.int v4), some (.ref y3)]) (st' := [.ref y3]) 4 rfl ?_
        refine l1_getR hQ mt_X9_isFirstOfChild rfl (o := y3) (ci := 6) (k := 0) (a := 2) (b := 2) hy3 rfl rfl rfl rfl (q := (y3 + 1)) rfl ?_
        refine l1_many mt_X9_isFirstOfChild (pc' := 51) (L' := [some (.ref s), some (.ref p1), some (.int p2), some (.ref v3), some (.int v4), some (.ref y3)]) (st' := [.ref p1, .ref (y3 + 1)]) 1 rfl ?_
        refine l1_callV hQ mt_X9_isFirstOfChild mt_X2_liesUnder rfl rfl (o := (y3 + 1)) (ci := 1) (As := [.ref p1]) (rest := []) rfl rfl (kc6_0 hy3) rfl rfl rfl (st1 := fun x4 => [.int x4]) (fun _ => rfl) (ok_X2_liesUnder hQ N c2 (y3 + 1) p1 (kc6_0 hy3) hp1) (fun x4 c5 => ?_)
        refine l1_many mt_X9_isFirstOfChild (pc' := bif am_cc .eq x4 0 then 78 else 57) (L' := [some (.ref s), some (.ref p1), some (.int p2), some (.ref v3), some (.int v4), some (.ref y3)]) (st' := []) 1 rfl ?_
        refine l1_bif rfl ?_ ?_
        · refine l1_many mt_X9_isFirstOfChild (pc' := 26) (L' := [some (.ref s), some (.ref p1), some (.int p2), some (.ref v3), some (.int (v4 + 1)), some (.ref y3)]) (st' := []) 2 rfl ?_
          refine l1_weak (m := [true, true, true, true, true, false]) (L' := [some (.ref s), some (.ref p1), some (.int p2), some (.ref v3), some (.int (v4 + 1))]) rfl ?_
          exact ih c5 v3 (v4 + 1) hv3
        · refine l1_many mt_X9_isFirstOfChild (pc' := 59) (L' := [some (.ref s), some (.ref p1), some (.int p2), some (.ref v3), some (.int v4), some (.ref y3)]) (st' := [.ref y3]) 1 rfl ?_
          refine l1_getR hQ mt_X9_isFirstOfChild rfl (o := y3) (ci := 6) (k := 0) (a := 2) (b := 2) hy3 rfl rfl rfl rfl (q := (y3 + 1)) rfl ?_
          refine l1_many mt_X9_isFirstOfChild (pc' := 63) (L' := [some (.ref s), some (.ref p1), some (.int p2), some (.ref v3), some (.int v4), some (.ref y3)]) (st' := [.ref v3, .ref (y3 + 1)]) 1 rfl ?_
          refine l1_getR hQ mt_X9_isFirstOfChild rfl (o := v3) (ci := 6) (k := 0) (a := 2) (b := 2) hv3 rfl rfl rfl rfl (q := (v3 + 1)) rfl ?_
          refine l1_many mt_X9_isFirstOfChild (pc' := 67) (L' := [some (.ref s), some (.ref p1), some (.int p2), some (.ref v3), some (.int v4), some (.ref y3)]) (st' := [.ref p1, .ref (v3 + 1), .ref (y3 + 1)]) 1 rfl ?_
          refine l1_callS mt_X9_isFirstOfChild mt_X11_partBehind rfl rfl (As := [.ref p1]) (rest := [.ref (v3 + 1), .ref (y3 + 1)]) rfl rfl rfl (st1 := fun x6 => [.int x6, .ref (v3 + 1), .ref (y3 + 1)]) (fun _ => rfl) (ok_X11_partBehind hQ c5 p1 hp1) (fun x6 c7 => ?_)
          refine l1_callS mt_X9_isFirstOfChild mt_X9_isSamePart rfl rfl (As := [.ref (y3 + 1), .ref (v3 + 1), .int x6]) (rest := []) rfl rfl rfl (st1 := fun x8 => [.int x8]) (fun _ => rfl) (ok_X9_isSamePart hQ N c7 (y3 + 1) (v3 + 1) x6 (kc6_0 hy3) (kc6_0 hv3)) (fun x8 c9 => ?_)
          refine l1_many mt_X9_isFirstOfChild (pc' := bif am_cc .eq x8 0 then 78 else 76) (L' := [some (.ref s), some (.ref p1), some (.int p2), some (.ref v3), some (.int v4), some (.ref y3)]) (st' := []) 1 rfl ?_
          refine l1_bif rfl ?_ ?_
          · refine l1_many mt_X9_isFirstOfChild (pc' := 26) (L' := [some (.ref s), some (.ref p1), some (.int p2), some (.ref v3), some (.int (v4 + 1)), some (.ref y3)]) (st' := []) 2 rfl ?_
            refine l1_weak (m := [true, true, true, true, true, false]) (L' := [some (.ref s), some (.ref p1), some (.int p2), some (.ref v3), some (.int (v4 + 1))]) rfl ?_
            exact ih c9 v3 (v4 + 1) hv3
          · refine l1_many mt_X9_isFirstOfChild (pc' := 77) (L' := [some (.ref s), some (.ref p1), some (.int p2), some (.ref v3), some (.int v4), some (.ref y3)]) (st' := [.int 0]) 1 rfl ?_
            exact l1_ret mt_X9_isFirstOfChild rfl rfl rfl
set_option maxRecDepth 100000 in
theorem en_X9_isFirstOfChild {Q : hS → am_H → Prop} (hQ : l1_em kc Q) (N : Nat) (c : hS) (s : Nat) (p1 : Nat) (p2 : Int32) (hs : kc s = 8) (hp1 : kc p1 = 1) : l1_G (wN wI) Q am_i_X9_isFirstOfChild 0 [some (.ref s), some (.ref p1), some (.int p2)] [] c (f_X9_isFirstOfChild N c s p1 p2) := by
  rw [f_X9_isFirstOfChild]
  refine l1_many mt_X9_isFirstOfChild (pc' := 2) (L' := [some (.ref s), some (.ref p1), some (.int p2)]) (st' := [.int p2, .ref s]) 2 rfl ?_
  refine l1_callV hQ mt_X9_isFirstOfChild mt_X9_member rfl rfl (o := s) (ci := 8) (As := [.int p2]) (rest := []) rfl rfl hs rfl rfl rfl (st1 := fun x1 => l1_mv x1 :: []) (fun _ => rfl) (ok_X9_member hQ c s p2 hs) (fun x1 c2 => ?_)
  refine l1_opt (x := x1) ?_ (fun y3 => ?_)
  · refine l1_many mt_X9_isFirstOfChild (pc' := 22) (L' := [some (.ref s), some (.ref p1), some (.int p2), some (.null)]) (st' := [.int 0]) 4 rfl ?_
    exact l1_ret mt_X9_isFirstOfChild rfl rfl rfl
  · refine l1_ck (fun hy => ?_)
    have hy3 : kc y3 = 6 := Nat.eq_of_beq_eq_true hy
    refine l1_many mt_X9_isFirstOfChild (pc' := 11) (L' := [some (.ref s), some (.ref p1), some (.int p2), some (.ref y3)]) (st' := [.ref y3]) 4 rfl ?_
    refine l1_getR hQ mt_X9_isFirstOfChild rfl (o := y3) (ci := 6) (k := 0) (a := 2) (b := 2) hy3 rfl rfl rfl rfl (q := (y3 + 1)) rfl ?_
    refine l1_many mt_X9_isFirstOfChild (pc' := 15) (L' := [some (.ref s), some (.ref p1), some (.int p2), some (.ref y3)]) (st' := [.ref p1, .ref (y3 + 1)]) 1 rfl ?_
    refine l1_callV hQ mt_X9_isFirstOfChild mt_X2_liesUnder rfl rfl (o := (y3 + 1)) (ci := 1) (As := [.ref p1]) (rest := []) rfl rfl (kc6_0 hy3) rfl rfl rfl (st1 := fun x4 => [.int x4]) (fun _ => rfl) (ok_X2_liesUnder hQ N c2 (y3 + 1) p1 (kc6_0 hy3) hp1) (fun x4 c5 => ?_)
    refine l1_many mt_X9_isFirstOfChild (pc' := bif am_cc .ne x4 0 then 23 else 21) (L' := [some (.ref s), some (.ref p1), some (.int p2), some (.ref y3)]) (st' := []) 1 rfl ?_
    refine l1_bin rfl ?_ ?_
    · refine l1_many mt_X9_isFirstOfChild (pc' := 22) (L' := [some (.ref s), some (.ref p1), some (.int p2), some (.ref y3)]) (st' := [.int 0]) 1 rfl ?_
      exact l1_ret mt_X9_isFirstOfChild rfl rfl rfl
    · refine l1_many mt_X9_isFirstOfChild (pc' := 26) (L' := [some (.ref s), some (.ref p1), some (.int p2), some (.ref y3), some (.int 0)]) (st' := []) 2 rfl ?_
      exact ok_X9_isFirstOfChild_26 hQ N s p1 p2 hs hp1 N c5 y3 0 hy3
theorem ok_X9_isFirstOfChild {Q : hS → am_H → Prop} (hQ : l1_em kc Q) (N : Nat) (c : hS) (s : Nat) (p1 : Nat) (p2 : Int32) (hs : kc s = 8) (hp1 : kc p1 = 1) : l1_T wI Q am_i_X9_isFirstOfChild [.ref s, .ref p1, .int p2] c (f_X9_isFirstOfChild N c s p1 p2) := l1_of (en_X9_isFirstOfChild hQ N c s p1 p2 hs hp1) ⟨rfl, rfl, rfl, trivial⟩
set_option maxRecDepth 100000 in
theorem ok_X9_children_4 {Q : hS → am_H → Prop} (hQ : l1_em kc Q) (N : Nat) (s : Nat) (p1 : Nat) (hs : kc s = 8) (hp1 : kc p1 = 1) : ∀ n : Nat, ∀ (c : hS) (v2 : Int32) (v3 : Int32), l1_G (wN wI) Q am_i_X9_children 4 [some (.ref s), some (.ref p1), some (.int v2), some (.int v3)] [] c (f_X9_children_4 N s p1 n c v2 v3) := by
  intro n
  induction n with
  | zero => intro c v2 v3; exact l1_none
  | succ n ih =>
    intro c v2 v3
    rw [f_X9_children_4]
    refine l1_many mt_X9_children (pc' := 6) (L' := [some (.ref s), some (.ref p1), some (.int v2), some (.int v3)]) (st' := [.ref s, .int v3]) 2 rfl ?_
    refine l1_getI hQ mt_X9_children rfl (o := s) (ci := 8) (k := 1) (a := 0) (b := 0) hs rfl rfl rfl rfl ?_
    refine l1_many mt_X9_children (pc' := bif am_cc .ge v3 (c.1 s 1) then 30 else 12) (L' := [some (.ref s), some (.ref p1), some (.int v2), some (.int v3)]) (st' := []) 1 rfl ?_
    refine l1_bif rfl ?_ ?_
    · refine l1_many mt_X9_children (pc' := 31) (L' := [some (.ref s), some (.ref p1), some (.int v2), some (.int v3)]) (st' := [.int v2]) 1 rfl ?_
      exact l1_ret mt_X9_children rfl rfl rfl
    · refine l1_many mt_X9_children (pc' := 15) (L' := [some (.ref s), some (.ref p1), some (.int v2), some (.int v3)]) (st' := [.int v3, .ref p1, .ref s]) 3 rfl ?_
      refine l1_callV hQ mt_X9_children mt_X9_isFirstOfChild rfl rfl (o := s) (ci := 8) (As := [.ref p1, .int v3]) (rest := []) rfl rfl hs rfl rfl rfl (st1 := fun x1 => [.int x1]) (fun _ => rfl) (ok_X9_isFirstOfChild hQ N c s p1 v3 hs hp1) (fun x1 c2 => ?_)
      refine l1_many mt_X9_children (pc' := bif am_cc .eq x1 0 then 24 else 21) (L' := [some (.ref s), some (.ref p1), some (.int v2), some (.int v3)]) (st' := []) 1 rfl ?_
      refine l1_bif rfl ?_ ?_
      · refine l1_many mt_X9_children (pc' := 4) (L' := [some (.ref s), some (.ref p1), some (.int v2), some (.int (v3 + 1))]) (st' := []) 2 rfl ?_
        exact ih c2 v2 (v3 + 1)
      · refine l1_many mt_X9_children (pc' := 4) (L' := [some (.ref s), some (.ref p1), some (.int (v2 + 1)), some (.int (v3 + 1))]) (st' := []) 3 rfl ?_
        exact ih c2 (v2 + 1) (v3 + 1)
set_option maxRecDepth 100000 in
theorem en_X9_children {Q : hS → am_H → Prop} (hQ : l1_em kc Q) (N : Nat) (c : hS) (s : Nat) (p1 : Nat) (hs : kc s = 8) (hp1 : kc p1 = 1) : l1_G (wN wI) Q am_i_X9_children 0 [some (.ref s), some (.ref p1)] [] c (f_X9_children N c s p1) := by
  rw [f_X9_children]
  refine l1_many mt_X9_children (pc' := 4) (L' := [some (.ref s), some (.ref p1), some (.int 0), some (.int 0)]) (st' := []) 4 rfl ?_
  exact ok_X9_children_4 hQ N s p1 hs hp1 N c 0 0
theorem ok_X9_children {Q : hS → am_H → Prop} (hQ : l1_em kc Q) (N : Nat) (c : hS) (s : Nat) (p1 : Nat) (hs : kc s = 8) (hp1 : kc p1 = 1) : l1_T wI Q am_i_X9_children [.ref s, .ref p1] c (f_X9_children N c s p1) := l1_of (en_X9_children hQ N c s p1 hs hp1) ⟨rfl, rfl, trivial⟩
end
section
/-! THAT THE MACHINE FOLLOWS THEM, printed by gen_l1.py -/
set_option maxRecDepth 100000 in
theorem ok_X9_firstOfChild_5 {Q : hS → am_H → Prop} (hQ : l1_em kc Q) (N : Nat) (s : Nat) (p1 : Nat) (p2 : Int32) (hs : kc s = 8) (hp1 : kc p1 = 1) : ∀ n : Nat, ∀ (c : hS) (v3 : Int32) (v4 : Int32), l1_G (wN wI) Q am_i_X9_firstOfChild 5 [some (.ref s), some (.ref p1), some (.int p2), some (.int v3), some (.int v4)] [] c (f_X9_firstOfChild_5 N s p1 p2 n c v3 v4) := by
  intro n
  induction n with
  | zero => intro c v3 v4; exact l1_none
  | succ n ih =>
    intro c v3 v4
    rw [f_X9_firstOfChild_5]
    refine l1_many mt_X9_firstOfChild (pc' := 8) (L' := [some (.ref s), some (.ref p1), some (.int p2), some (.int v3), some (.int v4)]) (st' := [.ref s, .int v4]) 2 rfl ?_
    refine l1_getI hQ mt_X9_firstOfChild rfl (o := s) (ci := 8) (k := 1) (a := 0) (b := 0) hs rfl rfl rfl rfl ?_
    refine l1_many mt_X9_firstOfChild (pc' := bif am_cc .ge v4 (c.1 s 1) then 41 else 14) (L' := [some (.ref s), some (.ref p1), some (.int p2), some (.int v3), some (.int v4)]) (st' := []) 1 rfl ?_
    refine l1_bif rfl ?_ ?_
    · refine l1_many mt_X9_firstOfChild (pc' := 42) (L' := [some (.ref s), some (.ref p1), some (.int p2), some (.int v3), some (.int v4)]) (st' := [.int (-1)]) 1 rfl ?_
      exact l1_ret mt_X9_firstOfChild rfl rfl rfl
    · refine l1_many mt_X9_firstOfChild (pc' := 18) (L' := [some (.ref s), some (.ref p1), some (.int p2), some (.int v3), some (.int v4)]) (st' := [.int v4, .ref p1, .ref s]) 3 rfl ?_
      refine l1_callV hQ mt_X9_firstOfChild mt_X9_isFirstOfChild rfl rfl (o := s) (ci := 8) (As := [.ref p1, .int v4]) (rest := []) rfl rfl hs rfl rfl rfl (st1 := fun x1 => [.int x1]) (fun _ => rfl) (ok_X9_isFirstOfChild hQ N c s p1 v4 hs hp1) (fun x1 c2 => ?_)
      refine l1_many mt_X9_firstOfChild (pc' := bif am_cc .eq x1 0 then 35 else 24) (L' := [some (.ref s), some (.ref p1), some (.int p2), some (.int v3), some (.int v4)]) (st' := []) 1 rfl ?_
      refine l1_bif rfl ?_ ?_
      · refine l1_many mt_X9_firstOfChild (pc' := 5) (L' := [some (.ref s), some (.ref p1), some (.int p2), some (.int v3), some (.int (v4 + 1))]) (st' := []) 2 rfl ?_
        exact ih c2 v3 (v4 + 1)
      · refine l1_many mt_X9_firstOfChild (pc' := bif am_cc .ne v3 p2 then 32 else 29) (L' := [some (.ref s), some (.ref p1), some (.int p2), some (.int v3), some (.int v4)]) (st' := []) 3 rfl ?_
        refine l1_bin rfl ?_ ?_
        · refine l1_many mt_X9_firstOfChild (pc' := 31) (L' := [some (.ref s), some (.ref p1), some (.int p2), some (.int v3), some (.int v4)]) (st' := [.int v4]) 1 rfl ?_
          exact l1_ret mt_X9_firstOfChild rfl rfl rfl
        · refine l1_many mt_X9_firstOfChild (pc' := 5) (L' := [some (.ref s), some (.ref p1), some (.int p2), some (.int (v3 + 1)), some (.int (v4 + 1))]) (st' := []) 3 rfl ?_
          exact ih c2 (v3 + 1) (v4 + 1)
set_option maxRecDepth 100000 in
theorem en_X9_firstOfChild {Q : hS → am_H → Prop} (hQ : l1_em kc Q) (N : Nat) (c : hS) (s : Nat) (p1 : Nat) (p2 : Int32) (hs : kc s = 8) (hp1 : kc p1 = 1) : l1_G (wN wI) Q am_i_X9_firstOfChild 0 [some (.ref s), some (.ref p1), some (.int p2)] [] c (f_X9_firstOfChild N c s p1 p2) := by
  rw [f_X9_firstOfChild]
  refine l1_many mt_X9_firstOfChild (pc' := 5) (L' := [some (.ref s), some (.ref p1), some (.int p2), some (.int 0), some (.int 0)]) (st' := []) 4 rfl ?_
  exact ok_X9_firstOfChild_5 hQ N s p1 p2 hs hp1 N c 0 0
theorem ok_X9_firstOfChild {Q : hS → am_H → Prop} (hQ : l1_em kc Q) (N : Nat) (c : hS) (s : Nat) (p1 : Nat) (p2 : Int32) (hs : kc s = 8) (hp1 : kc p1 = 1) : l1_T wI Q am_i_X9_firstOfChild [.ref s, .ref p1, .int p2] c (f_X9_firstOfChild N c s p1 p2) := l1_of (en_X9_firstOfChild hQ N c s p1 p2 hs hp1) ⟨rfl, rfl, rfl, trivial⟩
set_option maxRecDepth 100000 in
theorem en_X10_orderFixed {Q : hS → am_H → Prop} (hQ : l1_em kc Q) (N : Nat) (c : hS) : l1_G (wN wV) Q am_i_X10_orderFixed 0 [some (.ref 11)] [] c (f_X10_orderFixed N c) := by
  rw [f_X10_orderFixed]
  refine l1_many mt_X10_orderFixed (pc' := 7) (L' := [some (.ref 11)]) (st' := [.int 8, .int 144, .int 0, .ref 11]) 4 rfl ?_
  refine l1_callV hQ mt_X10_orderFixed mt_X10_fillLengths rfl rfl (o := 11) (ci := 9) (As := [.int 0, .int 144, .int 8]) (rest := []) rfl rfl rfl rfl rfl rfl (st1 := fun _ => []) (fun _ => rfl) (ok_X10_fillLengths hQ N c 0 144 8) (fun _ c1 => ?_)
  refine l1_many mt_X10_orderFixed (pc' := 19) (L' := [some (.ref 11)]) (st' := [.int 9, .int 256, .int 144, .ref 11]) 4 rfl ?_
  refine l1_callV hQ mt_X10_orderFixed mt_X10_fillLengths rfl rfl (o := 11) (ci := 9) (As := [.int 144, .int 256, .int 9]) (rest := []) rfl rfl rfl rfl rfl rfl (st1 := fun _ => []) (fun _ => rfl) (ok_X10_fillLengths hQ N c1 144 256 9) (fun _ c2 => ?_)
  refine l1_many mt_X10_orderFixed (pc' := 31) (L' := [some (.ref 11)]) (st' := [.int 7, .int 280, .int 256, .ref 11]) 4 rfl ?_
  refine l1_callV hQ mt_X10_orderFixed mt_X10_fillLengths rfl rfl (o := 11) (ci := 9) (As := [.int 256, .int 280, .int 7]) (rest := []) rfl rfl rfl rfl rfl rfl (st1 := fun _ => []) (fun _ => rfl) (ok_X10_fillLengths hQ N c2 256 280 7) (fun _ c3 => ?_)
  refine l1_many mt_X10_orderFixed (pc' := 43) (L' := [some (.ref 11)]) (st' := [.int 8, .int 288, .int 280, .ref 11]) 4 rfl ?_
  refine l1_callV hQ mt_X10_orderFixed mt_X10_fillLengths rfl rfl (o := 11) (ci := 9) (As := [.int 280, .int 288, .int 8]) (rest := []) rfl rfl rfl rfl rfl rfl (st1 := fun _ => []) (fun _ => rfl) (ok_X10_fillLengths hQ N c3 280 288 8) (fun _ c4 => ?_)
  refine l1_many mt_X10_orderFixed (pc' := 47) (L' := [some (.ref 11)]) (st' := [.ref 11]) 1 rfl ?_
  refine l1_getR hQ mt_X10_orderFixed rfl (o := 11) (ci := 9) (k := 3) (a := 0) (b := 1) rfl rfl rfl rfl rfl (q := 12) rfl ?_
  refine l1_many mt_X10_orderFixed (pc' := 51) (L' := [some (.ref 11)]) (st' := [.ref 11, .ref 12]) 1 rfl ?_
  refine l1_getR hQ mt_X10_orderFixed rfl (o := 11) (ci := 9) (k := 8) (a := 0) (b := 1) rfl rfl rfl rfl rfl (q := 32) rfl ?_
  refine l1_many mt_X10_orderFixed (pc' := 58) (L' := [some (.ref 11)]) (st' := [.int 288, .int 0, .ref 32, .ref 12]) 2 rfl ?_
  refine l1_callV hQ mt_X10_orderFixed mt_X3_order rfl rfl (o := 12) (ci := 2) (As := [.ref 32, .int 0, .int 288]) (rest := []) rfl rfl rfl rfl rfl rfl (st1 := fun _ => []) (fun _ => rfl) (ok_X3_order hQ N c4 12 0 288 rfl) (fun _ c5 => ?_)
  refine l1_many mt_X10_orderFixed (pc' := 66) (L' := [some (.ref 11)]) (st' := [.int 5, .int 32, .int 0, .ref 11]) 4 rfl ?_
  refine l1_callV hQ mt_X10_orderFixed mt_X10_fillLengths rfl rfl (o := 11) (ci := 9) (As := [.int 0, .int 32, .int 5]) (rest := []) rfl rfl rfl rfl rfl rfl (st1 := fun _ => []) (fun _ => rfl) (ok_X10_fillLengths hQ N c5 0 32 5) (fun _ c6 => ?_)
  refine l1_many mt_X10_orderFixed (pc' := 70) (L' := [some (.ref 11)]) (st' := [.ref 11]) 1 rfl ?_
  refine l1_getR hQ mt_X10_orderFixed rfl (o := 11) (ci := 9) (k := 4) (a := 0) (b := 1) rfl rfl rfl rfl rfl (q := 16) rfl ?_
  refine l1_many mt_X10_orderFixed (pc' := 74) (L' := [some (.ref 11)]) (st' := [.ref 11, .ref 16]) 1 rfl ?_
  refine l1_getR hQ mt_X10_orderFixed rfl (o := 11) (ci := 9) (k := 8) (a := 0) (b := 1) rfl rfl rfl rfl rfl (q := 32) rfl ?_
  refine l1_many mt_X10_orderFixed (pc' := 80) (L' := [some (.ref 11)]) (st' := [.int 32, .int 0, .ref 32, .ref 16]) 2 rfl ?_
  refine l1_callV hQ mt_X10_orderFixed mt_X3_order rfl rfl (o := 16) (ci := 2) (As := [.ref 32, .int 0, .int 32]) (rest := []) rfl rfl rfl rfl rfl rfl (st1 := fun _ => []) (fun _ => rfl) (ok_X3_order hQ N c6 16 0 32 rfl) (fun _ c7 => ?_)
  exact l1_ret mt_X10_orderFixed rfl rfl rfl
theorem ok_X10_orderFixed {Q : hS → am_H → Prop} (hQ : l1_em kc Q) (N : Nat) (c : hS) : l1_T wV Q am_i_X10_orderFixed [.ref 11] c (f_X10_orderFixed N c) := l1_of (en_X10_orderFixed hQ N c) ⟨rfl, trivial⟩
set_option maxRecDepth 100000 in
theorem en_X11_type {Q : hS → am_H → Prop} (hQ : l1_em kc Q) (N : Nat) (c : hS) (p1 : Int64) (p3 : Int32) : l1_G (wT wI) Q am_i_X11_type 0 [some (.ref 0), some (.long p1), none, some (.int p3)] [] c (f_X11_type N c p1 p3) := by
  rw [f_X11_type]
  refine l1_many mt_X11_type (pc' := bif am_cc .lt p3 1 then 11 else 5) (L' := [some (.ref 0), some (.long p1), none, some (.int p3)]) (st' := []) 3 rfl ?_
  refine l1_bif rfl ?_ ?_
  · exact l1_thr
  · refine l1_many mt_X11_type (pc' := bif am_cc .le p3 8 then 21 else 11) (L' := [some (.ref 0), some (.long p1), none, some (.int p3)]) (st' := []) 3 rfl ?_
    refine l1_bif rfl ?_ ?_
    · refine l1_many mt_X11_type (pc' := 22) (L' := [some (.ref 0), some (.long p1), none, some (.int p3)]) (st' := [.ref 0]) 1 rfl ?_
      refine l1_getR hQ mt_X11_type rfl (o := 0) (ci := 10) (k := 0) (a := 0) (b := 1) rfl rfl rfl rfl rfl (q := 1) rfl ?_
      refine l1_callV hQ mt_X11_type mt_X2_size rfl rfl (o := 1) (ci := 1) (As := []) (rest := []) rfl rfl rfl rfl rfl rfl (st1 := fun x1 => [.int x1]) (fun _ => rfl) (ok_X2_size hQ c 1 rfl) (fun x1 c2 => ?_)
      refine l1_many mt_X11_type (pc' := bif am_cc .le (x1 + p3) 512 then 46 else 36) (L' := [some (.ref 0), some (.long p1), none, some (.int p3)]) (st' := []) 4 rfl ?_
      refine l1_bif rfl ?_ ?_
      · refine l1_many mt_X11_type (pc' := 47) (L' := [some (.ref 0), some (.long p1), none, some (.int p3)]) (st' := [.ref 0]) 1 rfl ?_
        refine l1_getR hQ mt_X11_type rfl (o := 0) (ci := 10) (k := 0) (a := 0) (b := 1) rfl rfl rfl rfl rfl (q := 1) rfl ?_
        refine l1_many mt_X11_type (pc' := 52) (L' := [some (.ref 0), some (.long p1), none, some (.int p3)]) (st' := [.int p3, .long p1, .ref 1]) 2 rfl ?_
        refine l1_callV hQ mt_X11_type mt_X2_addBig rfl rfl (o := 1) (ci := 1) (As := [.long p1, .int p3]) (rest := []) rfl rfl rfl rfl rfl rfl (st1 := fun _ => []) (fun _ => rfl) (ok_X2_addBig hQ N c2 1 p1 p3 rfl) (fun _ c3 => ?_)
        refine l1_many mt_X11_type (pc' := 56) (L' := [some (.ref 0), some (.long p1), none, some (.int p3)]) (st' := [.ref 0]) 1 rfl ?_
        refine l1_getR hQ mt_X11_type rfl (o := 0) (ci := 10) (k := 0) (a := 0) (b := 1) rfl rfl rfl rfl rfl (q := 1) rfl ?_
        refine l1_callV hQ mt_X11_type mt_X2_size rfl rfl (o := 1) (ci := 1) (As := []) (rest := []) rfl rfl rfl rfl rfl rfl (st1 := fun x4 => [.int x4]) (fun _ => rfl) (ok_X2_size hQ c3 1 rfl) (fun x4 c5 => ?_)
        exact l1_ret mt_X11_type rfl rfl rfl
      · exact l1_thr
    · exact l1_thr
set_option maxRecDepth 100000 in
theorem en_X11_keep {Q : hS → am_H → Prop} (hQ : l1_em kc Q) (c : hS) (p1 : Int32) : l1_G (wT wV) Q am_i_X11_keep 0 [some (.ref 0), some (.int p1)] [] c (f_X11_keep c p1) := by
  rw [f_X11_keep]
  refine l1_many mt_X11_keep (pc' := bif am_cc .lt p1 0 then 15 else 4) (L' := [some (.ref 0), some (.int p1)]) (st' := []) 2 rfl ?_
  refine l1_bif rfl ?_ ?_
  · exact l1_thr
  · refine l1_many mt_X11_keep (pc' := 6) (L' := [some (.ref 0), some (.int p1)]) (st' := [.ref 0, .int p1]) 2 rfl ?_
    refine l1_getR hQ mt_X11_keep rfl (o := 0) (ci := 10) (k := 0) (a := 0) (b := 1) rfl rfl rfl rfl rfl (q := 1) rfl ?_
    refine l1_callV hQ mt_X11_keep mt_X2_size rfl rfl (o := 1) (ci := 1) (As := []) (rest := [.int p1]) rfl rfl rfl rfl rfl rfl (st1 := fun x1 => [.int x1, .int p1]) (fun _ => rfl) (ok_X2_size hQ c 1 rfl) (fun x1 c2 => ?_)
    refine l1_many mt_X11_keep (pc' := bif am_cc .le p1 x1 then 25 else 15) (L' := [some (.ref 0), some (.int p1)]) (st' := []) 1 rfl ?_
    refine l1_bif rfl ?_ ?_
    · refine l1_many mt_X11_keep (pc' := 26) (L' := [some (.ref 0), some (.int p1)]) (st' := [.ref 0]) 1 rfl ?_
      refine l1_getR hQ mt_X11_keep rfl (o := 0) (ci := 10) (k := 0) (a := 0) (b := 1) rfl rfl rfl rfl rfl (q := 1) rfl ?_
      refine l1_many mt_X11_keep (pc' := 30) (L' := [some (.ref 0), some (.int p1)]) (st' := [.int p1, .ref 1]) 1 rfl ?_
      refine l1_callV hQ mt_X11_keep mt_X2_cutTo rfl rfl (o := 1) (ci := 1) (As := [.int p1]) (rest := []) rfl rfl rfl rfl rfl rfl (st1 := fun _ => []) (fun _ => rfl) (ok_X2_cutTo hQ c2 1 p1 rfl) (fun _ c3 => ?_)
      exact l1_ret mt_X11_keep rfl rfl rfl
    · exact l1_thr
set_option maxRecDepth 100000 in
theorem en_X11_typed {Q : hS → am_H → Prop} (hQ : l1_em kc Q) (c : hS) (p1 : Int32) : l1_G (wT wI) Q am_i_X11_typed 0 [some (.ref 0), some (.int p1)] [] c (f_X11_typed c p1) := by
  rw [f_X11_typed]
  refine l1_many mt_X11_typed (pc' := 1) (L' := [some (.ref 0), some (.int p1)]) (st' := [.ref 0]) 1 rfl ?_
  refine l1_getR hQ mt_X11_typed rfl (o := 0) (ci := 10) (k := 0) (a := 0) (b := 1) rfl rfl rfl rfl rfl (q := 1) rfl ?_
  refine l1_many mt_X11_typed (pc' := 5) (L' := [some (.ref 0), some (.int p1)]) (st' := [.int p1, .ref 1]) 1 rfl ?_
  refine l1_callV hQ mt_X11_typed mt_X2_has rfl rfl (o := 1) (ci := 1) (As := [.int p1]) (rest := []) rfl rfl rfl rfl rfl rfl (st1 := fun x1 => [.int x1]) (fun _ => rfl) (ok_X2_has hQ c 1 p1 rfl) (fun x1 c2 => ?_)
  refine l1_many mt_X11_typed (pc' := bif am_cc .ne x1 0 then 21 else 11) (L' := [some (.ref 0), some (.int p1)]) (st' := []) 1 rfl ?_
  refine l1_bin rfl ?_ ?_
  · exact l1_thr
  · refine l1_many mt_X11_typed (pc' := 22) (L' := [some (.ref 0), some (.int p1)]) (st' := [.ref 0]) 1 rfl ?_
    refine l1_getR hQ mt_X11_typed rfl (o := 0) (ci := 10) (k := 0) (a := 0) (b := 1) rfl rfl rfl rfl rfl (q := 1) rfl ?_
    refine l1_many mt_X11_typed (pc' := 26) (L' := [some (.ref 0), some (.int p1)]) (st' := [.int p1, .ref 1]) 1 rfl ?_
    refine l1_callV hQ mt_X11_typed mt_X2_get rfl rfl (o := 1) (ci := 1) (As := [.int p1]) (rest := []) rfl rfl rfl rfl rfl rfl (st1 := fun x3 => [.int x3]) (fun _ => rfl) (ok_X2_get hQ c2 1 p1 rfl) (fun x3 c4 => ?_)
    exact l1_ret mt_X11_typed rfl rfl rfl
set_option maxRecDepth 100000 in
theorem ok_X11_come_86 {Q : hS → am_H → Prop} (hQ : l1_em kc Q) (N : Nat) (p1 : Int32) (p2 : Int32) : ∀ (c : hS) (w0 : Int32) (w1 : Int32), l1_G (wT wI) Q am_i_X11_come 86 [some (.ref 0), some (.int p1), some (.int p2)] [.int w0, .int w1] c (f_X11_come_86 N p1 p2 c w0 w1) := by
  intro c w0 w1
  rw [f_X11_come_86]
  refine l1_many mt_X11_come (pc' := bif am_cc .le w1 w0 then 99 else 89) (L' := [some (.ref 0), some (.int p1), some (.int p2)]) (st' := []) 1 rfl ?_
  refine l1_bif rfl ?_ ?_
  · refine l1_many mt_X11_come (pc' := 100) (L' := [some (.ref 0), some (.int p1), some (.int p2)]) (st' := [.ref 0]) 1 rfl ?_
    refine l1_getM hQ mt_X11_come rfl (o := 0) (ci := 10) (k := 8) (a := 0) (b := 0) rfl rfl rfl rfl rfl (fun hx1 => ?_)
    refine l1_many mt_X11_come (pc' := 104) (L' := [some (.ref 0), some (.int p1), some (.int p2)]) (st' := [.ref 0, .ref (c.2.2 0 8)]) 1 rfl ?_
    refine l1_getR hQ mt_X11_come rfl (o := 0) (ci := 10) (k := 2) (a := 0) (b := 1) rfl rfl rfl rfl rfl (q := 5) rfl ?_
    refine l1_many mt_X11_come (pc' := 108) (L' := [some (.ref 0), some (.int p1), some (.int p2)]) (st' := [.int p2, .ref 5, .ref (c.2.2 0 8)]) 1 rfl ?_
    refine l1_callV hQ mt_X11_come mt_X9_isInTheWay rfl rfl (o := (c.2.2 0 8)) (ci := 8) (As := [.ref 5, .int p2]) (rest := []) rfl rfl hx1 rfl rfl rfl (st1 := fun x2 => [.int x2]) (fun _ => rfl) (ok_X9_isInTheWay hQ N c (c.2.2 0 8) 5 p2 hx1 rfl) (fun x2 c3 => ?_)
    refine l1_many mt_X11_come (pc' := bif am_cc .eq x2 0 then 124 else 114) (L' := [some (.ref 0), some (.int p1), some (.int p2)]) (st' := []) 1 rfl ?_
    refine l1_bif rfl ?_ ?_
    · refine l1_many mt_X11_come (pc' := 125) (L' := [some (.ref 0), some (.int p1), some (.int p2)]) (st' := [.ref 0]) 1 rfl ?_
      refine l1_getM hQ mt_X11_come rfl (o := 0) (ci := 10) (k := 8) (a := 0) (b := 0) rfl rfl rfl rfl rfl (fun hx4 => ?_)
      refine l1_many mt_X11_come (pc' := 129) (L' := [some (.ref 0), some (.int p1), some (.int p2)]) (st' := [.ref 0, .ref (c3.2.2 0 8)]) 1 rfl ?_
      refine l1_getR hQ mt_X11_come rfl (o := 0) (ci := 10) (k := 2) (a := 0) (b := 1) rfl rfl rfl rfl rfl (q := 5) rfl ?_
      refine l1_callV hQ mt_X11_come mt_X9_hasRoomFor rfl rfl (o := (c3.2.2 0 8)) (ci := 8) (As := [.ref 5]) (rest := []) rfl rfl hx4 rfl rfl rfl (st1 := fun x5 => [.int x5]) (fun _ => rfl) (ok_X9_hasRoomFor hQ N c3 (c3.2.2 0 8) 5 hx4 rfl) (fun x5 c6 => ?_)
      refine l1_many mt_X11_come (pc' := bif am_cc .ne x5 0 then 148 else 138) (L' := [some (.ref 0), some (.int p1), some (.int p2)]) (st' := []) 1 rfl ?_
      refine l1_bin rfl ?_ ?_
      · exact l1_thr
      · refine l1_many mt_X11_come (pc' := 149) (L' := [some (.ref 0), some (.int p1), some (.int p2)]) (st' := [.ref 0]) 1 rfl ?_
        refine l1_getM hQ mt_X11_come rfl (o := 0) (ci := 10) (k := 8) (a := 0) (b := 0) rfl rfl rfl rfl rfl (fun hx7 => ?_)
        refine l1_many mt_X11_come (pc' := 153) (L' := [some (.ref 0), some (.int p1), some (.int p2)]) (st' := [.ref 0, .ref (c6.2.2 0 8)]) 1 rfl ?_
        refine l1_getR hQ mt_X11_come rfl (o := 0) (ci := 10) (k := 2) (a := 0) (b := 1) rfl rfl rfl rfl rfl (q := 5) rfl ?_
        refine l1_many mt_X11_come (pc' := 158) (L' := [some (.ref 0), some (.int p1), some (.int p2)]) (st' := [.ref 0, .int p2, .ref 5, .ref (c6.2.2 0 8)]) 2 rfl ?_
        refine l1_getR hQ mt_X11_come rfl (o := 0) (ci := 10) (k := 0) (a := 0) (b := 1) rfl rfl rfl rfl rfl (q := 1) rfl ?_
        refine l1_many mt_X11_come (pc' := 163) (L' := [some (.ref 0), some (.int p1), some (.int p2)]) (st' := [.ref 0, .int p1, .ref 1, .int p2, .ref 5, .ref (c6.2.2 0 8)]) 2 rfl ?_
        refine l1_getR hQ mt_X11_come rfl (o := 0) (ci := 10) (k := 0) (a := 0) (b := 1) rfl rfl rfl rfl rfl (q := 1) rfl ?_
        refine l1_callV hQ mt_X11_come mt_X2_size rfl rfl (o := 1) (ci := 1) (As := []) (rest := [.int p1, .ref 1, .int p2, .ref 5, .ref (c6.2.2 0 8)]) rfl rfl rfl rfl rfl rfl (st1 := fun x8 => [.int x8, .int p1, .ref 1, .int p2, .ref 5, .ref (c6.2.2 0 8)]) (fun _ => rfl) (ok_X2_size hQ c6 1 rfl) (fun x8 c9 => ?_)
        refine l1_callV hQ mt_X11_come mt_X9_take rfl rfl (o := (c6.2.2 0 8)) (ci := 8) (As := [.ref 5, .int p2, .ref 1, .int p1, .int x8]) (rest := []) rfl rfl hx7 rfl rfl rfl (st1 := fun _ => []) (fun _ => rfl) (ok_X9_take hQ N c9 (c6.2.2 0 8) 5 p2 1 p1 x8 hx7 rfl rfl) (fun _ c10 => ?_)
        refine l1_many mt_X11_come (pc' := 173) (L' := [some (.ref 0), some (.int p1), some (.int p2)]) (st' := [.ref 0]) 1 rfl ?_
        refine l1_getR hQ mt_X11_come rfl (o := 0) (ci := 10) (k := 0) (a := 0) (b := 1) rfl rfl rfl rfl rfl (q := 1) rfl ?_
        refine l1_many mt_X11_come (pc' := 177) (L' := [some (.ref 0), some (.int p1), some (.int p2)]) (st' := [.int 0, .ref 1]) 1 rfl ?_
        refine l1_callV hQ mt_X11_come mt_X2_cutTo rfl rfl (o := 1) (ci := 1) (As := [.int 0]) (rest := []) rfl rfl rfl rfl rfl rfl (st1 := fun _ => []) (fun _ => rfl) (ok_X2_cutTo hQ c10 1 0 rfl) (fun _ c11 => ?_)
        refine l1_many mt_X11_come (pc' := 181) (L' := [some (.ref 0), some (.int p1), some (.int p2)]) (st' := [.ref 0]) 1 rfl ?_
        refine l1_getM hQ mt_X11_come rfl (o := 0) (ci := 10) (k := 8) (a := 0) (b := 0) rfl rfl rfl rfl rfl (fun hx12 => ?_)
        refine l1_callV hQ mt_X11_come mt_X9_size rfl rfl (o := (c11.2.2 0 8)) (ci := 8) (As := []) (rest := []) rfl rfl hx12 rfl rfl rfl (st1 := fun x13 => [.int x13]) (fun _ => rfl) (ok_X9_size hQ c11 (c11.2.2 0 8) hx12) (fun x13 c14 => ?_)
        exact l1_ret mt_X11_come rfl rfl rfl
    · exact l1_thr
  · exact l1_thr
set_option maxRecDepth 100000 in
theorem en_X11_come {Q : hS → am_H → Prop} (hQ : l1_em kc Q) (N : Nat) (c : hS) (p1 : Int32) (p2 : Int32) : l1_G (wT wI) Q am_i_X11_come 0 [some (.ref 0), some (.int p1), some (.int p2)] [] c (f_X11_come N c p1 p2) := by
  rw [f_X11_come]
  refine l1_many mt_X11_come (pc' := bif am_cc .lt p1 0 then 15 else 4) (L' := [some (.ref 0), some (.int p1), some (.int p2)]) (st' := []) 2 rfl ?_
  refine l1_bif rfl ?_ ?_
  · exact l1_thr
  · refine l1_many mt_X11_come (pc' := 6) (L' := [some (.ref 0), some (.int p1), some (.int p2)]) (st' := [.ref 0, .int p1]) 2 rfl ?_
    refine l1_getR hQ mt_X11_come rfl (o := 0) (ci := 10) (k := 0) (a := 0) (b := 1) rfl rfl rfl rfl rfl (q := 1) rfl ?_
    refine l1_callV hQ mt_X11_come mt_X2_size rfl rfl (o := 1) (ci := 1) (As := []) (rest := [.int p1]) rfl rfl rfl rfl rfl rfl (st1 := fun x1 => [.int x1, .int p1]) (fun _ => rfl) (ok_X2_size hQ c 1 rfl) (fun x1 c2 => ?_)
    refine l1_many mt_X11_come (pc' := bif am_cc .le p1 x1 then 25 else 15) (L' := [some (.ref 0), some (.int p1), some (.int p2)]) (st' := []) 1 rfl ?_
    refine l1_bif rfl ?_ ?_
    · refine l1_many mt_X11_come (pc' := 26) (L' := [some (.ref 0), some (.int p1), some (.int p2)]) (st' := [.ref 0]) 1 rfl ?_
      refine l1_getR hQ mt_X11_come rfl (o := 0) (ci := 10) (k := 2) (a := 0) (b := 1) rfl rfl rfl rfl rfl (q := 5) rfl ?_
      refine l1_many mt_X11_come (pc' := 30) (L' := [some (.ref 0), some (.int p1), some (.int p2)]) (st' := [.int 0, .ref 5]) 1 rfl ?_
      refine l1_callV hQ mt_X11_come mt_X2_cutTo rfl rfl (o := 5) (ci := 1) (As := [.int 0]) (rest := []) rfl rfl rfl rfl rfl rfl (st1 := fun _ => []) (fun _ => rfl) (ok_X2_cutTo hQ c2 5 0 rfl) (fun _ c3 => ?_)
      refine l1_many mt_X11_come (pc' := 34) (L' := [some (.ref 0), some (.int p1), some (.int p2)]) (st' := [.ref 0]) 1 rfl ?_
      refine l1_getR hQ mt_X11_come rfl (o := 0) (ci := 10) (k := 2) (a := 0) (b := 1) rfl rfl rfl rfl rfl (q := 5) rfl ?_
      refine l1_many mt_X11_come (pc' := 38) (L' := [some (.ref 0), some (.int p1), some (.int p2)]) (st' := [.ref 0, .ref 5]) 1 rfl ?_
      refine l1_getR hQ mt_X11_come rfl (o := 0) (ci := 10) (k := 0) (a := 0) (b := 1) rfl rfl rfl rfl rfl (q := 1) rfl ?_
      refine l1_many mt_X11_come (pc' := 43) (L' := [some (.ref 0), some (.int p1), some (.int p2)]) (st' := [.int p1, .int 0, .ref 1, .ref 5]) 2 rfl ?_
      refine l1_callV hQ mt_X11_come mt_X2_addRow rfl rfl (o := 5) (ci := 1) (As := [.ref 1, .int 0, .int p1]) (rest := []) rfl rfl rfl rfl rfl rfl (st1 := fun _ => []) (fun _ => rfl) (ok_X2_addRow hQ N c3 5 1 0 p1 rfl rfl) (fun _ c4 => ?_)
      refine l1_many mt_X11_come (pc' := 47) (L' := [some (.ref 0), some (.int p1), some (.int p2)]) (st' := [.ref 0]) 1 rfl ?_
      refine l1_getR hQ mt_X11_come rfl (o := 0) (ci := 10) (k := 2) (a := 0) (b := 1) rfl rfl rfl rfl rfl (q := 5) rfl ?_
      refine l1_callS mt_X11_come mt_X11_isName rfl rfl (As := [.ref 5]) (rest := []) rfl rfl rfl (st1 := fun x5 => [.int x5]) (fun _ => rfl) (ok_X11_isName hQ N c4 5 rfl) (fun x5 c6 => ?_)
      refine l1_many mt_X11_come (pc' := bif am_cc .ne x5 0 then 66 else 56) (L' := [some (.ref 0), some (.int p1), some (.int p2)]) (st' := []) 1 rfl ?_
      refine l1_bin rfl ?_ ?_
      · exact l1_thr
      · refine l1_many mt_X11_come (pc' := 67) (L' := [some (.ref 0), some (.int p1), some (.int p2)]) (st' := [.ref 0]) 1 rfl ?_
        refine l1_getR hQ mt_X11_come rfl (o := 0) (ci := 10) (k := 0) (a := 0) (b := 1) rfl rfl rfl rfl rfl (q := 1) rfl ?_
        refine l1_callV hQ mt_X11_come mt_X2_size rfl rfl (o := 1) (ci := 1) (As := []) (rest := []) rfl rfl rfl rfl rfl rfl (st1 := fun x7 => [.int x7]) (fun _ => rfl) (ok_X2_size hQ c6 1 rfl) (fun x7 c8 => ?_)
        refine l1_many mt_X11_come (pc' := bif am_cc .eq p2 0 then 83 else 79) (L' := [some (.ref 0), some (.int p1), some (.int p2)]) (st' := [.int (x7 - p1)]) 4 rfl ?_
        refine l1_bif rfl ?_ ?_
        · refine l1_many mt_X11_come (pc' := 86) (L' := [some (.ref 0), some (.int p1), some (.int p2)]) (st' := [.int 400, .int (x7 - p1)]) 1 rfl ?_
          exact ok_X11_come_86 hQ N p1 p2 c8 400 (x7 - p1)
        · refine l1_many mt_X11_come (pc' := 86) (L' := [some (.ref 0), some (.int p1), some (.int p2)]) (st' := [.int 0, .int (x7 - p1)]) 2 rfl ?_
          exact ok_X11_come_86 hQ N p1 p2 c8 0 (x7 - p1)
    · exact l1_thr
set_option maxRecDepth 100000 in
theorem en_X11_go {Q : hS → am_H → Prop} (hQ : l1_em kc Q) (N : Nat) (c : hS) (p1 : Int32) : l1_G (wT wI) Q am_i_X11_go 0 [some (.ref 0), some (.int p1)] [] c (f_X11_go N c p1) := by
  rw [f_X11_go]
  refine l1_many mt_X11_go (pc' := 1) (L' := [some (.ref 0), some (.int p1)]) (st' := [.ref 0]) 1 rfl ?_
  refine l1_getM hQ mt_X11_go rfl (o := 0) (ci := 10) (k := 8) (a := 0) (b := 0) rfl rfl rfl rfl rfl (fun hx1 => ?_)
  refine l1_many mt_X11_go (pc' := 5) (L' := [some (.ref 0), some (.int p1)]) (st' := [.int p1, .ref (c.2.2 0 8)]) 1 rfl ?_
  refine l1_callV hQ mt_X11_go mt_X9_member rfl rfl (o := (c.2.2 0 8)) (ci := 8) (As := [.int p1]) (rest := []) rfl rfl hx1 rfl rfl rfl (st1 := fun x2 => l1_mv x2 :: []) (fun _ => rfl) (ok_X9_member hQ c (c.2.2 0 8) p1 hx1) (fun x2 c3 => ?_)
  refine l1_opt (x := x2) ?_ (fun y4 => ?_)
  · refine l1_many mt_X11_go (pc' := 11) (L' := [some (.ref 0), some (.int p1)]) (st' := []) 1 rfl ?_
    exact l1_thr
  · refine l1_ck (fun hy => ?_)
    have hy4 : kc y4 = 6 := Nat.eq_of_beq_eq_true hy
    refine l1_many mt_X11_go (pc' := 22) (L' := [some (.ref 0), some (.int p1)]) (st' := [.ref 0]) 2 rfl ?_
    refine l1_getM hQ mt_X11_go rfl (o := 0) (ci := 10) (k := 8) (a := 0) (b := 0) rfl rfl rfl rfl rfl (fun hx5 => ?_)
    refine l1_many mt_X11_go (pc' := 26) (L' := [some (.ref 0), some (.int p1)]) (st' := [.int p1, .ref (c3.2.2 0 8)]) 1 rfl ?_
    refine l1_callV hQ mt_X11_go mt_X9_drop rfl rfl (o := (c3.2.2 0 8)) (ci := 8) (As := [.int p1]) (rest := []) rfl rfl hx5 rfl rfl rfl (st1 := fun _ => []) (fun _ => rfl) (ok_X9_drop hQ N c3 (c3.2.2 0 8) p1 hx5) (fun _ c6 => ?_)
    refine l1_many mt_X11_go (pc' := 30) (L' := [some (.ref 0), some (.int p1)]) (st' := [.ref 0]) 1 rfl ?_
    refine l1_getM hQ mt_X11_go rfl (o := 0) (ci := 10) (k := 8) (a := 0) (b := 0) rfl rfl rfl rfl rfl (fun hx7 => ?_)
    refine l1_callV hQ mt_X11_go mt_X9_size rfl rfl (o := (c6.2.2 0 8)) (ci := 8) (As := []) (rest := []) rfl rfl hx7 rfl rfl rfl (st1 := fun x8 => [.int x8]) (fun _ => rfl) (ok_X9_size hQ c6 (c6.2.2 0 8) hx7) (fun x8 c9 => ?_)
    exact l1_ret mt_X11_go rfl rfl rfl
set_option maxRecDepth 100000 in
theorem en_X11_name {Q : hS → am_H → Prop} (hQ : l1_em kc Q) (c : hS) (p1 : Int32) (p2 : Int32) : l1_G (wT wI) Q am_i_X11_name 0 [some (.ref 0), some (.int p1), some (.int p2)] [] c (f_X11_name c p1 p2) := by
  rw [f_X11_name]
  refine l1_many mt_X11_name (pc' := 1) (L' := [some (.ref 0), some (.int p1), some (.int p2)]) (st' := [.ref 0]) 1 rfl ?_
  refine l1_getM hQ mt_X11_name rfl (o := 0) (ci := 10) (k := 8) (a := 0) (b := 0) rfl rfl rfl rfl rfl (fun hx1 => ?_)
  refine l1_many mt_X11_name (pc' := 5) (L' := [some (.ref 0), some (.int p1), some (.int p2)]) (st' := [.int p1, .ref (c.2.2 0 8)]) 1 rfl ?_
  refine l1_callV hQ mt_X11_name mt_X9_member rfl rfl (o := (c.2.2 0 8)) (ci := 8) (As := [.int p1]) (rest := []) rfl rfl hx1 rfl rfl rfl (st1 := fun x2 => l1_mv x2 :: []) (fun _ => rfl) (ok_X9_member hQ c (c.2.2 0 8) p1 hx1) (fun x2 c3 => ?_)
  refine l1_opt (x := x2) ?_ (fun y4 => ?_)
  · refine l1_many mt_X11_name (pc' := 13) (L' := [some (.ref 0), some (.int p1), some (.int p2), some (.null)]) (st' := []) 3 rfl ?_
    exact l1_thr
  · refine l1_ck (fun hy => ?_)
    have hy4 : kc y4 = 6 := Nat.eq_of_beq_eq_true hy
    refine l1_many mt_X11_name (pc' := 24) (L' := [some (.ref 0), some (.int p1), some (.int p2), some (.ref y4)]) (st' := [.int p2]) 4 rfl ?_
    refine l1_ite (fun hs => ?_) (fun hs3 => ?_)
    · refine l1_sw mt_X11_name rfl (pc' := 68) (st' := []) rfl (by rw [hs]; rfl) ?_
      refine l1_many mt_X11_name (pc' := 69) (L' := [some (.ref 0), some (.int p1), some (.int p2), some (.ref y4)]) (st' := [.ref y4]) 1 rfl ?_
      refine l1_getI hQ mt_X11_name rfl (o := y4) (ci := 6) (k := 2) (a := 2) (b := 0) hy4 rfl rfl rfl rfl ?_
      refine l1_many mt_X11_name (pc' := bif am_cc .eq (c3.1 y4 2) 0 then 79 else 75) (L' := [some (.ref 0), some (.int p1), some (.int p2), some (.ref y4)]) (st' := []) 1 rfl ?_
      refine l1_bif rfl ?_ ?_
      · refine l1_many mt_X11_name (pc' := 80) (L' := [some (.ref 0), some (.int p1), some (.int p2), some (.ref y4)]) (st' := [.int 0]) 1 rfl ?_
        exact l1_ret mt_X11_name rfl rfl rfl
      · refine l1_many mt_X11_name (pc' := 80) (L' := [some (.ref 0), some (.int p1), some (.int p2), some (.ref y4)]) (st' := [.int 1]) 2 rfl ?_
        exact l1_ret mt_X11_name rfl rfl rfl
    refine l1_ite (fun hs => ?_) (fun hs2 => ?_)
    · refine l1_sw mt_X11_name rfl (pc' := 60) (st' := []) rfl (by rw [hs]; rfl) ?_
      refine l1_many mt_X11_name (pc' := 61) (L' := [some (.ref 0), some (.int p1), some (.int p2), some (.ref y4)]) (st' := [.ref y4]) 1 rfl ?_
      refine l1_getR hQ mt_X11_name rfl (o := y4) (ci := 6) (k := 1) (a := 2) (b := 2) hy4 rfl rfl rfl rfl (q := (y4 + 3)) rfl ?_
      refine l1_callV hQ mt_X11_name mt_X2_size rfl rfl (o := (y4 + 3)) (ci := 1) (As := []) (rest := []) rfl rfl (kc6_1 hy4) rfl rfl rfl (st1 := fun x5 => [.int x5]) (fun _ => rfl) (ok_X2_size hQ c3 (y4 + 3) (kc6_1 hy4)) (fun x5 c6 => ?_)
      exact l1_ret mt_X11_name rfl rfl rfl
    refine l1_ite (fun hs => ?_) (fun hs1 => ?_)
    · refine l1_sw mt_X11_name rfl (pc' := 52) (st' := []) rfl (by rw [hs]; rfl) ?_
      refine l1_many mt_X11_name (pc' := 53) (L' := [some (.ref 0), some (.int p1), some (.int p2), some (.ref y4)]) (st' := [.ref y4]) 1 rfl ?_
      refine l1_getR hQ mt_X11_name rfl (o := y4) (ci := 6) (k := 0) (a := 2) (b := 2) hy4 rfl rfl rfl rfl (q := (y4 + 1)) rfl ?_
      refine l1_callV hQ mt_X11_name mt_X2_size rfl rfl (o := (y4 + 1)) (ci := 1) (As := []) (rest := []) rfl rfl (kc6_0 hy4) rfl rfl rfl (st1 := fun x7 => [.int x7]) (fun _ => rfl) (ok_X2_size hQ c3 (y4 + 1) (kc6_0 hy4)) (fun x7 c8 => ?_)
      exact l1_ret mt_X11_name rfl rfl rfl
    refine l1_sw mt_X11_name rfl (pc' := 81) (st' := []) rfl (by have a3 : Int32.toInt p2 ≠ (-3) := fun e => hs3 (Int32.toInt_inj.mp (e.trans (by decide +kernel))); have a2 : Int32.toInt p2 ≠ (-2) := fun e => hs2 (Int32.toInt_inj.mp (e.trans (by decide +kernel))); have a1 : Int32.toInt p2 ≠ (-1) := fun e => hs1 (Int32.toInt_inj.mp (e.trans (by decide +kernel))); have : Int32.toInt p2 < (-3) ∨ (-1) < Int32.toInt p2 := (by omega); simp only [am_s0]; rw [if_pos this]; rfl) ?_
    · refine l1_many mt_X11_name (pc' := 82) (L' := [some (.ref 0), some (.int p1), some (.int p2), some (.ref y4)]) (st' := [.ref y4]) 1 rfl ?_
      refine l1_getR hQ mt_X11_name rfl (o := y4) (ci := 6) (k := 0) (a := 2) (b := 2) hy4 rfl rfl rfl rfl (q := (y4 + 1)) rfl ?_
      refine l1_many mt_X11_name (pc' := 86) (L' := [some (.ref 0), some (.int p1), some (.int p2), some (.ref y4)]) (st' := [.int p2, .ref (y4 + 1)]) 1 rfl ?_
      refine l1_callV hQ mt_X11_name mt_X2_has rfl rfl (o := (y4 + 1)) (ci := 1) (As := [.int p2]) (rest := []) rfl rfl (kc6_0 hy4) rfl rfl rfl (st1 := fun x9 => [.int x9]) (fun _ => rfl) (ok_X2_has hQ c3 (y4 + 1) p2 (kc6_0 hy4)) (fun x9 c10 => ?_)
      refine l1_many mt_X11_name (pc' := bif am_cc .ne x9 0 then 102 else 92) (L' := [some (.ref 0), some (.int p1), some (.int p2), some (.ref y4)]) (st' := []) 1 rfl ?_
      refine l1_bin rfl ?_ ?_
      · exact l1_thr
      · refine l1_many mt_X11_name (pc' := 103) (L' := [some (.ref 0), some (.int p1), some (.int p2), some (.ref y4)]) (st' := [.ref y4]) 1 rfl ?_
        refine l1_getR hQ mt_X11_name rfl (o := y4) (ci := 6) (k := 0) (a := 2) (b := 2) hy4 rfl rfl rfl rfl (q := (y4 + 1)) rfl ?_
        refine l1_many mt_X11_name (pc' := 107) (L' := [some (.ref 0), some (.int p1), some (.int p2), some (.ref y4)]) (st' := [.int p2, .ref (y4 + 1)]) 1 rfl ?_
        refine l1_callV hQ mt_X11_name mt_X2_get rfl rfl (o := (y4 + 1)) (ci := 1) (As := [.int p2]) (rest := []) rfl rfl (kc6_0 hy4) rfl rfl rfl (st1 := fun x11 => [.int x11]) (fun _ => rfl) (ok_X2_get hQ c10 (y4 + 1) p2 (kc6_0 hy4)) (fun x11 c12 => ?_)
        exact l1_ret mt_X11_name rfl rfl rfl
set_option maxRecDepth 100000 in
theorem en_X11_byteAt {Q : hS → am_H → Prop} (hQ : l1_em kc Q) (c : hS) (p1 : Int32) (p2 : Int32) : l1_G (wT wI) Q am_i_X11_byteAt 0 [some (.ref 0), some (.int p1), some (.int p2)] [] c (f_X11_byteAt c p1 p2) := by
  rw [f_X11_byteAt]
  refine l1_many mt_X11_byteAt (pc' := 1) (L' := [some (.ref 0), some (.int p1), some (.int p2)]) (st' := [.ref 0]) 1 rfl ?_
  refine l1_getM hQ mt_X11_byteAt rfl (o := 0) (ci := 10) (k := 8) (a := 0) (b := 0) rfl rfl rfl rfl rfl (fun hx1 => ?_)
  refine l1_many mt_X11_byteAt (pc' := 5) (L' := [some (.ref 0), some (.int p1), some (.int p2)]) (st' := [.int p1, .ref (c.2.2 0 8)]) 1 rfl ?_
  refine l1_callV hQ mt_X11_byteAt mt_X9_member rfl rfl (o := (c.2.2 0 8)) (ci := 8) (As := [.int p1]) (rest := []) rfl rfl hx1 rfl rfl rfl (st1 := fun x2 => l1_mv x2 :: []) (fun _ => rfl) (ok_X9_member hQ c (c.2.2 0 8) p1 hx1) (fun x2 c3 => ?_)
  refine l1_opt (x := x2) ?_ (fun y4 => ?_)
  · refine l1_many mt_X11_byteAt (pc' := 24) (L' := [some (.ref 0), some (.int p1), some (.int p2), some (.null)]) (st' := []) 3 rfl ?_
    exact l1_thr
  · refine l1_ck (fun hy => ?_)
    have hy4 : kc y4 = 6 := Nat.eq_of_beq_eq_true hy
    refine l1_many mt_X11_byteAt (pc' := 14) (L' := [some (.ref 0), some (.int p1), some (.int p2), some (.ref y4)]) (st' := [.ref y4]) 4 rfl ?_
    refine l1_getR hQ mt_X11_byteAt rfl (o := y4) (ci := 6) (k := 1) (a := 2) (b := 2) hy4 rfl rfl rfl rfl (q := (y4 + 3)) rfl ?_
    refine l1_many mt_X11_byteAt (pc' := 18) (L' := [some (.ref 0), some (.int p1), some (.int p2), some (.ref y4)]) (st' := [.int p2, .ref (y4 + 3)]) 1 rfl ?_
    refine l1_callV hQ mt_X11_byteAt mt_X2_has rfl rfl (o := (y4 + 3)) (ci := 1) (As := [.int p2]) (rest := []) rfl rfl (kc6_1 hy4) rfl rfl rfl (st1 := fun x5 => [.int x5]) (fun _ => rfl) (ok_X2_has hQ c3 (y4 + 3) p2 (kc6_1 hy4)) (fun x5 c6 => ?_)
    refine l1_many mt_X11_byteAt (pc' := bif am_cc .ne x5 0 then 34 else 24) (L' := [some (.ref 0), some (.int p1), some (.int p2), some (.ref y4)]) (st' := []) 1 rfl ?_
    refine l1_bin rfl ?_ ?_
    · exact l1_thr
    · refine l1_many mt_X11_byteAt (pc' := 35) (L' := [some (.ref 0), some (.int p1), some (.int p2), some (.ref y4)]) (st' := [.ref y4]) 1 rfl ?_
      refine l1_getR hQ mt_X11_byteAt rfl (o := y4) (ci := 6) (k := 1) (a := 2) (b := 2) hy4 rfl rfl rfl rfl (q := (y4 + 3)) rfl ?_
      refine l1_many mt_X11_byteAt (pc' := 39) (L' := [some (.ref 0), some (.int p1), some (.int p2), some (.ref y4)]) (st' := [.int p2, .ref (y4 + 3)]) 1 rfl ?_
      refine l1_callV hQ mt_X11_byteAt mt_X2_get rfl rfl (o := (y4 + 3)) (ci := 1) (As := [.int p2]) (rest := []) rfl rfl (kc6_1 hy4) rfl rfl rfl (st1 := fun x7 => [.int x7]) (fun _ => rfl) (ok_X2_get hQ c6 (y4 + 3) p2 (kc6_1 hy4)) (fun x7 c8 => ?_)
      exact l1_ret mt_X11_byteAt rfl rfl rfl
set_option maxRecDepth 100000 in
theorem en_X11_kind {Q : hS → am_H → Prop} (hQ : l1_em kc Q) (N : Nat) (c : hS) : l1_G (wN wI) Q am_i_X11_kind 0 [some (.ref 0)] [] c (f_X11_kind N c) := by
  rw [f_X11_kind]
  refine l1_many mt_X11_kind (pc' := 1) (L' := [some (.ref 0)]) (st' := [.ref 0]) 1 rfl ?_
  refine l1_getR hQ mt_X11_kind rfl (o := 0) (ci := 10) (k := 0) (a := 0) (b := 1) rfl rfl rfl rfl rfl (q := 1) rfl ?_
  refine l1_callV hQ mt_X11_kind mt_X2_size rfl rfl (o := 1) (ci := 1) (As := []) (rest := []) rfl rfl rfl rfl rfl rfl (st1 := fun x1 => [.int x1]) (fun _ => rfl) (ok_X2_size hQ c 1 rfl) (fun x1 c2 => ?_)
  refine l1_many mt_X11_kind (pc' := bif am_cc .ne x1 0 then 12 else 10) (L' := [some (.ref 0)]) (st' := []) 1 rfl ?_
  refine l1_bin rfl ?_ ?_
  · refine l1_many mt_X11_kind (pc' := 11) (L' := [some (.ref 0)]) (st' := [.int 1]) 1 rfl ?_
    exact l1_ret mt_X11_kind rfl rfl rfl
  · refine l1_many mt_X11_kind (pc' := 13) (L' := [some (.ref 0)]) (st' := [.ref 0]) 1 rfl ?_
    refine l1_getM hQ mt_X11_kind rfl (o := 0) (ci := 10) (k := 8) (a := 0) (b := 0) rfl rfl rfl rfl rfl (fun hx3 => ?_)
    refine l1_many mt_X11_kind (pc' := 17) (L' := [some (.ref 0)]) (st' := [.ref 0, .ref (c2.2.2 0 8)]) 1 rfl ?_
    refine l1_getM hQ mt_X11_kind rfl (o := 0) (ci := 10) (k := 8) (a := 0) (b := 0) rfl rfl rfl rfl rfl (fun hx4 => ?_)
    refine l1_many mt_X11_kind (pc' := 21) (L' := [some (.ref 0)]) (st' := [.ref 0, .ref (c2.2.2 0 8), .ref (c2.2.2 0 8)]) 1 rfl ?_
    refine l1_getR hQ mt_X11_kind rfl (o := 0) (ci := 10) (k := 0) (a := 0) (b := 1) rfl rfl rfl rfl rfl (q := 1) rfl ?_
    refine l1_callV hQ mt_X11_kind mt_X9_find rfl rfl (o := (c2.2.2 0 8)) (ci := 8) (As := [.ref 1]) (rest := [.ref (c2.2.2 0 8)]) rfl rfl hx4 rfl rfl rfl (st1 := fun x5 => [.int x5, .ref (c2.2.2 0 8)]) (fun _ => rfl) (ok_X9_find hQ N c2 (c2.2.2 0 8) 1 hx4 rfl) (fun x5 c6 => ?_)
    refine l1_callV hQ mt_X11_kind mt_X9_member rfl rfl (o := (c2.2.2 0 8)) (ci := 8) (As := [.int x5]) (rest := []) rfl rfl hx3 rfl rfl rfl (st1 := fun x7 => l1_mv x7 :: []) (fun _ => rfl) (ok_X9_member hQ c6 (c2.2.2 0 8) x5 hx3) (fun x7 c8 => ?_)
    refine l1_opt (x := x7) ?_ (fun y9 => ?_)
    · refine l1_many mt_X11_kind (pc' := 49) (L' := [some (.ref 0), some (.null)]) (st' := [.ref 0]) 4 rfl ?_
      refine l1_getM hQ mt_X11_kind rfl (o := 0) (ci := 10) (k := 8) (a := 0) (b := 0) rfl rfl rfl rfl rfl (fun hx10 => ?_)
      refine l1_many mt_X11_kind (pc' := 53) (L' := [some (.ref 0), some (.null)]) (st' := [.ref 0, .ref (c8.2.2 0 8)]) 1 rfl ?_
      refine l1_getR hQ mt_X11_kind rfl (o := 0) (ci := 10) (k := 0) (a := 0) (b := 1) rfl rfl rfl rfl rfl (q := 1) rfl ?_
      refine l1_callV hQ mt_X11_kind mt_X9_hasUnder rfl rfl (o := (c8.2.2 0 8)) (ci := 8) (As := [.ref 1]) (rest := []) rfl rfl hx10 rfl rfl rfl (st1 := fun x11 => [.int x11]) (fun _ => rfl) (ok_X9_hasUnder hQ N c8 (c8.2.2 0 8) 1 hx10 rfl) (fun x11 c12 => ?_)
      refine l1_many mt_X11_kind (pc' := bif am_cc .eq x11 0 then 66 else 62) (L' := [some (.ref 0), some (.null)]) (st' := []) 1 rfl ?_
      refine l1_bif rfl ?_ ?_
      · refine l1_many mt_X11_kind (pc' := 67) (L' := [some (.ref 0), some (.null)]) (st' := [.int 0]) 1 rfl ?_
        exact l1_ret mt_X11_kind rfl rfl rfl
      · refine l1_many mt_X11_kind (pc' := 67) (L' := [some (.ref 0), some (.null)]) (st' := [.int 1]) 2 rfl ?_
        exact l1_ret mt_X11_kind rfl rfl rfl
    · refine l1_ck (fun hy => ?_)
      have hy9 : kc y9 = 6 := Nat.eq_of_beq_eq_true hy
      refine l1_many mt_X11_kind (pc' := 36) (L' := [some (.ref 0), some (.ref y9)]) (st' := [.ref y9]) 4 rfl ?_
      refine l1_getI hQ mt_X11_kind rfl (o := y9) (ci := 6) (k := 2) (a := 2) (b := 0) hy9 rfl rfl rfl rfl ?_
      refine l1_many mt_X11_kind (pc' := bif am_cc .eq (c8.1 y9 2) 0 then 46 else 42) (L' := [some (.ref 0), some (.ref y9)]) (st' := []) 1 rfl ?_
      refine l1_bif rfl ?_ ?_
      · refine l1_many mt_X11_kind (pc' := 47) (L' := [some (.ref 0), some (.ref y9)]) (st' := [.int 2]) 1 rfl ?_
        exact l1_ret mt_X11_kind rfl rfl rfl
      · refine l1_many mt_X11_kind (pc' := 47) (L' := [some (.ref 0), some (.ref y9)]) (st' := [.int 1]) 2 rfl ?_
        exact l1_ret mt_X11_kind rfl rfl rfl
theorem ok_X11_kind {Q : hS → am_H → Prop} (hQ : l1_em kc Q) (N : Nat) (c : hS) : l1_T wI Q am_i_X11_kind [.ref 0] c (f_X11_kind N c) := l1_of (en_X11_kind hQ N c) ⟨rfl, trivial⟩
set_option maxRecDepth 100000 in
theorem en_X11_child {Q : hS → am_H → Prop} (hQ : l1_em kc Q) (N : Nat) (c : hS) (p1 : Int32) (p2 : Int32) : l1_G (wT wI) Q am_i_X11_child 0 [some (.ref 0), some (.int p1), some (.int p2)] [] c (f_X11_child N c p1 p2) := by
  rw [f_X11_child]
  refine l1_many mt_X11_child (pc' := bif am_cc .ne p1 (-1) then 32 else 5) (L' := [some (.ref 0), some (.int p1), some (.int p2)]) (st' := []) 3 rfl ?_
  refine l1_bin rfl ?_ ?_
  · refine l1_many mt_X11_child (pc' := bif am_cc .eq p2 (-1) then 20 else 10) (L' := [some (.ref 0), some (.int p1), some (.int p2)]) (st' := []) 3 rfl ?_
    refine l1_bif rfl ?_ ?_
    · refine l1_many mt_X11_child (pc' := 21) (L' := [some (.ref 0), some (.int p1), some (.int p2)]) (st' := [.ref 0]) 1 rfl ?_
      refine l1_getM hQ mt_X11_child rfl (o := 0) (ci := 10) (k := 8) (a := 0) (b := 0) rfl rfl rfl rfl rfl (fun hx14 => ?_)
      refine l1_many mt_X11_child (pc' := 25) (L' := [some (.ref 0), some (.int p1), some (.int p2)]) (st' := [.ref 0, .ref (c.2.2 0 8)]) 1 rfl ?_
      refine l1_getR hQ mt_X11_child rfl (o := 0) (ci := 10) (k := 0) (a := 0) (b := 1) rfl rfl rfl rfl rfl (q := 1) rfl ?_
      refine l1_callV hQ mt_X11_child mt_X9_children rfl rfl (o := (c.2.2 0 8)) (ci := 8) (As := [.ref 1]) (rest := []) rfl rfl hx14 rfl rfl rfl (st1 := fun x15 => [.int x15]) (fun _ => rfl) (ok_X9_children hQ N c (c.2.2 0 8) 1 hx14 rfl) (fun x15 c16 => ?_)
      exact l1_ret mt_X11_child rfl rfl rfl
    · exact l1_thr
  · refine l1_many mt_X11_child (pc' := 33) (L' := [some (.ref 0), some (.int p1), some (.int p2)]) (st' := [.ref 0]) 1 rfl ?_
    refine l1_getM hQ mt_X11_child rfl (o := 0) (ci := 10) (k := 8) (a := 0) (b := 0) rfl rfl rfl rfl rfl (fun hx1 => ?_)
    refine l1_many mt_X11_child (pc' := 37) (L' := [some (.ref 0), some (.int p1), some (.int p2)]) (st' := [.ref 0, .ref (c.2.2 0 8)]) 1 rfl ?_
    refine l1_getM hQ mt_X11_child rfl (o := 0) (ci := 10) (k := 8) (a := 0) (b := 0) rfl rfl rfl rfl rfl (fun hx2 => ?_)
    refine l1_many mt_X11_child (pc' := 41) (L' := [some (.ref 0), some (.int p1), some (.int p2)]) (st' := [.ref 0, .ref (c.2.2 0 8), .ref (c.2.2 0 8)]) 1 rfl ?_
    refine l1_getR hQ mt_X11_child rfl (o := 0) (ci := 10) (k := 0) (a := 0) (b := 1) rfl rfl rfl rfl rfl (q := 1) rfl ?_
    refine l1_many mt_X11_child (pc' := 45) (L' := [some (.ref 0), some (.int p1), some (.int p2)]) (st' := [.int p1, .ref 1, .ref (c.2.2 0 8), .ref (c.2.2 0 8)]) 1 rfl ?_
    refine l1_callV hQ mt_X11_child mt_X9_firstOfChild rfl rfl (o := (c.2.2 0 8)) (ci := 8) (As := [.ref 1, .int p1]) (rest := [.ref (c.2.2 0 8)]) rfl rfl hx2 rfl rfl rfl (st1 := fun x3 => [.int x3, .ref (c.2.2 0 8)]) (fun _ => rfl) (ok_X9_firstOfChild hQ N c (c.2.2 0 8) 1 p1 hx2 rfl) (fun x3 c4 => ?_)
    refine l1_callV hQ mt_X11_child mt_X9_member rfl rfl (o := (c.2.2 0 8)) (ci := 8) (As := [.int x3]) (rest := []) rfl rfl hx1 rfl rfl rfl (st1 := fun x5 => l1_mv x5 :: []) (fun _ => rfl) (ok_X9_member hQ c4 (c.2.2 0 8) x3 hx1) (fun x5 c6 => ?_)
    refine l1_opt (x := x5) ?_ (fun y7 => ?_)
    · refine l1_many mt_X11_child (pc' := 56) (L' := [some (.ref 0), some (.int p1), some (.int p2), some (.null)]) (st' := []) 3 rfl ?_
      exact l1_thr
    · refine l1_ck (fun hy => ?_)
      have hy7 : kc y7 = 6 := Nat.eq_of_beq_eq_true hy
      refine l1_many mt_X11_child (pc' := 67) (L' := [some (.ref 0), some (.int p1), some (.int p2), some (.ref y7)]) (st' := [.ref 0]) 4 rfl ?_
      refine l1_getR hQ mt_X11_child rfl (o := 0) (ci := 10) (k := 0) (a := 0) (b := 1) rfl rfl rfl rfl rfl (q := 1) rfl ?_
      refine l1_callS mt_X11_child mt_X11_partBehind rfl rfl (As := [.ref 1]) (rest := []) rfl rfl rfl (st1 := fun x8 => [.int x8]) (fun _ => rfl) (ok_X11_partBehind hQ c6 1 rfl) (fun x8 c9 => ?_)
      refine l1_many mt_X11_child (pc' := 76) (L' := [some (.ref 0), some (.int p1), some (.int p2), some (.ref y7), some (.int x8)]) (st' := [.ref y7]) 2 rfl ?_
      refine l1_getR hQ mt_X11_child rfl (o := y7) (ci := 6) (k := 0) (a := 2) (b := 2) hy7 rfl rfl rfl rfl (q := (y7 + 1)) rfl ?_
      refine l1_many mt_X11_child (pc' := 81) (L' := [some (.ref 0), some (.int p1), some (.int p2), some (.ref y7), some (.int x8)]) (st' := [.int x8, .ref (y7 + 1)]) 1 rfl ?_
      refine l1_callS mt_X11_child mt_X11_partLength rfl rfl (As := [.ref (y7 + 1), .int x8]) (rest := []) rfl rfl rfl (st1 := fun x10 => [.int x10]) (fun _ => rfl) (ok_X11_partLength hQ N c9 (y7 + 1) x8 (kc6_0 hy7)) (fun x10 c11 => ?_)
      refine l1_many mt_X11_child (pc' := bif am_cc .ne p2 (-1) then 94 else 91) (L' := [some (.ref 0), some (.int p1), some (.int p2), some (.ref y7), some (.int x8), some (.int x10)]) (st' := []) 4 rfl ?_
      refine l1_bin rfl ?_ ?_
      · refine l1_many mt_X11_child (pc' := 93) (L' := [some (.ref 0), some (.int p1), some (.int p2), some (.ref y7), some (.int x8), some (.int x10)]) (st' := [.int x10]) 1 rfl ?_
        exact l1_ret mt_X11_child rfl rfl rfl
      · refine l1_many mt_X11_child (pc' := bif am_cc .lt p2 0 then 104 else 98) (L' := [some (.ref 0), some (.int p1), some (.int p2), some (.ref y7), some (.int x8), some (.int x10)]) (st' := []) 2 rfl ?_
        refine l1_bif rfl ?_ ?_
        · exact l1_thr
        · refine l1_many mt_X11_child (pc' := bif am_cc .lt p2 x10 then 114 else 104) (L' := [some (.ref 0), some (.int p1), some (.int p2), some (.ref y7), some (.int x8), some (.int x10)]) (st' := []) 3 rfl ?_
          refine l1_bif rfl ?_ ?_
          · refine l1_many mt_X11_child (pc' := 115) (L' := [some (.ref 0), some (.int p1), some (.int p2), some (.ref y7), some (.int x8), some (.int x10)]) (st' := [.ref y7]) 1 rfl ?_
            refine l1_getR hQ mt_X11_child rfl (o := y7) (ci := 6) (k := 0) (a := 2) (b := 2) hy7 rfl rfl rfl rfl (q := (y7 + 1)) rfl ?_
            refine l1_many mt_X11_child (pc' := 122) (L' := [some (.ref 0), some (.int p1), some (.int p2), some (.ref y7), some (.int x8), some (.int x10)]) (st' := [.int (x8 + p2), .ref (y7 + 1)]) 3 rfl ?_
            refine l1_callV hQ mt_X11_child mt_X2_get rfl rfl (o := (y7 + 1)) (ci := 1) (As := [.int (x8 + p2)]) (rest := []) rfl rfl (kc6_0 hy7) rfl rfl rfl (st1 := fun x12 => [.int x12]) (fun _ => rfl) (ok_X2_get hQ c11 (y7 + 1) (x8 + p2) (kc6_0 hy7)) (fun x12 c13 => ?_)
            exact l1_ret mt_X11_child rfl rfl rfl
          · exact l1_thr
set_option maxRecDepth 100000 in
theorem en_X11_archiveOf {Q : hS → am_H → Prop} (hQ : l1_em kc Q) (c : hS) (p1 : Int32) : l1_G (wN wM) Q am_i_X11_archiveOf 0 [some (.ref 0), some (.int p1)] [] c (f_X11_archiveOf c p1) := by
  rw [f_X11_archiveOf]
  refine l1_many mt_X11_archiveOf (pc' := bif am_cc .lt p1 0 then 22 else 4) (L' := [some (.ref 0), some (.int p1)]) (st' := []) 2 rfl ?_
  refine l1_bif rfl ?_ ?_
  · refine l1_many mt_X11_archiveOf (pc' := 23) (L' := [some (.ref 0), some (.int p1)]) (st' := [.null]) 1 rfl ?_
    exact l1_ret mt_X11_archiveOf rfl rfl rfl
  · refine l1_many mt_X11_archiveOf (pc' := 6) (L' := [some (.ref 0), some (.int p1)]) (st' := [.ref 0, .int p1]) 2 rfl ?_
    refine l1_getR hQ mt_X11_archiveOf rfl (o := 0) (ci := 10) (k := 7) (a := 0) (b := 1) rfl rfl rfl rfl rfl (q := 33) rfl ?_
    refine l1_len hQ mt_X11_archiveOf rfl (o := 33) (ci := 23) rfl rfl rfl ?_
    refine l1_many mt_X11_archiveOf (pc' := bif am_cc .ge p1 (Int32.ofNat (ln 33)) then 22 else 13) (L' := [some (.ref 0), some (.int p1)]) (st' := []) 1 rfl ?_
    refine l1_bif rfl ?_ ?_
    · refine l1_many mt_X11_archiveOf (pc' := 23) (L' := [some (.ref 0), some (.int p1)]) (st' := [.null]) 1 rfl ?_
      exact l1_ret mt_X11_archiveOf rfl rfl rfl
    · refine l1_many mt_X11_archiveOf (pc' := 14) (L' := [some (.ref 0), some (.int p1)]) (st' := [.ref 0]) 1 rfl ?_
      refine l1_getR hQ mt_X11_archiveOf rfl (o := 0) (ci := 10) (k := 7) (a := 0) (b := 1) rfl rfl rfl rfl rfl (q := 33) rfl ?_
      refine l1_many mt_X11_archiveOf (pc' := 18) (L' := [some (.ref 0), some (.int p1)]) (st' := [.int p1, .ref 33]) 1 rfl ?_
      refine l1_ck (fun hx => ?_)
      refine l1_fald hQ mt_X11_archiveOf rfl (o := 33) rfl hx ?_
      refine l1_many mt_X11_archiveOf (pc' := 23) (L' := [some (.ref 0), some (.int p1)]) (st' := [.ref (34 + p1.toNatClampNeg)]) 1 rfl ?_
      exact l1_ret mt_X11_archiveOf rfl rfl rfl
theorem ok_X11_archiveOf {Q : hS → am_H → Prop} (hQ : l1_em kc Q) (c : hS) (p1 : Int32) : l1_T wM Q am_i_X11_archiveOf [.ref 0, .int p1] c (f_X11_archiveOf c p1) := l1_of (en_X11_archiveOf hQ c p1) ⟨rfl, rfl, trivial⟩
set_option maxRecDepth 100000 in
theorem en_X11_write {Q : hS → am_H → Prop} (hQ : l1_em kc Q) (N : Nat) (c : hS) (p1 : Int32) (p2 : Int32) : l1_G (wT wI) Q am_i_X11_write 0 [some (.ref 0), some (.int p1), some (.int p2)] [] c (f_X11_write N c p1 p2) := by
  rw [f_X11_write]
  refine l1_many mt_X11_write (pc' := 2) (L' := [some (.ref 0), some (.int p1), some (.int p2)]) (st' := [.int p1, .ref 0]) 2 rfl ?_
  refine l1_callV hQ mt_X11_write mt_X11_archiveOf rfl rfl (o := 0) (ci := 10) (As := [.int p1]) (rest := []) rfl rfl rfl rfl rfl rfl (st1 := fun x1 => l1_mv x1 :: []) (fun _ => rfl) (ok_X11_archiveOf hQ c p1) (fun x1 c2 => ?_)
  refine l1_opt (x := x1) ?_ (fun y3 => ?_)
  · refine l1_many mt_X11_write (pc' := 10) (L' := [some (.ref 0), some (.int p1), some (.int p2), some (.null)]) (st' := []) 3 rfl ?_
    exact l1_thr
  · refine l1_many mt_X11_write (pc' := 21) (L' := [some (.ref 0), some (.int p1), some (.int p2), some (.ref y3)]) (st' := [.ref 0]) 4 rfl ?_
    refine l1_getR hQ mt_X11_write rfl (o := 0) (ci := 10) (k := 1) (a := 0) (b := 1) rfl rfl rfl rfl rfl (q := 3) rfl ?_
    refine l1_many mt_X11_write (pc' := 25) (L' := [some (.ref 0), some (.int p1), some (.int p2), some (.ref y3)]) (st' := [.int 0, .ref 3]) 1 rfl ?_
    refine l1_callV hQ mt_X11_write mt_X2_cutTo rfl rfl (o := 3) (ci := 1) (As := [.int 0]) (rest := []) rfl rfl rfl rfl rfl rfl (st1 := fun _ => []) (fun _ => rfl) (ok_X2_cutTo hQ c2 3 0 rfl) (fun _ c4 => ?_)
    refine l1_many mt_X11_write (pc' := 30) (L' := [some (.ref 0), some (.int p1), some (.int p2), some (.ref y3)]) (st' := [.ref 0, .ref y3]) 2 rfl ?_
    refine l1_getM hQ mt_X11_write rfl (o := 0) (ci := 10) (k := 8) (a := 0) (b := 0) rfl rfl rfl rfl rfl (fun hx5 => ?_)
    refine l1_many mt_X11_write (pc' := 34) (L' := [some (.ref 0), some (.int p1), some (.int p2), some (.ref y3)]) (st' := [.int p2, .ref (c4.2.2 0 8), .ref y3]) 1 rfl ?_
    refine l1_ite (fun ha => ?_) (fun _ => ?_)
    · subst ha
      refine l1_callV hQ mt_X11_write mt_X1_layOut rfl rfl (o := 34) (ci := 0) (As := [.ref (c4.2.2 0 8), .int p2]) (rest := []) rfl rfl rfl rfl rfl rfl (st1 := fun _ => []) (fun _ => rfl) (ok_X1_layOut hQ N c4 (c4.2.2 0 8) p2 hx5) (fun _ c6 => ?_)
      refine l1_many mt_X11_write (pc' := 38) (L' := [some (.ref 0), some (.int p1), some (.int p2), some (.ref 34)]) (st' := [.ref 0]) 1 rfl ?_
      refine l1_getR hQ mt_X11_write rfl (o := 0) (ci := 10) (k := 1) (a := 0) (b := 1) rfl rfl rfl rfl rfl (q := 3) rfl ?_
      refine l1_callV hQ mt_X11_write mt_X2_size rfl rfl (o := 3) (ci := 1) (As := []) (rest := []) rfl rfl rfl rfl rfl rfl (st1 := fun x7 => [.int x7]) (fun _ => rfl) (ok_X2_size hQ c6 3 rfl) (fun x7 c8 => ?_)
      exact l1_ret mt_X11_write rfl rfl rfl
    refine l1_ite (fun ha => ?_) (fun _ => ?_)
    · subst ha
      refine l1_callV hQ mt_X11_write mt_X4_layOut rfl rfl (o := 35) (ci := 3) (As := [.ref (c4.2.2 0 8), .int p2]) (rest := []) rfl rfl rfl rfl rfl rfl (st1 := fun _ => []) (fun _ => rfl) (ok_X4_layOut hQ N c4 (c4.2.2 0 8) p2 hx5) (fun _ c9 => ?_)
      refine l1_many mt_X11_write (pc' := 38) (L' := [some (.ref 0), some (.int p1), some (.int p2), some (.ref 35)]) (st' := [.ref 0]) 1 rfl ?_
      refine l1_getR hQ mt_X11_write rfl (o := 0) (ci := 10) (k := 1) (a := 0) (b := 1) rfl rfl rfl rfl rfl (q := 3) rfl ?_
      refine l1_callV hQ mt_X11_write mt_X2_size rfl rfl (o := 3) (ci := 1) (As := []) (rest := []) rfl rfl rfl rfl rfl rfl (st1 := fun x10 => [.int x10]) (fun _ => rfl) (ok_X2_size hQ c9 3 rfl) (fun x10 c11 => ?_)
      exact l1_ret mt_X11_write rfl rfl rfl
    refine l1_ite (fun ha => ?_) (fun _ => ?_)
    · subst ha
      refine l1_callV hQ mt_X11_write mt_X5_layOut rfl rfl (o := 36) (ci := 4) (As := [.ref (c4.2.2 0 8), .int p2]) (rest := []) rfl rfl rfl rfl rfl rfl (st1 := fun _ => []) (fun _ => rfl) (ok_X5_layOut hQ N c4 (c4.2.2 0 8) p2 hx5) (fun _ c12 => ?_)
      refine l1_many mt_X11_write (pc' := 38) (L' := [some (.ref 0), some (.int p1), some (.int p2), some (.ref 36)]) (st' := [.ref 0]) 1 rfl ?_
      refine l1_getR hQ mt_X11_write rfl (o := 0) (ci := 10) (k := 1) (a := 0) (b := 1) rfl rfl rfl rfl rfl (q := 3) rfl ?_
      refine l1_callV hQ mt_X11_write mt_X2_size rfl rfl (o := 3) (ci := 1) (As := []) (rest := []) rfl rfl rfl rfl rfl rfl (st1 := fun x13 => [.int x13]) (fun _ => rfl) (ok_X2_size hQ c12 3 rfl) (fun x13 c14 => ?_)
      exact l1_ret mt_X11_write rfl rfl rfl
    exact l1_none
set_option maxRecDepth 100000 in
theorem en_X11_read {Q : hS → am_H → Prop} (hQ : l1_em kc Q) (N : Nat) (c : hS) (p1 : Int32) : l1_G (wT wI) Q am_i_X11_read 0 [some (.ref 0), some (.int p1)] [] c (f_X11_read N c p1) := by
  rw [f_X11_read]
  refine l1_many mt_X11_read (pc' := 2) (L' := [some (.ref 0), some (.int p1)]) (st' := [.int p1, .ref 0]) 2 rfl ?_
  refine l1_callV hQ mt_X11_read mt_X11_archiveOf rfl rfl (o := 0) (ci := 10) (As := [.int p1]) (rest := []) rfl rfl rfl rfl rfl rfl (st1 := fun x1 => l1_mv x1 :: []) (fun _ => rfl) (ok_X11_archiveOf hQ c p1) (fun x1 c2 => ?_)
  refine l1_opt (x := x1) ?_ (fun y3 => ?_)
  · refine l1_many mt_X11_read (pc' := 10) (L' := [some (.ref 0), some (.int p1), some (.null)]) (st' := []) 3 rfl ?_
    exact l1_thr
  · refine l1_many mt_X11_read (pc' := 21) (L' := [some (.ref 0), some (.int p1), some (.ref y3)]) (st' := [.ref 0]) 4 rfl ?_
    refine l1_getR hQ mt_X11_read rfl (o := 0) (ci := 10) (k := 4) (a := 0) (b := 1) rfl rfl rfl rfl rfl (q := 9) rfl ?_
    refine l1_callV hQ mt_X11_read mt_X6_clear rfl rfl (o := 9) (ci := 5) (As := []) (rest := []) rfl rfl rfl rfl rfl rfl (st1 := fun _ => []) (fun _ => rfl) (ok_X6_clear hQ c2) (fun _ c4 => ?_)
    refine l1_many mt_X11_read (pc' := 28) (L' := [some (.ref 0), some (.int p1), some (.ref y3)]) (st' := [.ref 0]) 1 rfl ?_
    refine l1_getM hQ mt_X11_read rfl (o := 0) (ci := 10) (k := 9) (a := 0) (b := 0) rfl rfl rfl rfl rfl (fun hx5 => ?_)
    refine l1_callV hQ mt_X11_read mt_X9_clear rfl rfl (o := (c4.2.2 0 9)) (ci := 8) (As := []) (rest := []) rfl rfl hx5 rfl rfl rfl (st1 := fun _ => []) (fun _ => rfl) (ok_X9_clear hQ c4 (c4.2.2 0 9) hx5) (fun _ c6 => ?_)
    refine l1_many mt_X11_read (pc' := 36) (L' := [some (.ref 0), some (.int p1), some (.ref y3)]) (st' := [.ref 0, .ref y3]) 2 rfl ?_
    refine l1_getM hQ mt_X11_read rfl (o := 0) (ci := 10) (k := 9) (a := 0) (b := 0) rfl rfl rfl rfl rfl (fun hx7 => ?_)
    refine l1_ite (fun ha => ?_) (fun _ => ?_)
    · subst ha
      refine l1_callV hQ mt_X11_read mt_X1_takeIn rfl rfl (o := 34) (ci := 0) (As := [.ref (c6.2.2 0 9)]) (rest := []) rfl rfl rfl rfl rfl rfl (st1 := fun x8 => [.int x8]) (fun _ => rfl) (ok_X1_takeIn hQ N c6 (c6.2.2 0 9) hx7) (fun x8 c9 => ?_)
      refine l1_many mt_X11_read (pc' := bif am_cc .ne x8 0 then 47 else 45) (L' := [some (.ref 0), some (.int p1), some (.ref 34)]) (st' := []) 1 rfl ?_
      refine l1_bin rfl ?_ ?_
      · refine l1_many mt_X11_read (pc' := 46) (L' := [some (.ref 0), some (.int p1), some (.ref 34)]) (st' := [.int (-1)]) 1 rfl ?_
        exact l1_ret mt_X11_read rfl rfl rfl
      · refine l1_many mt_X11_read (pc' := 48) (L' := [some (.ref 0), some (.int p1), some (.ref 34)]) (st' := [.ref 0]) 1 rfl ?_
        refine l1_getM hQ mt_X11_read rfl (o := 0) (ci := 10) (k := 8) (a := 0) (b := 0) rfl rfl rfl rfl rfl (fun hx10 => ?_)
        refine l1_many mt_X11_read (pc' := 54) (L' := [some (.ref 0), some (.int p1), some (.ref 34), some (.ref (c9.2.2 0 8))]) (st' := [.ref 0, .ref 0]) 3 rfl ?_
        refine l1_getM hQ mt_X11_read rfl (o := 0) (ci := 10) (k := 9) (a := 0) (b := 0) rfl rfl rfl rfl rfl (fun hx11 => ?_)
        refine l1_putM hQ mt_X11_read rfl (o := 0) (ci := 10) (k := 8) (a := 0) rfl rfl rfl rfl rfl rfl (fun c12 => ?_)
        refine l1_many mt_X11_read (pc' := 62) (L' := [some (.ref 0), some (.int p1), some (.ref 34), some (.ref (c9.2.2 0 8))]) (st' := [.ref (c9.2.2 0 8), .ref 0]) 2 rfl ?_
        refine l1_putM hQ mt_X11_read rfl (o := 0) (ci := 10) (k := 9) (a := 0) rfl rfl rfl rfl rfl rfl (fun c13 => ?_)
        refine l1_many mt_X11_read (pc' := 66) (L' := [some (.ref 0), some (.int p1), some (.ref 34), some (.ref (c9.2.2 0 8))]) (st' := [.ref 0]) 1 rfl ?_
        refine l1_getM hQ mt_X11_read rfl (o := 0) (ci := 10) (k := 8) (a := 0) (b := 0) rfl rfl rfl rfl rfl (fun hx14 => ?_)
        refine l1_callV hQ mt_X11_read mt_X9_size rfl rfl (o := (c13.2.2 0 8)) (ci := 8) (As := []) (rest := []) rfl rfl hx14 rfl rfl rfl (st1 := fun x15 => [.int x15]) (fun _ => rfl) (ok_X9_size hQ c13 (c13.2.2 0 8) hx14) (fun x15 c16 => ?_)
        exact l1_ret mt_X11_read rfl rfl rfl
    refine l1_ite (fun ha => ?_) (fun _ => ?_)
    · subst ha
      refine l1_callV hQ mt_X11_read mt_X4_takeIn rfl rfl (o := 35) (ci := 3) (As := [.ref (c6.2.2 0 9)]) (rest := []) rfl rfl rfl rfl rfl rfl (st1 := fun x17 => [.int x17]) (fun _ => rfl) (ok_X4_takeIn hQ N c6 (c6.2.2 0 9) hx7) (fun x17 c18 => ?_)
      refine l1_many mt_X11_read (pc' := bif am_cc .ne x17 0 then 47 else 45) (L' := [some (.ref 0), some (.int p1), some (.ref 35)]) (st' := []) 1 rfl ?_
      refine l1_bin rfl ?_ ?_
      · refine l1_many mt_X11_read (pc' := 46) (L' := [some (.ref 0), some (.int p1), some (.ref 35)]) (st' := [.int (-1)]) 1 rfl ?_
        exact l1_ret mt_X11_read rfl rfl rfl
      · refine l1_many mt_X11_read (pc' := 48) (L' := [some (.ref 0), some (.int p1), some (.ref 35)]) (st' := [.ref 0]) 1 rfl ?_
        refine l1_getM hQ mt_X11_read rfl (o := 0) (ci := 10) (k := 8) (a := 0) (b := 0) rfl rfl rfl rfl rfl (fun hx19 => ?_)
        refine l1_many mt_X11_read (pc' := 54) (L' := [some (.ref 0), some (.int p1), some (.ref 35), some (.ref (c18.2.2 0 8))]) (st' := [.ref 0, .ref 0]) 3 rfl ?_
        refine l1_getM hQ mt_X11_read rfl (o := 0) (ci := 10) (k := 9) (a := 0) (b := 0) rfl rfl rfl rfl rfl (fun hx20 => ?_)
        refine l1_putM hQ mt_X11_read rfl (o := 0) (ci := 10) (k := 8) (a := 0) rfl rfl rfl rfl rfl rfl (fun c21 => ?_)
        refine l1_many mt_X11_read (pc' := 62) (L' := [some (.ref 0), some (.int p1), some (.ref 35), some (.ref (c18.2.2 0 8))]) (st' := [.ref (c18.2.2 0 8), .ref 0]) 2 rfl ?_
        refine l1_putM hQ mt_X11_read rfl (o := 0) (ci := 10) (k := 9) (a := 0) rfl rfl rfl rfl rfl rfl (fun c22 => ?_)
        refine l1_many mt_X11_read (pc' := 66) (L' := [some (.ref 0), some (.int p1), some (.ref 35), some (.ref (c18.2.2 0 8))]) (st' := [.ref 0]) 1 rfl ?_
        refine l1_getM hQ mt_X11_read rfl (o := 0) (ci := 10) (k := 8) (a := 0) (b := 0) rfl rfl rfl rfl rfl (fun hx23 => ?_)
        refine l1_callV hQ mt_X11_read mt_X9_size rfl rfl (o := (c22.2.2 0 8)) (ci := 8) (As := []) (rest := []) rfl rfl hx23 rfl rfl rfl (st1 := fun x24 => [.int x24]) (fun _ => rfl) (ok_X9_size hQ c22 (c22.2.2 0 8) hx23) (fun x24 c25 => ?_)
        exact l1_ret mt_X11_read rfl rfl rfl
    refine l1_ite (fun ha => ?_) (fun _ => ?_)
    · subst ha
      refine l1_callV hQ mt_X11_read mt_X5_takeIn rfl rfl (o := 36) (ci := 4) (As := [.ref (c6.2.2 0 9)]) (rest := []) rfl rfl rfl rfl rfl rfl (st1 := fun x26 => [.int x26]) (fun _ => rfl) (ok_X5_takeIn hQ N c6 (c6.2.2 0 9) hx7) (fun x26 c27 => ?_)
      refine l1_many mt_X11_read (pc' := bif am_cc .ne x26 0 then 47 else 45) (L' := [some (.ref 0), some (.int p1), some (.ref 36)]) (st' := []) 1 rfl ?_
      refine l1_bin rfl ?_ ?_
      · refine l1_many mt_X11_read (pc' := 46) (L' := [some (.ref 0), some (.int p1), some (.ref 36)]) (st' := [.int (-1)]) 1 rfl ?_
        exact l1_ret mt_X11_read rfl rfl rfl
      · refine l1_many mt_X11_read (pc' := 48) (L' := [some (.ref 0), some (.int p1), some (.ref 36)]) (st' := [.ref 0]) 1 rfl ?_
        refine l1_getM hQ mt_X11_read rfl (o := 0) (ci := 10) (k := 8) (a := 0) (b := 0) rfl rfl rfl rfl rfl (fun hx28 => ?_)
        refine l1_many mt_X11_read (pc' := 54) (L' := [some (.ref 0), some (.int p1), some (.ref 36), some (.ref (c27.2.2 0 8))]) (st' := [.ref 0, .ref 0]) 3 rfl ?_
        refine l1_getM hQ mt_X11_read rfl (o := 0) (ci := 10) (k := 9) (a := 0) (b := 0) rfl rfl rfl rfl rfl (fun hx29 => ?_)
        refine l1_putM hQ mt_X11_read rfl (o := 0) (ci := 10) (k := 8) (a := 0) rfl rfl rfl rfl rfl rfl (fun c30 => ?_)
        refine l1_many mt_X11_read (pc' := 62) (L' := [some (.ref 0), some (.int p1), some (.ref 36), some (.ref (c27.2.2 0 8))]) (st' := [.ref (c27.2.2 0 8), .ref 0]) 2 rfl ?_
        refine l1_putM hQ mt_X11_read rfl (o := 0) (ci := 10) (k := 9) (a := 0) rfl rfl rfl rfl rfl rfl (fun c31 => ?_)
        refine l1_many mt_X11_read (pc' := 66) (L' := [some (.ref 0), some (.int p1), some (.ref 36), some (.ref (c27.2.2 0 8))]) (st' := [.ref 0]) 1 rfl ?_
        refine l1_getM hQ mt_X11_read rfl (o := 0) (ci := 10) (k := 8) (a := 0) (b := 0) rfl rfl rfl rfl rfl (fun hx32 => ?_)
        refine l1_callV hQ mt_X11_read mt_X9_size rfl rfl (o := (c31.2.2 0 8)) (ci := 8) (As := []) (rest := []) rfl rfl hx32 rfl rfl rfl (st1 := fun x33 => [.int x33]) (fun _ => rfl) (ok_X9_size hQ c31 (c31.2.2 0 8) hx32) (fun x33 c34 => ?_)
        exact l1_ret mt_X11_read rfl rfl rfl
    exact l1_none
set_option maxRecDepth 100000 in
theorem en_X11_fault {Q : hS → am_H → Prop} (hQ : l1_em kc Q) (c : hS) (p1 : Int32) : l1_G (wT wI) Q am_i_X11_fault 0 [some (.ref 0), some (.int p1)] [] c (f_X11_fault c p1) := by
  rw [f_X11_fault]
  refine l1_many mt_X11_fault (pc' := 1) (L' := [some (.ref 0), some (.int p1)]) (st' := [.int p1]) 1 rfl ?_
  refine l1_ite (fun hs => ?_) (fun hs0 => ?_)
  · refine l1_sw mt_X11_fault rfl (pc' := 28) (st' := []) rfl (by rw [hs]; rfl) ?_
    refine l1_many mt_X11_fault (pc' := 29) (L' := [some (.ref 0), some (.int p1)]) (st' := [.ref 0]) 1 rfl ?_
    refine l1_getR hQ mt_X11_fault rfl (o := 0) (ci := 10) (k := 4) (a := 0) (b := 1) rfl rfl rfl rfl rfl (q := 9) rfl ?_
    refine l1_callV hQ mt_X11_fault mt_X6_number rfl rfl (o := 9) (ci := 5) (As := []) (rest := []) rfl rfl rfl rfl rfl rfl (st1 := fun x1 => [.int x1]) (fun _ => rfl) (ok_X6_number hQ c) (fun x1 c2 => ?_)
    exact l1_ret mt_X11_fault rfl rfl rfl
  refine l1_ite (fun hs => ?_) (fun hs1 => ?_)
  · refine l1_sw mt_X11_fault rfl (pc' := 36) (st' := []) rfl (by rw [hs]; rfl) ?_
    refine l1_many mt_X11_fault (pc' := 37) (L' := [some (.ref 0), some (.int p1)]) (st' := [.ref 0]) 1 rfl ?_
    refine l1_getR hQ mt_X11_fault rfl (o := 0) (ci := 10) (k := 4) (a := 0) (b := 1) rfl rfl rfl rfl rfl (q := 9) rfl ?_
    refine l1_callV hQ mt_X11_fault mt_X6_place rfl rfl (o := 9) (ci := 5) (As := []) (rest := []) rfl rfl rfl rfl rfl rfl (st1 := fun x3 => [.int x3]) (fun _ => rfl) (ok_X6_place hQ c) (fun x3 c4 => ?_)
    exact l1_ret mt_X11_fault rfl rfl rfl
  refine l1_sw mt_X11_fault rfl (pc' := 44) (st' := []) rfl (by have a0 : Int32.toInt p1 ≠ 0 := fun e => hs0 (Int32.toInt_inj.mp (e.trans (by decide +kernel))); have a1 : Int32.toInt p1 ≠ 1 := fun e => hs1 (Int32.toInt_inj.mp (e.trans (by decide +kernel))); exact l1_lsd (by decide +kernel) (⟨Ne.symm a0, Ne.symm a1, trivial⟩) rfl) ?_
  · exact l1_thr
set_option maxRecDepth 100000 in
theorem en_X11_pack {Q : hS → am_H → Prop} (hQ : l1_em kc Q) (N : Nat) (c : hS) : l1_G (wN wI) Q am_i_X11_pack 0 [some (.ref 0)] [] c (f_X11_pack N c) := by
  rw [f_X11_pack]
  refine l1_many mt_X11_pack (pc' := 1) (L' := [some (.ref 0)]) (st' := [.ref 0]) 1 rfl ?_
  refine l1_getR hQ mt_X11_pack rfl (o := 0) (ci := 10) (k := 1) (a := 0) (b := 1) rfl rfl rfl rfl rfl (q := 3) rfl ?_
  refine l1_many mt_X11_pack (pc' := 5) (L' := [some (.ref 0)]) (st' := [.int 0, .ref 3]) 1 rfl ?_
  refine l1_callV hQ mt_X11_pack mt_X2_cutTo rfl rfl (o := 3) (ci := 1) (As := [.int 0]) (rest := []) rfl rfl rfl rfl rfl rfl (st1 := fun _ => []) (fun _ => rfl) (ok_X2_cutTo hQ c 3 0 rfl) (fun _ c1 => ?_)
  refine l1_many mt_X11_pack (pc' := 9) (L' := [some (.ref 0)]) (st' := [.ref 0]) 1 rfl ?_
  refine l1_getR hQ mt_X11_pack rfl (o := 0) (ci := 10) (k := 5) (a := 0) (b := 1) rfl rfl rfl rfl rfl (q := 10) rfl ?_
  refine l1_many mt_X11_pack (pc' := 13) (L' := [some (.ref 0)]) (st' := [.ref 0, .ref 10]) 1 rfl ?_
  refine l1_getR hQ mt_X11_pack rfl (o := 0) (ci := 10) (k := 0) (a := 0) (b := 1) rfl rfl rfl rfl rfl (q := 1) rfl ?_
  refine l1_callV hQ mt_X11_pack mt_X8_addPacked rfl rfl (o := 10) (ci := 7) (As := [.ref 1]) (rest := []) rfl rfl rfl rfl rfl rfl (st1 := fun _ => []) (fun _ => rfl) (ok_X8_addPacked hQ N c1 1 rfl) (fun _ c2 => ?_)
  refine l1_many mt_X11_pack (pc' := 20) (L' := [some (.ref 0)]) (st' := [.ref 0]) 1 rfl ?_
  refine l1_getR hQ mt_X11_pack rfl (o := 0) (ci := 10) (k := 1) (a := 0) (b := 1) rfl rfl rfl rfl rfl (q := 3) rfl ?_
  refine l1_callV hQ mt_X11_pack mt_X2_size rfl rfl (o := 3) (ci := 1) (As := []) (rest := []) rfl rfl rfl rfl rfl rfl (st1 := fun x3 => [.int x3]) (fun _ => rfl) (ok_X2_size hQ c2 3 rfl) (fun x3 c4 => ?_)
  exact l1_ret mt_X11_pack rfl rfl rfl
theorem ok_X11_pack {Q : hS → am_H → Prop} (hQ : l1_em kc Q) (N : Nat) (c : hS) : l1_T wI Q am_i_X11_pack [.ref 0] c (f_X11_pack N c) := l1_of (en_X11_pack hQ N c) ⟨rfl, trivial⟩
set_option maxRecDepth 100000 in
theorem en_X11_unpack {Q : hS → am_H → Prop} (hQ : l1_em kc Q) (N : Nat) (c : hS) : l1_G (wN wI) Q am_i_X11_unpack 0 [some (.ref 0)] [] c (f_X11_unpack N c) := by
  rw [f_X11_unpack]
  refine l1_many mt_X11_unpack (pc' := 1) (L' := [some (.ref 0)]) (st' := [.ref 0]) 1 rfl ?_
  refine l1_getR hQ mt_X11_unpack rfl (o := 0) (ci := 10) (k := 4) (a := 0) (b := 1) rfl rfl rfl rfl rfl (q := 9) rfl ?_
  refine l1_callV hQ mt_X11_unpack mt_X6_clear rfl rfl (o := 9) (ci := 5) (As := []) (rest := []) rfl rfl rfl rfl rfl rfl (st1 := fun _ => []) (fun _ => rfl) (ok_X6_clear hQ c) (fun _ c1 => ?_)
  refine l1_many mt_X11_unpack (pc' := 8) (L' := [some (.ref 0)]) (st' := [.ref 0]) 1 rfl ?_
  refine l1_getR hQ mt_X11_unpack rfl (o := 0) (ci := 10) (k := 6) (a := 0) (b := 1) rfl rfl rfl rfl rfl (q := 11) rfl ?_
  refine l1_many mt_X11_unpack (pc' := 13) (L' := [some (.ref 0)]) (st' := [.ref 0, .int 0, .ref 11]) 2 rfl ?_
  refine l1_getR hQ mt_X11_unpack rfl (o := 0) (ci := 10) (k := 1) (a := 0) (b := 1) rfl rfl rfl rfl rfl (q := 3) rfl ?_
  refine l1_callV hQ mt_X11_unpack mt_X2_size rfl rfl (o := 3) (ci := 1) (As := []) (rest := [.int 0, .ref 11]) rfl rfl rfl rfl rfl rfl (st1 := fun x2 => [.int x2, .int 0, .ref 11]) (fun _ => rfl) (ok_X2_size hQ c1 3 rfl) (fun x2 c3 => ?_)
  refine l1_many mt_X11_unpack (pc' := 22) (L' := [some (.ref 0)]) (st' := [.int 512, .int x2, .int 0, .ref 11]) 1 rfl ?_
  refine l1_callV hQ mt_X11_unpack mt_X10_open rfl rfl (o := 11) (ci := 9) (As := [.int 0, .int x2, .int 512]) (rest := []) rfl rfl rfl rfl rfl rfl (st1 := fun x4 => [.int x4]) (fun _ => rfl) (ok_X10_open hQ N c3 0 x2 512) (fun x4 c5 => ?_)
  refine l1_many mt_X11_unpack (pc' := bif am_cc .ne x4 0 then 30 else 28) (L' := [some (.ref 0)]) (st' := []) 1 rfl ?_
  refine l1_bin rfl ?_ ?_
  · refine l1_many mt_X11_unpack (pc' := 29) (L' := [some (.ref 0)]) (st' := [.int (-1)]) 1 rfl ?_
    exact l1_ret mt_X11_unpack rfl rfl rfl
  · refine l1_many mt_X11_unpack (pc' := 31) (L' := [some (.ref 0)]) (st' := [.ref 0]) 1 rfl ?_
    refine l1_getR hQ mt_X11_unpack rfl (o := 0) (ci := 10) (k := 0) (a := 0) (b := 1) rfl rfl rfl rfl rfl (q := 1) rfl ?_
    refine l1_many mt_X11_unpack (pc' := 35) (L' := [some (.ref 0)]) (st' := [.int 0, .ref 1]) 1 rfl ?_
    refine l1_callV hQ mt_X11_unpack mt_X2_cutTo rfl rfl (o := 1) (ci := 1) (As := [.int 0]) (rest := []) rfl rfl rfl rfl rfl rfl (st1 := fun _ => []) (fun _ => rfl) (ok_X2_cutTo hQ c5 1 0 rfl) (fun _ c6 => ?_)
    refine l1_many mt_X11_unpack (pc' := 39) (L' := [some (.ref 0)]) (st' := [.ref 0]) 1 rfl ?_
    refine l1_getR hQ mt_X11_unpack rfl (o := 0) (ci := 10) (k := 0) (a := 0) (b := 1) rfl rfl rfl rfl rfl (q := 1) rfl ?_
    refine l1_many mt_X11_unpack (pc' := 43) (L' := [some (.ref 0)]) (st' := [.ref 0, .ref 1]) 1 rfl ?_
    refine l1_getR hQ mt_X11_unpack rfl (o := 0) (ci := 10) (k := 3) (a := 0) (b := 1) rfl rfl rfl rfl rfl (q := 7) rfl ?_
    refine l1_many mt_X11_unpack (pc' := 48) (L' := [some (.ref 0)]) (st' := [.ref 0, .int 0, .ref 7, .ref 1]) 2 rfl ?_
    refine l1_getR hQ mt_X11_unpack rfl (o := 0) (ci := 10) (k := 3) (a := 0) (b := 1) rfl rfl rfl rfl rfl (q := 7) rfl ?_
    refine l1_callV hQ mt_X11_unpack mt_X2_size rfl rfl (o := 7) (ci := 1) (As := []) (rest := [.int 0, .ref 7, .ref 1]) rfl rfl rfl rfl rfl rfl (st1 := fun x7 => [.int x7, .int 0, .ref 7, .ref 1]) (fun _ => rfl) (ok_X2_size hQ c6 7 rfl) (fun x7 c8 => ?_)
    refine l1_callV hQ mt_X11_unpack mt_X2_addRow rfl rfl (o := 1) (ci := 1) (As := [.ref 7, .int 0, .int x7]) (rest := []) rfl rfl rfl rfl rfl rfl (st1 := fun _ => []) (fun _ => rfl) (ok_X2_addRow hQ N c8 1 7 0 x7 rfl rfl) (fun _ c9 => ?_)
    refine l1_many mt_X11_unpack (pc' := 58) (L' := [some (.ref 0)]) (st' := [.ref 0]) 1 rfl ?_
    refine l1_getR hQ mt_X11_unpack rfl (o := 0) (ci := 10) (k := 0) (a := 0) (b := 1) rfl rfl rfl rfl rfl (q := 1) rfl ?_
    refine l1_callV hQ mt_X11_unpack mt_X2_size rfl rfl (o := 1) (ci := 1) (As := []) (rest := []) rfl rfl rfl rfl rfl rfl (st1 := fun x10 => [.int x10]) (fun _ => rfl) (ok_X2_size hQ c9 1 rfl) (fun x10 c11 => ?_)
    exact l1_ret mt_X11_unpack rfl rfl rfl
theorem ok_X11_unpack {Q : hS → am_H → Prop} (hQ : l1_em kc Q) (N : Nat) (c : hS) : l1_T wI Q am_i_X11_unpack [.ref 0] c (f_X11_unpack N c) := l1_of (en_X11_unpack hQ N c) ⟨rfl, trivial⟩
set_option maxRecDepth 100000 in
theorem en_X11_check {Q : hS → am_H → Prop} (hQ : l1_em kc Q) (N : Nat) (c : hS) : l1_G (wN wI) Q am_i_X11_check 0 [some (.ref 0)] [] c (f_X11_check N c) := by
  rw [f_X11_check]
  refine l1_many mt_X11_check (pc' := 1) (L' := [some (.ref 0)]) (st' := [.ref 0]) 1 rfl ?_
  refine l1_getR hQ mt_X11_check rfl (o := 0) (ci := 10) (k := 0) (a := 0) (b := 1) rfl rfl rfl rfl rfl (q := 1) rfl ?_
  refine l1_callS mt_X11_check mt_X11_checkOf rfl rfl (As := [.ref 1]) (rest := []) rfl rfl rfl (st1 := fun x1 => [.int x1]) (fun _ => rfl) (ok_X11_checkOf hQ N c 1 rfl) (fun x1 c2 => ?_)
  exact l1_ret mt_X11_check rfl rfl rfl
theorem ok_X11_check {Q : hS → am_H → Prop} (hQ : l1_em kc Q) (N : Nat) (c : hS) : l1_T wI Q am_i_X11_check [.ref 0] c (f_X11_check N c) := l1_of (en_X11_check hQ N c) ⟨rfl, trivial⟩
set_option maxRecDepth 100000 in
theorem en_X11_feed {Q : hS → am_H → Prop} (hQ : l1_em kc Q) (N : Nat) (c : hS) (p1 : Int32) (p2 : Int32) (p3 : Int32) (p4 : Int32) (p5 : Int32) : l1_G (wT wI) Q am_i_X11_feed 0 [some (.ref 0), some (.int p1), some (.int p2), some (.int p3), some (.int p4), some (.int p5)] [] c (f_X11_feed N c p1 p2 p3 p4 p5) := by
  rw [f_X11_feed]
  refine l1_many mt_X11_feed (pc' := 1) (L' := [some (.ref 0), some (.int p1), some (.int p2), some (.int p3), some (.int p4), some (.int p5)]) (st' := [.ref 0]) 1 rfl ?_
  refine l1_getR hQ mt_X11_feed rfl (o := 0) (ci := 10) (k := 1) (a := 0) (b := 1) rfl rfl rfl rfl rfl (q := 3) rfl ?_
  refine l1_callV hQ mt_X11_feed mt_X2_size rfl rfl (o := 3) (ci := 1) (As := []) (rest := []) rfl rfl rfl rfl rfl rfl (st1 := fun x1 => [.int x1]) (fun _ => rfl) (ok_X2_size hQ c 3 rfl) (fun x1 c2 => ?_)
  refine l1_many mt_X11_feed (pc' := bif am_cc .le (x1 + 20) 20000 then 26 else 16) (L' := [some (.ref 0), some (.int p1), some (.int p2), some (.int p3), some (.int p4), some (.int p5)]) (st' := []) 4 rfl ?_
  refine l1_bif rfl ?_ ?_
  · refine l1_many mt_X11_feed (pc' := 27) (L' := [some (.ref 0), some (.int p1), some (.int p2), some (.int p3), some (.int p4), some (.int p5)]) (st' := [.ref 0]) 1 rfl ?_
    refine l1_getR hQ mt_X11_feed rfl (o := 0) (ci := 10) (k := 1) (a := 0) (b := 1) rfl rfl rfl rfl rfl (q := 3) rfl ?_
    refine l1_many mt_X11_feed (pc' := 33) (L' := [some (.ref 0), some (.int p1), some (.int p2), some (.int p3), some (.int p4), some (.int p5)]) (st' := [.int 4, .long p1.toInt64, .ref 3]) 3 rfl ?_
    refine l1_callV hQ mt_X11_feed mt_X2_addBig rfl rfl (o := 3) (ci := 1) (As := [.long p1.toInt64, .int 4]) (rest := []) rfl rfl rfl rfl rfl rfl (st1 := fun _ => []) (fun _ => rfl) (ok_X2_addBig hQ N c2 3 p1.toInt64 4 rfl) (fun _ c3 => ?_)
    refine l1_many mt_X11_feed (pc' := 37) (L' := [some (.ref 0), some (.int p1), some (.int p2), some (.int p3), some (.int p4), some (.int p5)]) (st' := [.ref 0]) 1 rfl ?_
    refine l1_getR hQ mt_X11_feed rfl (o := 0) (ci := 10) (k := 1) (a := 0) (b := 1) rfl rfl rfl rfl rfl (q := 3) rfl ?_
    refine l1_many mt_X11_feed (pc' := 43) (L' := [some (.ref 0), some (.int p1), some (.int p2), some (.int p3), some (.int p4), some (.int p5)]) (st' := [.int 4, .long p2.toInt64, .ref 3]) 3 rfl ?_
    refine l1_callV hQ mt_X11_feed mt_X2_addBig rfl rfl (o := 3) (ci := 1) (As := [.long p2.toInt64, .int 4]) (rest := []) rfl rfl rfl rfl rfl rfl (st1 := fun _ => []) (fun _ => rfl) (ok_X2_addBig hQ N c3 3 p2.toInt64 4 rfl) (fun _ c4 => ?_)
    refine l1_many mt_X11_feed (pc' := 47) (L' := [some (.ref 0), some (.int p1), some (.int p2), some (.int p3), some (.int p4), some (.int p5)]) (st' := [.ref 0]) 1 rfl ?_
    refine l1_getR hQ mt_X11_feed rfl (o := 0) (ci := 10) (k := 1) (a := 0) (b := 1) rfl rfl rfl rfl rfl (q := 3) rfl ?_
    refine l1_many mt_X11_feed (pc' := 53) (L' := [some (.ref 0), some (.int p1), some (.int p2), some (.int p3), some (.int p4), some (.int p5)]) (st' := [.int 4, .long p3.toInt64, .ref 3]) 3 rfl ?_
    refine l1_callV hQ mt_X11_feed mt_X2_addBig rfl rfl (o := 3) (ci := 1) (As := [.long p3.toInt64, .int 4]) (rest := []) rfl rfl rfl rfl rfl rfl (st1 := fun _ => []) (fun _ => rfl) (ok_X2_addBig hQ N c4 3 p3.toInt64 4 rfl) (fun _ c5 => ?_)
    refine l1_many mt_X11_feed (pc' := 57) (L' := [some (.ref 0), some (.int p1), some (.int p2), some (.int p3), some (.int p4), some (.int p5)]) (st' := [.ref 0]) 1 rfl ?_
    refine l1_getR hQ mt_X11_feed rfl (o := 0) (ci := 10) (k := 1) (a := 0) (b := 1) rfl rfl rfl rfl rfl (q := 3) rfl ?_
    refine l1_many mt_X11_feed (pc' := 64) (L' := [some (.ref 0), some (.int p1), some (.int p2), some (.int p3), some (.int p4), some (.int p5)]) (st' := [.int 4, .long p4.toInt64, .ref 3]) 3 rfl ?_
    refine l1_callV hQ mt_X11_feed mt_X2_addBig rfl rfl (o := 3) (ci := 1) (As := [.long p4.toInt64, .int 4]) (rest := []) rfl rfl rfl rfl rfl rfl (st1 := fun _ => []) (fun _ => rfl) (ok_X2_addBig hQ N c5 3 p4.toInt64 4 rfl) (fun _ c6 => ?_)
    refine l1_many mt_X11_feed (pc' := 68) (L' := [some (.ref 0), some (.int p1), some (.int p2), some (.int p3), some (.int p4), some (.int p5)]) (st' := [.ref 0]) 1 rfl ?_
    refine l1_getR hQ mt_X11_feed rfl (o := 0) (ci := 10) (k := 1) (a := 0) (b := 1) rfl rfl rfl rfl rfl (q := 3) rfl ?_
    refine l1_many mt_X11_feed (pc' := 75) (L' := [some (.ref 0), some (.int p1), some (.int p2), some (.int p3), some (.int p4), some (.int p5)]) (st' := [.int 4, .long p5.toInt64, .ref 3]) 3 rfl ?_
    refine l1_callV hQ mt_X11_feed mt_X2_addBig rfl rfl (o := 3) (ci := 1) (As := [.long p5.toInt64, .int 4]) (rest := []) rfl rfl rfl rfl rfl rfl (st1 := fun _ => []) (fun _ => rfl) (ok_X2_addBig hQ N c6 3 p5.toInt64 4 rfl) (fun _ c7 => ?_)
    refine l1_many mt_X11_feed (pc' := 79) (L' := [some (.ref 0), some (.int p1), some (.int p2), some (.int p3), some (.int p4), some (.int p5)]) (st' := [.ref 0]) 1 rfl ?_
    refine l1_getR hQ mt_X11_feed rfl (o := 0) (ci := 10) (k := 1) (a := 0) (b := 1) rfl rfl rfl rfl rfl (q := 3) rfl ?_
    refine l1_callV hQ mt_X11_feed mt_X2_size rfl rfl (o := 3) (ci := 1) (As := []) (rest := []) rfl rfl rfl rfl rfl rfl (st1 := fun x8 => [.int x8]) (fun _ => rfl) (ok_X2_size hQ c7 3 rfl) (fun x8 c9 => ?_)
    exact l1_ret mt_X11_feed rfl rfl rfl
  · exact l1_thr
set_option maxRecDepth 100000 in
theorem en_X11_end {Q : hS → am_H → Prop} (hQ : l1_em kc Q) (c : hS) (p1 : Int32) : l1_G (wT wV) Q am_i_X11_end 0 [some (.ref 0), some (.int p1)] [] c (f_X11_end c p1) := by
  rw [f_X11_end]
  refine l1_many mt_X11_end (pc' := bif am_cc .lt p1 0 then 15 else 4) (L' := [some (.ref 0), some (.int p1)]) (st' := []) 2 rfl ?_
  refine l1_bif rfl ?_ ?_
  · exact l1_thr
  · refine l1_many mt_X11_end (pc' := 6) (L' := [some (.ref 0), some (.int p1)]) (st' := [.ref 0, .int p1]) 2 rfl ?_
    refine l1_getR hQ mt_X11_end rfl (o := 0) (ci := 10) (k := 1) (a := 0) (b := 1) rfl rfl rfl rfl rfl (q := 3) rfl ?_
    refine l1_callV hQ mt_X11_end mt_X2_size rfl rfl (o := 3) (ci := 1) (As := []) (rest := [.int p1]) rfl rfl rfl rfl rfl rfl (st1 := fun x1 => [.int x1, .int p1]) (fun _ => rfl) (ok_X2_size hQ c 3 rfl) (fun x1 c2 => ?_)
    refine l1_many mt_X11_end (pc' := bif am_cc .le p1 x1 then 25 else 15) (L' := [some (.ref 0), some (.int p1)]) (st' := []) 1 rfl ?_
    refine l1_bif rfl ?_ ?_
    · refine l1_many mt_X11_end (pc' := 26) (L' := [some (.ref 0), some (.int p1)]) (st' := [.ref 0]) 1 rfl ?_
      refine l1_getR hQ mt_X11_end rfl (o := 0) (ci := 10) (k := 1) (a := 0) (b := 1) rfl rfl rfl rfl rfl (q := 3) rfl ?_
      refine l1_many mt_X11_end (pc' := 30) (L' := [some (.ref 0), some (.int p1)]) (st' := [.int p1, .ref 3]) 1 rfl ?_
      refine l1_callV hQ mt_X11_end mt_X2_cutTo rfl rfl (o := 3) (ci := 1) (As := [.int p1]) (rest := []) rfl rfl rfl rfl rfl rfl (st1 := fun _ => []) (fun _ => rfl) (ok_X2_cutTo hQ c2 3 p1 rfl) (fun _ c3 => ?_)
      exact l1_ret mt_X11_end rfl rfl rfl
    · exact l1_thr
set_option maxRecDepth 100000 in
theorem en_X11_poke {Q : hS → am_H → Prop} (hQ : l1_em kc Q) (c : hS) (p1 : Int32) (p2 : Int32) : l1_G (wT wI) Q am_i_X11_poke 0 [some (.ref 0), some (.int p1), some (.int p2)] [] c (f_X11_poke c p1 p2) := by
  rw [f_X11_poke]
  refine l1_many mt_X11_poke (pc' := 1) (L' := [some (.ref 0), some (.int p1), some (.int p2)]) (st' := [.ref 0]) 1 rfl ?_
  refine l1_getR hQ mt_X11_poke rfl (o := 0) (ci := 10) (k := 1) (a := 0) (b := 1) rfl rfl rfl rfl rfl (q := 3) rfl ?_
  refine l1_many mt_X11_poke (pc' := 5) (L' := [some (.ref 0), some (.int p1), some (.int p2)]) (st' := [.int p1, .ref 3]) 1 rfl ?_
  refine l1_callV hQ mt_X11_poke mt_X2_has rfl rfl (o := 3) (ci := 1) (As := [.int p1]) (rest := []) rfl rfl rfl rfl rfl rfl (st1 := fun x1 => [.int x1]) (fun _ => rfl) (ok_X2_has hQ c 3 p1 rfl) (fun x1 c2 => ?_)
  refine l1_many mt_X11_poke (pc' := bif am_cc .ne x1 0 then 21 else 11) (L' := [some (.ref 0), some (.int p1), some (.int p2)]) (st' := []) 1 rfl ?_
  refine l1_bin rfl ?_ ?_
  · exact l1_thr
  · refine l1_many mt_X11_poke (pc' := bif am_cc .lt p2 0 then 32 else 25) (L' := [some (.ref 0), some (.int p1), some (.int p2)]) (st' := []) 2 rfl ?_
    refine l1_bif rfl ?_ ?_
    · exact l1_thr
    · refine l1_many mt_X11_poke (pc' := bif am_cc .le p2 255 then 42 else 32) (L' := [some (.ref 0), some (.int p1), some (.int p2)]) (st' := []) 3 rfl ?_
      refine l1_bif rfl ?_ ?_
      · refine l1_many mt_X11_poke (pc' := 43) (L' := [some (.ref 0), some (.int p1), some (.int p2)]) (st' := [.ref 0]) 1 rfl ?_
        refine l1_getR hQ mt_X11_poke rfl (o := 0) (ci := 10) (k := 1) (a := 0) (b := 1) rfl rfl rfl rfl rfl (q := 3) rfl ?_
        refine l1_many mt_X11_poke (pc' := 47) (L' := [some (.ref 0), some (.int p1), some (.int p2)]) (st' := [.int p1, .ref 3]) 1 rfl ?_
        refine l1_callV hQ mt_X11_poke mt_X2_get rfl rfl (o := 3) (ci := 1) (As := [.int p1]) (rest := []) rfl rfl rfl rfl rfl rfl (st1 := fun x3 => [.int x3]) (fun _ => rfl) (ok_X2_get hQ c2 3 p1 rfl) (fun x3 c4 => ?_)
        refine l1_many mt_X11_poke (pc' := 52) (L' := [some (.ref 0), some (.int p1), some (.int p2), some (.int x3)]) (st' := [.ref 0]) 2 rfl ?_
        refine l1_getR hQ mt_X11_poke rfl (o := 0) (ci := 10) (k := 1) (a := 0) (b := 1) rfl rfl rfl rfl rfl (q := 3) rfl ?_
        refine l1_many mt_X11_poke (pc' := 57) (L' := [some (.ref 0), some (.int p1), some (.int p2), some (.int x3)]) (st' := [.int p2, .int p1, .ref 3]) 2 rfl ?_
        refine l1_callV hQ mt_X11_poke mt_X2_set rfl rfl (o := 3) (ci := 1) (As := [.int p1, .int p2]) (rest := []) rfl rfl rfl rfl rfl rfl (st1 := fun _ => []) (fun _ => rfl) (ok_X2_set hQ c4 3 p1 p2 rfl) (fun _ c5 => ?_)
        refine l1_many mt_X11_poke (pc' := 61) (L' := [some (.ref 0), some (.int p1), some (.int p2), some (.int x3)]) (st' := [.int x3]) 1 rfl ?_
        exact l1_ret mt_X11_poke rfl rfl rfl
      · exact l1_thr
set_option maxRecDepth 100000 in
theorem ok_X11_at_53 {Q : hS → am_H → Prop} (hQ : l1_em kc Q) (N : Nat) (p1 : Int32) (p2 : Int32) : ∀ n : Nat, ∀ (c : hS) (v3 : Int64) (v5 : Int32), l1_G (wT wL) Q am_i_X11_at 53 [some (.ref 0), some (.int p1), some (.int p2), some (.long v3), none, some (.int v5)] [] c (f_X11_at_53 N p1 p2 n c v3 v5) := by
  intro n
  induction n with
  | zero => intro c v3 v5; exact l1_none
  | succ n ih =>
    intro c v3 v5
    rw [f_X11_at_53]
    refine l1_many mt_X11_at (pc' := bif am_cc .ge v5 p2 then 83 else 59) (L' := [some (.ref 0), some (.int p1), some (.int p2), some (.long v3), none, some (.int v5)]) (st' := []) 3 rfl ?_
    refine l1_bif rfl ?_ ?_
    · refine l1_many mt_X11_at (pc' := 84) (L' := [some (.ref 0), some (.int p1), some (.int p2), some (.long v3), none, some (.int v5)]) (st' := [.long v3]) 1 rfl ?_
      exact l1_ret mt_X11_at rfl rfl rfl
    · refine l1_many mt_X11_at (pc' := 64) (L' := [some (.ref 0), some (.int p1), some (.int p2), some (.long v3), none, some (.int v5)]) (st' := [.ref 0, .long (j_lshl v3 8)]) 4 rfl ?_
      refine l1_getR hQ mt_X11_at rfl (o := 0) (ci := 10) (k := 1) (a := 0) (b := 1) rfl rfl rfl rfl rfl (q := 3) rfl ?_
      refine l1_many mt_X11_at (pc' := 71) (L' := [some (.ref 0), some (.int p1), some (.int p2), some (.long v3), none, some (.int v5)]) (st' := [.int (p1 + v5), .ref 3, .long (j_lshl v3 8)]) 3 rfl ?_
      refine l1_callV hQ mt_X11_at mt_X2_get rfl rfl (o := 3) (ci := 1) (As := [.int (p1 + v5)]) (rest := [.long (j_lshl v3 8)]) rfl rfl rfl rfl rfl rfl (st1 := fun x1 => [.int x1, .long (j_lshl v3 8)]) (fun _ => rfl) (ok_X2_get hQ c 3 (p1 + v5) rfl) (fun x1 c2 => ?_)
      refine l1_many mt_X11_at (pc' := 53) (L' := [some (.ref 0), some (.int p1), some (.int p2), some (.long ((j_lshl v3 8) ||| x1.toInt64)), none, some (.int (v5 + 1))]) (st' := []) 5 rfl ?_
      exact ih c2 ((j_lshl v3 8) ||| x1.toInt64) (v5 + 1)
set_option maxRecDepth 100000 in
theorem en_X11_at {Q : hS → am_H → Prop} (hQ : l1_em kc Q) (N : Nat) (c : hS) (p1 : Int32) (p2 : Int32) : l1_G (wT wL) Q am_i_X11_at 0 [some (.ref 0), some (.int p1), some (.int p2)] [] c (f_X11_at N c p1 p2) := by
  rw [f_X11_at]
  refine l1_many mt_X11_at (pc' := bif am_cc .lt p2 1 then 11 else 5) (L' := [some (.ref 0), some (.int p1), some (.int p2)]) (st' := []) 3 rfl ?_
  refine l1_bif rfl ?_ ?_
  · exact l1_thr
  · refine l1_many mt_X11_at (pc' := bif am_cc .le p2 8 then 21 else 11) (L' := [some (.ref 0), some (.int p1), some (.int p2)]) (st' := []) 3 rfl ?_
    refine l1_bif rfl ?_ ?_
    · refine l1_many mt_X11_at (pc' := bif am_cc .lt p1 0 then 38 else 25) (L' := [some (.ref 0), some (.int p1), some (.int p2)]) (st' := []) 2 rfl ?_
      refine l1_bif rfl ?_ ?_
      · exact l1_thr
      · refine l1_many mt_X11_at (pc' := 27) (L' := [some (.ref 0), some (.int p1), some (.int p2)]) (st' := [.ref 0, .int p1]) 2 rfl ?_
        refine l1_getR hQ mt_X11_at rfl (o := 0) (ci := 10) (k := 1) (a := 0) (b := 1) rfl rfl rfl rfl rfl (q := 3) rfl ?_
        refine l1_callV hQ mt_X11_at mt_X2_size rfl rfl (o := 3) (ci := 1) (As := []) (rest := [.int p1]) rfl rfl rfl rfl rfl rfl (st1 := fun x1 => [.int x1, .int p1]) (fun _ => rfl) (ok_X2_size hQ c 3 rfl) (fun x1 c2 => ?_)
        refine l1_many mt_X11_at (pc' := bif am_cc .le p1 (x1 - p2) then 48 else 38) (L' := [some (.ref 0), some (.int p1), some (.int p2)]) (st' := []) 3 rfl ?_
        refine l1_bif rfl ?_ ?_
        · refine l1_many mt_X11_at (pc' := 53) (L' := [some (.ref 0), some (.int p1), some (.int p2), some (.long 0), none, some (.int 0)]) (st' := []) 4 rfl ?_
          exact ok_X11_at_53 hQ N p1 p2 N c2 0 0
        · exact l1_thr
    · exact l1_thr
set_option maxRecDepth 100000 in
theorem en_X11_count {Q : hS → am_H → Prop} (hQ : l1_em kc Q) (c : hS) (p1 : Int32) : l1_G (wT wI) Q am_i_X11_count 0 [some (.ref 0), some (.int p1)] [] c (f_X11_count c p1) := by
  rw [f_X11_count]
  refine l1_many mt_X11_count (pc' := 1) (L' := [some (.ref 0), some (.int p1)]) (st' := [.int p1]) 1 rfl ?_
  refine l1_ite (fun hs => ?_) (fun hs0 => ?_)
  · refine l1_sw mt_X11_count rfl (pc' := 28) (st' := []) rfl (by rw [hs]; rfl) ?_
    refine l1_many mt_X11_count (pc' := 29) (L' := [some (.ref 0), some (.int p1)]) (st' := [.ref 0]) 1 rfl ?_
    refine l1_getM hQ mt_X11_count rfl (o := 0) (ci := 10) (k := 8) (a := 0) (b := 0) rfl rfl rfl rfl rfl (fun hx1 => ?_)
    refine l1_callV hQ mt_X11_count mt_X9_size rfl rfl (o := (c.2.2 0 8)) (ci := 8) (As := []) (rest := []) rfl rfl hx1 rfl rfl rfl (st1 := fun x2 => [.int x2]) (fun _ => rfl) (ok_X9_size hQ c (c.2.2 0 8) hx1) (fun x2 c3 => ?_)
    exact l1_ret mt_X11_count rfl rfl rfl
  refine l1_ite (fun hs => ?_) (fun hs1 => ?_)
  · refine l1_sw mt_X11_count rfl (pc' := 36) (st' := []) rfl (by rw [hs]; rfl) ?_
    refine l1_many mt_X11_count (pc' := 37) (L' := [some (.ref 0), some (.int p1)]) (st' := [.ref 0]) 1 rfl ?_
    refine l1_getR hQ mt_X11_count rfl (o := 0) (ci := 10) (k := 0) (a := 0) (b := 1) rfl rfl rfl rfl rfl (q := 1) rfl ?_
    refine l1_callV hQ mt_X11_count mt_X2_size rfl rfl (o := 1) (ci := 1) (As := []) (rest := []) rfl rfl rfl rfl rfl rfl (st1 := fun x4 => [.int x4]) (fun _ => rfl) (ok_X2_size hQ c 1 rfl) (fun x4 c5 => ?_)
    exact l1_ret mt_X11_count rfl rfl rfl
  refine l1_ite (fun hs => ?_) (fun hs2 => ?_)
  · refine l1_sw mt_X11_count rfl (pc' := 44) (st' := []) rfl (by rw [hs]; rfl) ?_
    refine l1_many mt_X11_count (pc' := 45) (L' := [some (.ref 0), some (.int p1)]) (st' := [.ref 0]) 1 rfl ?_
    refine l1_getR hQ mt_X11_count rfl (o := 0) (ci := 10) (k := 1) (a := 0) (b := 1) rfl rfl rfl rfl rfl (q := 3) rfl ?_
    refine l1_callV hQ mt_X11_count mt_X2_size rfl rfl (o := 3) (ci := 1) (As := []) (rest := []) rfl rfl rfl rfl rfl rfl (st1 := fun x6 => [.int x6]) (fun _ => rfl) (ok_X2_size hQ c 3 rfl) (fun x6 c7 => ?_)
    exact l1_ret mt_X11_count rfl rfl rfl
  refine l1_sw mt_X11_count rfl (pc' := 52) (st' := []) rfl (by have a0 : Int32.toInt p1 ≠ 0 := fun e => hs0 (Int32.toInt_inj.mp (e.trans (by decide +kernel))); have a1 : Int32.toInt p1 ≠ 1 := fun e => hs1 (Int32.toInt_inj.mp (e.trans (by decide +kernel))); have a2 : Int32.toInt p1 ≠ 2 := fun e => hs2 (Int32.toInt_inj.mp (e.trans (by decide +kernel))); have : Int32.toInt p1 < 0 ∨ 2 < Int32.toInt p1 := (by omega); simp only [am_s0]; rw [if_pos this]; rfl) ?_
  · exact l1_thr
set_option maxRecDepth 100000 in
theorem en_X12_thrown {Q : hS → am_H → Prop} (hQ : l1_em km Q) (c : hS) : l1_G (wN wI) Q am_i_X12_thrown 0 [some (.ref 201)] [] c (f_X12_thrown c) := by
  rw [f_X12_thrown]
  refine l1_many mt_X12_thrown (pc' := 1) (L' := [some (.ref 201)]) (st' := [.ref 201]) 1 rfl ?_
  refine l1_getI hQ mt_X12_thrown rfl (o := 201) (ci := 11) (k := 0) (a := 0) (b := 0) rfl rfl rfl rfl rfl ?_
  exact l1_ret mt_X12_thrown rfl rfl rfl
theorem ok_X12_thrown {Q : hS → am_H → Prop} (hQ : l1_em km Q) (c : hS) : l1_T wI Q am_i_X12_thrown [.ref 201] c (f_X12_thrown c) := l1_of (en_X12_thrown hQ c) ⟨rfl, trivial⟩
set_option maxRecDepth 100000 in
theorem en_X12_in {Q : hS → am_H → Prop} (hQ : l1_em km Q) (c : hS) (p0 : Int64) (p2 : Int64) (p4 : Int64) : l1_G (wN wI) Q am_i_X12_in 0 [some (.long p0), none, some (.long p2), none, some (.long p4)] [] c (f_X12_in c p0 p2 p4) := by
  rw [f_X12_in]
  refine l1_many mt_X12_in (pc' := bif am_cc .lt (j_cmp p0 p2) 0 then 17 else 6) (L' := [some (.long p0), none, some (.long p2), none, some (.long p4)]) (st' := []) 4 rfl ?_
  refine l1_bif rfl ?_ ?_
  · refine l1_many mt_X12_in (pc' := 18) (L' := [some (.long p0), none, some (.long p2), none, some (.long p4)]) (st' := [.int 0]) 1 rfl ?_
    exact l1_ret mt_X12_in rfl rfl rfl
  · refine l1_many mt_X12_in (pc' := bif am_cc .gt (j_cmp p0 p4) 0 then 17 else 13) (L' := [some (.long p0), none, some (.long p2), none, some (.long p4)]) (st' := []) 4 rfl ?_
    refine l1_bif rfl ?_ ?_
    · refine l1_many mt_X12_in (pc' := 18) (L' := [some (.long p0), none, some (.long p2), none, some (.long p4)]) (st' := [.int 0]) 1 rfl ?_
      exact l1_ret mt_X12_in rfl rfl rfl
    · refine l1_many mt_X12_in (pc' := 18) (L' := [some (.long p0), none, some (.long p2), none, some (.long p4)]) (st' := [.int 1]) 2 rfl ?_
      exact l1_ret mt_X12_in rfl rfl rfl
theorem ok_X12_in {Q : hS → am_H → Prop} (hQ : l1_em km Q) (c : hS) (p0 : Int64) (p2 : Int64) (p4 : Int64) : l1_T wI Q am_i_X12_in [.long p0, .long p2, .long p4] c (f_X12_in c p0 p2 p4) := l1_of (en_X12_in hQ c p0 p2 p4) ⟨rfl, rfl, rfl, trivial⟩
end
section
/-! THAT THE MACHINE FOLLOWS THEM, printed by gen_l1.py -/
set_option maxRecDepth 100000 in
theorem en_X12_refuses {Q : hS → am_H → Prop} (hQ : l1_em km Q) (c : hS) (p1 : Int32) (p2 : Int32) : l1_G (wN wI) Q am_i_X12_refuses 0 [some (.ref 201), some (.int p1), some (.int p2)] [] c (f_X12_refuses c p1 p2) := by
  rw [f_X12_refuses]
  refine l1_many mt_X12_refuses (pc' := 1) (L' := [some (.ref 201), some (.int p1), some (.int p2)]) (st' := [.ref 201]) 1 rfl ?_
  refine l1_getI hQ mt_X12_refuses rfl (o := 201) (ci := 11) (k := 0) (a := 0) (b := 0) rfl rfl rfl rfl rfl ?_
  refine l1_many mt_X12_refuses (pc' := bif am_cc .ne (c.1 201 0) 0 then 16 else 7) (L' := [some (.ref 201), some (.int p1), some (.int p2)]) (st' := []) 1 rfl ?_
  refine l1_bin rfl ?_ ?_
  · refine l1_many mt_X12_refuses (pc' := bif am_cc .eq p1 0 then 16 else 11) (L' := [some (.ref 201), some (.int p1), some (.int p2)]) (st' := []) 2 rfl ?_
    refine l1_bif rfl ?_ ?_
    · refine l1_many mt_X12_refuses (pc' := 17) (L' := [some (.ref 201), some (.int p1), some (.int p2)]) (st' := [.ref 201]) 1 rfl ?_
      refine l1_getI hQ mt_X12_refuses rfl (o := 201) (ci := 11) (k := 0) (a := 0) (b := 0) rfl rfl rfl rfl rfl ?_
      refine l1_many mt_X12_refuses (pc' := bif am_cc .le (c.1 201 0) 0 then 27 else 23) (L' := [some (.ref 201), some (.int p1), some (.int p2)]) (st' := []) 1 rfl ?_
      refine l1_bif rfl ?_ ?_
      · refine l1_many mt_X12_refuses (pc' := 28) (L' := [some (.ref 201), some (.int p1), some (.int p2)]) (st' := [.int 0]) 1 rfl ?_
        exact l1_ret mt_X12_refuses rfl rfl rfl
      · refine l1_many mt_X12_refuses (pc' := 28) (L' := [some (.ref 201), some (.int p1), some (.int p2)]) (st' := [.int 1]) 2 rfl ?_
        exact l1_ret mt_X12_refuses rfl rfl rfl
    · refine l1_many mt_X12_refuses (pc' := 13) (L' := [some (.ref 201), some (.int p1), some (.int p2)]) (st' := [.int p2, .ref 201]) 2 rfl ?_
      refine l1_putI hQ mt_X12_refuses rfl (o := 201) (ci := 11) (k := 0) (a := 0) rfl rfl rfl rfl rfl rfl (fun c1 => ?_)
      refine l1_many mt_X12_refuses (pc' := 17) (L' := [some (.ref 201), some (.int p1), some (.int p2)]) (st' := [.ref 201]) 1 rfl ?_
      refine l1_getI hQ mt_X12_refuses rfl (o := 201) (ci := 11) (k := 0) (a := 0) (b := 0) rfl rfl rfl rfl rfl ?_
      refine l1_many mt_X12_refuses (pc' := bif am_cc .le (c1.1 201 0) 0 then 27 else 23) (L' := [some (.ref 201), some (.int p1), some (.int p2)]) (st' := []) 1 rfl ?_
      refine l1_bif rfl ?_ ?_
      · refine l1_many mt_X12_refuses (pc' := 28) (L' := [some (.ref 201), some (.int p1), some (.int p2)]) (st' := [.int 0]) 1 rfl ?_
        exact l1_ret mt_X12_refuses rfl rfl rfl
      · refine l1_many mt_X12_refuses (pc' := 28) (L' := [some (.ref 201), some (.int p1), some (.int p2)]) (st' := [.int 1]) 2 rfl ?_
        exact l1_ret mt_X12_refuses rfl rfl rfl
  · refine l1_many mt_X12_refuses (pc' := 17) (L' := [some (.ref 201), some (.int p1), some (.int p2)]) (st' := [.ref 201]) 1 rfl ?_
    refine l1_getI hQ mt_X12_refuses rfl (o := 201) (ci := 11) (k := 0) (a := 0) (b := 0) rfl rfl rfl rfl rfl ?_
    refine l1_many mt_X12_refuses (pc' := bif am_cc .le (c.1 201 0) 0 then 27 else 23) (L' := [some (.ref 201), some (.int p1), some (.int p2)]) (st' := []) 1 rfl ?_
    refine l1_bif rfl ?_ ?_
    · refine l1_many mt_X12_refuses (pc' := 28) (L' := [some (.ref 201), some (.int p1), some (.int p2)]) (st' := [.int 0]) 1 rfl ?_
      exact l1_ret mt_X12_refuses rfl rfl rfl
    · refine l1_many mt_X12_refuses (pc' := 28) (L' := [some (.ref 201), some (.int p1), some (.int p2)]) (st' := [.int 1]) 2 rfl ?_
      exact l1_ret mt_X12_refuses rfl rfl rfl
theorem ok_X12_refuses {Q : hS → am_H → Prop} (hQ : l1_em km Q) (c : hS) (p1 : Int32) (p2 : Int32) : l1_T wI Q am_i_X12_refuses [.ref 201, .int p1, .int p2] c (f_X12_refuses c p1 p2) := l1_of (en_X12_refuses hQ c p1 p2) ⟨rfl, rfl, rfl, trivial⟩
set_option maxRecDepth 100000 in
theorem en_X12_fails {Q : hS → am_H → Prop} (hQ : l1_em km Q) (c : hS) (p1 : Int32) (p2 : Int32) : l1_G (wN wI) Q am_i_X12_fails 0 [some (.ref 201), some (.int p1), some (.int p2)] [] c (f_X12_fails c p1 p2) := by
  rw [f_X12_fails]
  refine l1_many mt_X12_fails (pc' := 1) (L' := [some (.ref 201), some (.int p1), some (.int p2)]) (st' := [.ref 201]) 1 rfl ?_
  refine l1_getI hQ mt_X12_fails rfl (o := 201) (ci := 11) (k := 5) (a := 0) (b := 0) rfl rfl rfl rfl rfl ?_
  refine l1_many mt_X12_fails (pc' := bif am_cc .ne (c.1 201 5) 0 then 17 else 7) (L' := [some (.ref 201), some (.int p1), some (.int p2)]) (st' := []) 1 rfl ?_
  refine l1_bin rfl ?_ ?_
  · refine l1_many mt_X12_fails (pc' := 9) (L' := [some (.ref 201), some (.int p1), some (.int p2)]) (st' := [.int p1, .ref 201]) 2 rfl ?_
    refine l1_putI hQ mt_X12_fails rfl (o := 201) (ci := 11) (k := 5) (a := 0) rfl rfl rfl rfl rfl rfl (fun c1 => ?_)
    refine l1_many mt_X12_fails (pc' := 14) (L' := [some (.ref 201), some (.int p1), some (.int p2)]) (st' := [.int p2, .ref 201]) 2 rfl ?_
    refine l1_putI hQ mt_X12_fails rfl (o := 201) (ci := 11) (k := 6) (a := 0) rfl rfl rfl rfl rfl rfl (fun c2 => ?_)
    refine l1_many mt_X12_fails (pc' := 18) (L' := [some (.ref 201), some (.int p1), some (.int p2)]) (st' := [.int 0]) 1 rfl ?_
    exact l1_ret mt_X12_fails rfl rfl rfl
  · refine l1_many mt_X12_fails (pc' := 18) (L' := [some (.ref 201), some (.int p1), some (.int p2)]) (st' := [.int 0]) 1 rfl ?_
    exact l1_ret mt_X12_fails rfl rfl rfl
theorem ok_X12_fails {Q : hS → am_H → Prop} (hQ : l1_em km Q) (c : hS) (p1 : Int32) (p2 : Int32) : l1_T wI Q am_i_X12_fails [.ref 201, .int p1, .int p2] c (f_X12_fails c p1 p2) := l1_of (en_X12_fails hQ c p1 p2) ⟨rfl, rfl, rfl, trivial⟩
set_option maxRecDepth 100000 in
theorem ok_X12_type_62 {Q : hS → am_H → Prop} (hQ : l1_em km Q) (N : Nat) (p1 : Int64) (p3 : Int32) : ∀ n : Nat, ∀ (c : hS) (v4 : Int32), l1_G (wN wI) Q am_i_X12_type 62 [some (.ref 201), some (.long p1), none, none, some (.int v4)] [] c (f_X12_type_62 N p1 p3 n c v4) := by
  intro n
  induction n with
  | zero => intro c v4; exact l1_none
  | succ n ih =>
    intro c v4
    rw [f_X12_type_62]
    refine l1_many mt_X12_type (pc' := bif am_cc .lt v4 0 then 104 else 67) (L' := [some (.ref 201), some (.long p1), none, none, some (.int v4)]) (st' := []) 2 rfl ?_
    refine l1_bif rfl ?_ ?_
    · refine l1_many mt_X12_type (pc' := 105) (L' := [some (.ref 201), some (.long p1), none, none, some (.int v4)]) (st' := [.ref 201]) 1 rfl ?_
      refine l1_getI hQ mt_X12_type rfl (o := 201) (ci := 11) (k := 2) (a := 0) (b := 0) rfl rfl rfl rfl rfl ?_
      exact l1_ret mt_X12_type rfl rfl rfl
    · refine l1_many mt_X12_type (pc' := 68) (L' := [some (.ref 201), some (.long p1), none, none, some (.int v4)]) (st' := [.ref 201]) 1 rfl ?_
      refine l1_getR hQ mt_X12_type rfl (o := 201) (ci := 11) (k := 1) (a := 0) (b := 0) rfl rfl rfl rfl rfl (q := 202) rfl ?_
      refine l1_many mt_X12_type (pc' := 72) (L' := [some (.ref 201), some (.long p1), none, none, some (.int v4)]) (st' := [.ref 201, .ref 202]) 1 rfl ?_
      refine l1_getI hQ mt_X12_type rfl (o := 201) (ci := 11) (k := 2) (a := 0) (b := 0) rfl rfl rfl rfl rfl ?_
      refine l1_many mt_X12_type (pc' := 87) (L' := [some (.ref 201), some (.long p1), none, none, some (.int v4)]) (st' := [.int (((j_lushr p1 (8 * v4)) &&& 255).toInt32), .int (c.1 201 2), .ref 202]) 8 rfl ?_
      refine l1_ck (fun hx => ?_)
      refine l1_ast hQ mt_X12_type rfl (o := 202) rfl hx (fun c1 => ?_)
      refine l1_many mt_X12_type (pc' := 90) (L' := [some (.ref 201), some (.long p1), none, none, some (.int v4)]) (st' := [.ref 201, .ref 201]) 2 rfl ?_
      refine l1_getI hQ mt_X12_type rfl (o := 201) (ci := 11) (k := 2) (a := 0) (b := 0) rfl rfl rfl rfl rfl ?_
      refine l1_many mt_X12_type (pc' := 95) (L' := [some (.ref 201), some (.long p1), none, none, some (.int v4)]) (st' := [.int ((c1.1 201 2) + 1), .ref 201]) 2 rfl ?_
      refine l1_putI hQ mt_X12_type rfl (o := 201) (ci := 11) (k := 2) (a := 0) rfl rfl rfl rfl rfl rfl (fun c2 => ?_)
      refine l1_many mt_X12_type (pc' := 62) (L' := [some (.ref 201), some (.long p1), none, none, some (.int (v4 + (-1)))]) (st' := []) 2 rfl ?_
      exact ih c2 (v4 + (-1))
set_option maxRecDepth 100000 in
theorem ok_X12_type_48 {Q : hS → am_H → Prop} (hQ : l1_em km Q) (N : Nat) (p1 : Int64) (p3 : Int32) : ∀ (c : hS) (w0 : Int32), l1_G (wN wI) Q am_i_X12_type 48 [some (.ref 201), some (.long p1), none, some (.int p3)] [.int w0, .ref 201] c (f_X12_type_48 N p1 p3 c w0) := by
  intro c w0
  rw [f_X12_type_48]
  refine l1_many mt_X12_type (pc' := 49) (L' := [some (.ref 201), some (.long p1), none, some (.int p3)]) (st' := [.int 2, .int w0, .ref 201]) 1 rfl ?_
  refine l1_callV hQ mt_X12_type mt_X12_refuses rfl rfl (o := 201) (ci := 11) (As := [.int w0, .int 2]) (rest := []) rfl rfl rfl rfl rfl rfl (st1 := fun x1 => [.int x1]) (fun _ => rfl) (ok_X12_refuses hQ c w0 2) (fun x1 c2 => ?_)
  refine l1_many mt_X12_type (pc' := bif am_cc .eq x1 0 then 57 else 55) (L' := [some (.ref 201), some (.long p1), none, some (.int p3)]) (st' := []) 1 rfl ?_
  refine l1_bif rfl ?_ ?_
  · refine l1_many mt_X12_type (pc' := 62) (L' := [some (.ref 201), some (.long p1), none, some (.int p3), some (.int (p3 - 1))]) (st' := []) 4 rfl ?_
    refine l1_weak (m := [true, true, false, false, true]) (L' := [some (.ref 201), some (.long p1), none, none, some (.int (p3 - 1))]) rfl ?_
    exact ok_X12_type_62 hQ N p1 p3 N c2 (p3 - 1)
  · refine l1_many mt_X12_type (pc' := 56) (L' := [some (.ref 201), some (.long p1), none, some (.int p3)]) (st' := [.int 0]) 1 rfl ?_
    exact l1_ret mt_X12_type rfl rfl rfl
set_option maxRecDepth 100000 in
theorem ok_X12_type_23 {Q : hS → am_H → Prop} (hQ : l1_em km Q) (N : Nat) (p1 : Int64) (p3 : Int32) : ∀ (c : hS) (w0 : Int32), l1_G (wN wI) Q am_i_X12_type 23 [some (.ref 201), some (.long p1), none, some (.int p3)] [.int w0, .ref 201] c (f_X12_type_23 N p1 p3 c w0) := by
  intro c w0
  rw [f_X12_type_23]
  refine l1_many mt_X12_type (pc' := 24) (L' := [some (.ref 201), some (.long p1), none, some (.int p3)]) (st' := [.int 1, .int w0, .ref 201]) 1 rfl ?_
  refine l1_callV hQ mt_X12_type mt_X12_refuses rfl rfl (o := 201) (ci := 11) (As := [.int w0, .int 1]) (rest := []) rfl rfl rfl rfl rfl rfl (st1 := fun x1 => [.int x1]) (fun _ => rfl) (ok_X12_refuses hQ c w0 1) (fun x1 c2 => ?_)
  refine l1_many mt_X12_type (pc' := bif am_cc .ne x1 0 then 55 else 30) (L' := [some (.ref 201), some (.long p1), none, some (.int p3)]) (st' := []) 1 rfl ?_
  refine l1_bin rfl ?_ ?_
  · refine l1_many mt_X12_type (pc' := 32) (L' := [some (.ref 201), some (.long p1), none, some (.int p3)]) (st' := [.ref 201, .ref 201]) 2 rfl ?_
    refine l1_getI hQ mt_X12_type rfl (o := 201) (ci := 11) (k := 2) (a := 0) (b := 0) rfl rfl rfl rfl rfl ?_
    refine l1_many mt_X12_type (pc' := bif am_cc .le ((c2.1 201 2) + p3) 512 then 47 else 43) (L' := [some (.ref 201), some (.long p1), none, some (.int p3)]) (st' := [.ref 201]) 4 rfl ?_
    refine l1_bif rfl ?_ ?_
    · refine l1_many mt_X12_type (pc' := 48) (L' := [some (.ref 201), some (.long p1), none, some (.int p3)]) (st' := [.int 0, .ref 201]) 1 rfl ?_
      exact ok_X12_type_48 hQ N p1 p3 c2 0
    · refine l1_many mt_X12_type (pc' := 48) (L' := [some (.ref 201), some (.long p1), none, some (.int p3)]) (st' := [.int 1, .ref 201]) 2 rfl ?_
      exact ok_X12_type_48 hQ N p1 p3 c2 1
  · refine l1_many mt_X12_type (pc' := 56) (L' := [some (.ref 201), some (.long p1), none, some (.int p3)]) (st' := [.int 0]) 1 rfl ?_
    exact l1_ret mt_X12_type rfl rfl rfl
set_option maxRecDepth 100000 in
theorem en_X12_type {Q : hS → am_H → Prop} (hQ : l1_em km Q) (N : Nat) (c : hS) (p1 : Int64) (p3 : Int32) : l1_G (wN wI) Q am_i_X12_type 0 [some (.ref 201), some (.long p1), none, some (.int p3)] [] c (f_X12_type N c p1 p3) := by
  rw [f_X12_type]
  refine l1_many mt_X12_type (pc' := 2) (L' := [some (.ref 201), some (.long p1), none, some (.int p3)]) (st' := [.int 0, .ref 201]) 2 rfl ?_
  refine l1_putI hQ mt_X12_type rfl (o := 201) (ci := 11) (k := 0) (a := 0) rfl rfl rfl rfl rfl rfl (fun c1 => ?_)
  refine l1_many mt_X12_type (pc' := 12) (L' := [some (.ref 201), some (.long p1), none, some (.int p3)]) (st' := [.long 8, .long 1, .long p3.toInt64, .ref 201]) 5 rfl ?_
  refine l1_callS mt_X12_type mt_X12_in rfl rfl (As := [.long p3.toInt64, .long 1, .long 8]) (rest := [.ref 201]) rfl rfl rfl (st1 := fun x2 => [.int x2, .ref 201]) (fun _ => rfl) (ok_X12_in hQ c1 p3.toInt64 1 8) (fun x2 c3 => ?_)
  refine l1_many mt_X12_type (pc' := bif am_cc .ne x2 0 then 22 else 18) (L' := [some (.ref 201), some (.long p1), none, some (.int p3)]) (st' := [.ref 201]) 1 rfl ?_
  refine l1_bin rfl ?_ ?_
  · refine l1_many mt_X12_type (pc' := 23) (L' := [some (.ref 201), some (.long p1), none, some (.int p3)]) (st' := [.int 1, .ref 201]) 2 rfl ?_
    exact ok_X12_type_23 hQ N p1 p3 c3 1
  · refine l1_many mt_X12_type (pc' := 23) (L' := [some (.ref 201), some (.long p1), none, some (.int p3)]) (st' := [.int 0, .ref 201]) 1 rfl ?_
    exact ok_X12_type_23 hQ N p1 p3 c3 0
theorem ok_X12_type {Q : hS → am_H → Prop} (hQ : l1_em km Q) (N : Nat) (c : hS) (p1 : Int64) (p3 : Int32) : l1_T wI Q am_i_X12_type [.ref 201, .long p1, .int p3] c (f_X12_type N c p1 p3) := l1_of (en_X12_type hQ N c p1 p3) ⟨rfl, rfl, rfl, trivial⟩
set_option maxRecDepth 100000 in
theorem ok_X12_keep_25 {Q : hS → am_H → Prop} (hQ : l1_em km Q) (p1 : Int32) : ∀ (c : hS) (w0 : Int32), l1_G (wN wV) Q am_i_X12_keep 25 [some (.ref 201), some (.int p1)] [.int w0, .ref 201] c (f_X12_keep_25 p1 c w0) := by
  intro c w0
  rw [f_X12_keep_25]
  refine l1_many mt_X12_keep (pc' := 26) (L' := [some (.ref 201), some (.int p1)]) (st' := [.int 1, .int w0, .ref 201]) 1 rfl ?_
  refine l1_callV hQ mt_X12_keep mt_X12_refuses rfl rfl (o := 201) (ci := 11) (As := [.int w0, .int 1]) (rest := []) rfl rfl rfl rfl rfl rfl (st1 := fun x1 => [.int x1]) (fun _ => rfl) (ok_X12_refuses hQ c w0 1) (fun x1 c2 => ?_)
  refine l1_many mt_X12_keep (pc' := bif am_cc .ne x1 0 then 37 else 32) (L' := [some (.ref 201), some (.int p1)]) (st' := []) 1 rfl ?_
  refine l1_bin rfl ?_ ?_
  · refine l1_many mt_X12_keep (pc' := 34) (L' := [some (.ref 201), some (.int p1)]) (st' := [.int p1, .ref 201]) 2 rfl ?_
    refine l1_putI hQ mt_X12_keep rfl (o := 201) (ci := 11) (k := 2) (a := 0) rfl rfl rfl rfl rfl rfl (fun c3 => ?_)
    exact l1_ret mt_X12_keep rfl rfl rfl
  · exact l1_ret mt_X12_keep rfl rfl rfl
set_option maxRecDepth 100000 in
theorem en_X12_keep {Q : hS → am_H → Prop} (hQ : l1_em km Q) (c : hS) (p1 : Int32) : l1_G (wN wV) Q am_i_X12_keep 0 [some (.ref 201), some (.int p1)] [] c (f_X12_keep c p1) := by
  rw [f_X12_keep]
  refine l1_many mt_X12_keep (pc' := 2) (L' := [some (.ref 201), some (.int p1)]) (st' := [.int 0, .ref 201]) 2 rfl ?_
  refine l1_putI hQ mt_X12_keep rfl (o := 201) (ci := 11) (k := 0) (a := 0) rfl rfl rfl rfl rfl rfl (fun c1 => ?_)
  refine l1_many mt_X12_keep (pc' := 10) (L' := [some (.ref 201), some (.int p1)]) (st' := [.ref 201, .long 0, .long p1.toInt64, .ref 201]) 5 rfl ?_
  refine l1_getI hQ mt_X12_keep rfl (o := 201) (ci := 11) (k := 2) (a := 0) (b := 0) rfl rfl rfl rfl rfl ?_
  refine l1_many mt_X12_keep (pc' := 14) (L' := [some (.ref 201), some (.int p1)]) (st' := [.long ((c1.1 201 2).toInt64), .long 0, .long p1.toInt64, .ref 201]) 1 rfl ?_
  refine l1_callS mt_X12_keep mt_X12_in rfl rfl (As := [.long p1.toInt64, .long 0, .long ((c1.1 201 2).toInt64)]) (rest := [.ref 201]) rfl rfl rfl (st1 := fun x2 => [.int x2, .ref 201]) (fun _ => rfl) (ok_X12_in hQ c1 p1.toInt64 0 ((c1.1 201 2).toInt64)) (fun x2 c3 => ?_)
  refine l1_many mt_X12_keep (pc' := bif am_cc .ne x2 0 then 24 else 20) (L' := [some (.ref 201), some (.int p1)]) (st' := [.ref 201]) 1 rfl ?_
  refine l1_bin rfl ?_ ?_
  · refine l1_many mt_X12_keep (pc' := 25) (L' := [some (.ref 201), some (.int p1)]) (st' := [.int 1, .ref 201]) 2 rfl ?_
    exact ok_X12_keep_25 hQ p1 c3 1
  · refine l1_many mt_X12_keep (pc' := 25) (L' := [some (.ref 201), some (.int p1)]) (st' := [.int 0, .ref 201]) 1 rfl ?_
    exact ok_X12_keep_25 hQ p1 c3 0
theorem ok_X12_keep {Q : hS → am_H → Prop} (hQ : l1_em km Q) (c : hS) (p1 : Int32) : l1_T wV Q am_i_X12_keep [.ref 201, .int p1] c (f_X12_keep c p1) := l1_of (en_X12_keep hQ c p1) ⟨rfl, rfl, trivial⟩
set_option maxRecDepth 100000 in
theorem ok_X12_typed_27 {Q : hS → am_H → Prop} (hQ : l1_em km Q) (p1 : Int32) : ∀ (c : hS) (w0 : Int32), l1_G (wN wI) Q am_i_X12_typed 27 [some (.ref 201), some (.int p1)] [.int w0, .ref 201] c (f_X12_typed_27 p1 c w0) := by
  intro c w0
  rw [f_X12_typed_27]
  refine l1_many mt_X12_typed (pc' := 28) (L' := [some (.ref 201), some (.int p1)]) (st' := [.int 1, .int w0, .ref 201]) 1 rfl ?_
  refine l1_callV hQ mt_X12_typed mt_X12_refuses rfl rfl (o := 201) (ci := 11) (As := [.int w0, .int 1]) (rest := []) rfl rfl rfl rfl rfl rfl (st1 := fun x1 => [.int x1]) (fun _ => rfl) (ok_X12_refuses hQ c w0 1) (fun x1 c2 => ?_)
  refine l1_many mt_X12_typed (pc' := bif am_cc .eq x1 0 then 38 else 34) (L' := [some (.ref 201), some (.int p1)]) (st' := []) 1 rfl ?_
  refine l1_bif rfl ?_ ?_
  · refine l1_many mt_X12_typed (pc' := 39) (L' := [some (.ref 201), some (.int p1)]) (st' := [.ref 201]) 1 rfl ?_
    refine l1_getR hQ mt_X12_typed rfl (o := 201) (ci := 11) (k := 1) (a := 0) (b := 0) rfl rfl rfl rfl rfl (q := 202) rfl ?_
    refine l1_many mt_X12_typed (pc' := 43) (L' := [some (.ref 201), some (.int p1)]) (st' := [.int p1, .ref 202]) 1 rfl ?_
    refine l1_ck (fun hx => ?_)
    refine l1_ald hQ mt_X12_typed rfl (o := 202) rfl hx ?_
    exact l1_ret mt_X12_typed rfl rfl rfl
  · refine l1_many mt_X12_typed (pc' := 44) (L' := [some (.ref 201), some (.int p1)]) (st' := [.int 0]) 2 rfl ?_
    exact l1_ret mt_X12_typed rfl rfl rfl
set_option maxRecDepth 100000 in
theorem en_X12_typed {Q : hS → am_H → Prop} (hQ : l1_em km Q) (c : hS) (p1 : Int32) : l1_G (wN wI) Q am_i_X12_typed 0 [some (.ref 201), some (.int p1)] [] c (f_X12_typed c p1) := by
  rw [f_X12_typed]
  refine l1_many mt_X12_typed (pc' := 2) (L' := [some (.ref 201), some (.int p1)]) (st' := [.int 0, .ref 201]) 2 rfl ?_
  refine l1_putI hQ mt_X12_typed rfl (o := 201) (ci := 11) (k := 0) (a := 0) rfl rfl rfl rfl rfl rfl (fun c1 => ?_)
  refine l1_many mt_X12_typed (pc' := 10) (L' := [some (.ref 201), some (.int p1)]) (st' := [.ref 201, .long 0, .long p1.toInt64, .ref 201]) 5 rfl ?_
  refine l1_getI hQ mt_X12_typed rfl (o := 201) (ci := 11) (k := 2) (a := 0) (b := 0) rfl rfl rfl rfl rfl ?_
  refine l1_many mt_X12_typed (pc' := 16) (L' := [some (.ref 201), some (.int p1)]) (st' := [.long (((c1.1 201 2) - 1).toInt64), .long 0, .long p1.toInt64, .ref 201]) 3 rfl ?_
  refine l1_callS mt_X12_typed mt_X12_in rfl rfl (As := [.long p1.toInt64, .long 0, .long (((c1.1 201 2) - 1).toInt64)]) (rest := [.ref 201]) rfl rfl rfl (st1 := fun x2 => [.int x2, .ref 201]) (fun _ => rfl) (ok_X12_in hQ c1 p1.toInt64 0 (((c1.1 201 2) - 1).toInt64)) (fun x2 c3 => ?_)
  refine l1_many mt_X12_typed (pc' := bif am_cc .ne x2 0 then 26 else 22) (L' := [some (.ref 201), some (.int p1)]) (st' := [.ref 201]) 1 rfl ?_
  refine l1_bin rfl ?_ ?_
  · refine l1_many mt_X12_typed (pc' := 27) (L' := [some (.ref 201), some (.int p1)]) (st' := [.int 1, .ref 201]) 2 rfl ?_
    exact ok_X12_typed_27 hQ p1 c3 1
  · refine l1_many mt_X12_typed (pc' := 27) (L' := [some (.ref 201), some (.int p1)]) (st' := [.int 0, .ref 201]) 1 rfl ?_
    exact ok_X12_typed_27 hQ p1 c3 0
theorem ok_X12_typed {Q : hS → am_H → Prop} (hQ : l1_em km Q) (c : hS) (p1 : Int32) : l1_T wI Q am_i_X12_typed [.ref 201, .int p1] c (f_X12_typed c p1) := l1_of (en_X12_typed hQ c p1) ⟨rfl, rfl, trivial⟩
set_option maxRecDepth 100000 in
theorem en_X12_put {Q : hS → am_H → Prop} (hQ : l1_em km Q) (c : hS) (p1 : Int32) : l1_G (wN wV) Q am_i_X12_put 0 [some (.ref 201), some (.int p1)] [] c (f_X12_put c p1) := by
  rw [f_X12_put]
  refine l1_many mt_X12_put (pc' := 1) (L' := [some (.ref 201), some (.int p1)]) (st' := [.ref 201]) 1 rfl ?_
  refine l1_getR hQ mt_X12_put rfl (o := 201) (ci := 11) (k := 3) (a := 0) (b := 0) rfl rfl rfl rfl rfl (q := 203) rfl ?_
  refine l1_many mt_X12_put (pc' := 5) (L' := [some (.ref 201), some (.int p1)]) (st' := [.ref 201, .ref 203]) 1 rfl ?_
  refine l1_getI hQ mt_X12_put rfl (o := 201) (ci := 11) (k := 4) (a := 0) (b := 0) rfl rfl rfl rfl rfl ?_
  refine l1_many mt_X12_put (pc' := 13) (L' := [some (.ref 201), some (.int p1)]) (st' := [.int (p1 &&& 255), .int (c.1 201 4), .ref 203]) 3 rfl ?_
  refine l1_ck (fun hx => ?_)
  refine l1_ast hQ mt_X12_put rfl (o := 203) rfl hx (fun c1 => ?_)
  refine l1_many mt_X12_put (pc' := 16) (L' := [some (.ref 201), some (.int p1)]) (st' := [.ref 201, .ref 201]) 2 rfl ?_
  refine l1_getI hQ mt_X12_put rfl (o := 201) (ci := 11) (k := 4) (a := 0) (b := 0) rfl rfl rfl rfl rfl ?_
  refine l1_many mt_X12_put (pc' := 21) (L' := [some (.ref 201), some (.int p1)]) (st' := [.int ((c1.1 201 4) + 1), .ref 201]) 2 rfl ?_
  refine l1_putI hQ mt_X12_put rfl (o := 201) (ci := 11) (k := 4) (a := 0) rfl rfl rfl rfl rfl rfl (fun c2 => ?_)
  exact l1_ret mt_X12_put rfl rfl rfl
theorem ok_X12_put {Q : hS → am_H → Prop} (hQ : l1_em km Q) (c : hS) (p1 : Int32) : l1_T wV Q am_i_X12_put [.ref 201, .int p1] c (f_X12_put c p1) := l1_of (en_X12_put hQ c p1) ⟨rfl, rfl, trivial⟩
set_option maxRecDepth 100000 in
theorem ok_X12_feed_89 {Q : hS → am_H → Prop} (hQ : l1_em km Q) (N : Nat) (p1 : Int32) (p2 : Int32) (p3 : Int32) (p4 : Int32) (p5 : Int32) {k36 : hS → Int32 → Option (Int32 × hS)} (hk36 : ∀ c v6, l1_G (wN wI) Q am_i_X12_feed 36 [some (.ref 201), some (.int p1), some (.int p2), some (.int p3), some (.int p4), some (.int p5), some (.int v6)] [] c (k36 c v6)) : ∀ (c : hS) (v6 : Int32) (w0 : Int32), l1_G (wN wI) Q am_i_X12_feed 89 [some (.ref 201), some (.int p1), some (.int p2), some (.int p3), some (.int p4), some (.int p5), some (.int v6)] [.int w0] c (f_X12_feed_89 N p1 p2 p3 p4 p5 k36 c v6 w0) := by
  intro c v6 w0
  rw [f_X12_feed_89]
  refine l1_many mt_X12_feed (pc' := 105) (L' := [some (.ref 201), some (.int p1), some (.int p2), some (.int p3), some (.int p4), some (.int p5), some (.int v6), some (.int w0)]) (st' := [.int (j_shr w0 (24 - (8 * (j_rem v6 4)))), .ref 201]) 11 rfl ?_
  refine l1_callV hQ mt_X12_feed mt_X12_put rfl rfl (o := 201) (ci := 11) (As := [.int (j_shr w0 (24 - (8 * (j_rem v6 4))))]) (rest := []) rfl rfl rfl rfl rfl rfl (st1 := fun _ => []) (fun _ => rfl) (ok_X12_put hQ c (j_shr w0 (24 - (8 * (j_rem v6 4))))) (fun _ c1 => ?_)
  refine l1_many mt_X12_feed (pc' := 36) (L' := [some (.ref 201), some (.int p1), some (.int p2), some (.int p3), some (.int p4), some (.int p5), some (.int (v6 + 1)), some (.int w0)]) (st' := []) 2 rfl ?_
  refine l1_weak (m := [true, true, true, true, true, true, true, false]) (L' := [some (.ref 201), some (.int p1), some (.int p2), some (.int p3), some (.int p4), some (.int p5), some (.int (v6 + 1))]) rfl ?_
  exact hk36 c1 (v6 + 1)
set_option maxRecDepth 100000 in
theorem ok_X12_feed_36 {Q : hS → am_H → Prop} (hQ : l1_em km Q) (N : Nat) (p1 : Int32) (p2 : Int32) (p3 : Int32) (p4 : Int32) (p5 : Int32) : ∀ n : Nat, ∀ (c : hS) (v6 : Int32), l1_G (wN wI) Q am_i_X12_feed 36 [some (.ref 201), some (.int p1), some (.int p2), some (.int p3), some (.int p4), some (.int p5), some (.int v6)] [] c (f_X12_feed_36 N p1 p2 p3 p4 p5 n c v6) := by
  intro n
  induction n with
  | zero => intro c v6; exact l1_none
  | succ n ih =>
    intro c v6
    rw [f_X12_feed_36]
    refine l1_many mt_X12_feed (pc' := bif am_cc .ge v6 20 then 114 else 43) (L' := [some (.ref 201), some (.int p1), some (.int p2), some (.int p3), some (.int p4), some (.int p5), some (.int v6)]) (st' := []) 3 rfl ?_
    refine l1_bif rfl ?_ ?_
    · refine l1_many mt_X12_feed (pc' := 115) (L' := [some (.ref 201), some (.int p1), some (.int p2), some (.int p3), some (.int p4), some (.int p5), some (.int v6)]) (st' := [.ref 201]) 1 rfl ?_
      refine l1_getI hQ mt_X12_feed rfl (o := 201) (ci := 11) (k := 4) (a := 0) (b := 0) rfl rfl rfl rfl rfl ?_
      exact l1_ret mt_X12_feed rfl rfl rfl
    · refine l1_many mt_X12_feed (pc' := bif am_cc .ge v6 4 then 53 else 49) (L' := [some (.ref 201), some (.int p1), some (.int p2), some (.int p3), some (.int p4), some (.int p5), some (.int v6)]) (st' := []) 3 rfl ?_
      refine l1_bif rfl ?_ ?_
      · refine l1_many mt_X12_feed (pc' := bif am_cc .ge v6 8 then 64 else 60) (L' := [some (.ref 201), some (.int p1), some (.int p2), some (.int p3), some (.int p4), some (.int p5), some (.int v6)]) (st' := []) 3 rfl ?_
        refine l1_bif rfl ?_ ?_
        · refine l1_many mt_X12_feed (pc' := bif am_cc .ge v6 12 then 75 else 71) (L' := [some (.ref 201), some (.int p1), some (.int p2), some (.int p3), some (.int p4), some (.int p5), some (.int v6)]) (st' := []) 3 rfl ?_
          refine l1_bif rfl ?_ ?_
          · refine l1_many mt_X12_feed (pc' := bif am_cc .ge v6 16 then 87 else 82) (L' := [some (.ref 201), some (.int p1), some (.int p2), some (.int p3), some (.int p4), some (.int p5), some (.int v6)]) (st' := []) 3 rfl ?_
            refine l1_bif rfl ?_ ?_
            · refine l1_many mt_X12_feed (pc' := 89) (L' := [some (.ref 201), some (.int p1), some (.int p2), some (.int p3), some (.int p4), some (.int p5), some (.int v6)]) (st' := [.int p5]) 1 rfl ?_
              exact ok_X12_feed_89 hQ N p1 p2 p3 p4 p5 ih c v6 p5
            · refine l1_many mt_X12_feed (pc' := 89) (L' := [some (.ref 201), some (.int p1), some (.int p2), some (.int p3), some (.int p4), some (.int p5), some (.int v6)]) (st' := [.int p4]) 2 rfl ?_
              exact ok_X12_feed_89 hQ N p1 p2 p3 p4 p5 ih c v6 p4
          · refine l1_many mt_X12_feed (pc' := 89) (L' := [some (.ref 201), some (.int p1), some (.int p2), some (.int p3), some (.int p4), some (.int p5), some (.int v6)]) (st' := [.int p3]) 2 rfl ?_
            exact ok_X12_feed_89 hQ N p1 p2 p3 p4 p5 ih c v6 p3
        · refine l1_many mt_X12_feed (pc' := 89) (L' := [some (.ref 201), some (.int p1), some (.int p2), some (.int p3), some (.int p4), some (.int p5), some (.int v6)]) (st' := [.int p2]) 2 rfl ?_
          exact ok_X12_feed_89 hQ N p1 p2 p3 p4 p5 ih c v6 p2
      · refine l1_many mt_X12_feed (pc' := 89) (L' := [some (.ref 201), some (.int p1), some (.int p2), some (.int p3), some (.int p4), some (.int p5), some (.int v6)]) (st' := [.int p1]) 2 rfl ?_
        exact ok_X12_feed_89 hQ N p1 p2 p3 p4 p5 ih c v6 p1
set_option maxRecDepth 100000 in
theorem ok_X12_feed_24 {Q : hS → am_H → Prop} (hQ : l1_em km Q) (N : Nat) (p1 : Int32) (p2 : Int32) (p3 : Int32) (p4 : Int32) (p5 : Int32) : ∀ (c : hS) (w0 : Int32), l1_G (wN wI) Q am_i_X12_feed 24 [some (.ref 201), some (.int p1), some (.int p2), some (.int p3), some (.int p4), some (.int p5)] [.int w0, .ref 201] c (f_X12_feed_24 N p1 p2 p3 p4 p5 c w0) := by
  intro c w0
  rw [f_X12_feed_24]
  refine l1_many mt_X12_feed (pc' := 25) (L' := [some (.ref 201), some (.int p1), some (.int p2), some (.int p3), some (.int p4), some (.int p5)]) (st' := [.int 1, .int w0, .ref 201]) 1 rfl ?_
  refine l1_callV hQ mt_X12_feed mt_X12_refuses rfl rfl (o := 201) (ci := 11) (As := [.int w0, .int 1]) (rest := []) rfl rfl rfl rfl rfl rfl (st1 := fun x1 => [.int x1]) (fun _ => rfl) (ok_X12_refuses hQ c w0 1) (fun x1 c2 => ?_)
  refine l1_many mt_X12_feed (pc' := bif am_cc .eq x1 0 then 33 else 31) (L' := [some (.ref 201), some (.int p1), some (.int p2), some (.int p3), some (.int p4), some (.int p5)]) (st' := []) 1 rfl ?_
  refine l1_bif rfl ?_ ?_
  · refine l1_many mt_X12_feed (pc' := 36) (L' := [some (.ref 201), some (.int p1), some (.int p2), some (.int p3), some (.int p4), some (.int p5), some (.int 0)]) (st' := []) 2 rfl ?_
    exact ok_X12_feed_36 hQ N p1 p2 p3 p4 p5 N c2 0
  · refine l1_many mt_X12_feed (pc' := 32) (L' := [some (.ref 201), some (.int p1), some (.int p2), some (.int p3), some (.int p4), some (.int p5)]) (st' := [.int 0]) 1 rfl ?_
    exact l1_ret mt_X12_feed rfl rfl rfl
set_option maxRecDepth 100000 in
theorem en_X12_feed {Q : hS → am_H → Prop} (hQ : l1_em km Q) (N : Nat) (c : hS) (p1 : Int32) (p2 : Int32) (p3 : Int32) (p4 : Int32) (p5 : Int32) : l1_G (wN wI) Q am_i_X12_feed 0 [some (.ref 201), some (.int p1), some (.int p2), some (.int p3), some (.int p4), some (.int p5)] [] c (f_X12_feed N c p1 p2 p3 p4 p5) := by
  rw [f_X12_feed]
  refine l1_many mt_X12_feed (pc' := 2) (L' := [some (.ref 201), some (.int p1), some (.int p2), some (.int p3), some (.int p4), some (.int p5)]) (st' := [.int 0, .ref 201]) 2 rfl ?_
  refine l1_putI hQ mt_X12_feed rfl (o := 201) (ci := 11) (k := 0) (a := 0) rfl rfl rfl rfl rfl rfl (fun c1 => ?_)
  refine l1_many mt_X12_feed (pc' := 7) (L' := [some (.ref 201), some (.int p1), some (.int p2), some (.int p3), some (.int p4), some (.int p5)]) (st' := [.ref 201, .ref 201]) 2 rfl ?_
  refine l1_getI hQ mt_X12_feed rfl (o := 201) (ci := 11) (k := 4) (a := 0) (b := 0) rfl rfl rfl rfl rfl ?_
  refine l1_many mt_X12_feed (pc' := bif am_cc .le ((c1.1 201 4) + 20) 20000 then 23 else 19) (L' := [some (.ref 201), some (.int p1), some (.int p2), some (.int p3), some (.int p4), some (.int p5)]) (st' := [.ref 201]) 4 rfl ?_
  refine l1_bif rfl ?_ ?_
  · refine l1_many mt_X12_feed (pc' := 24) (L' := [some (.ref 201), some (.int p1), some (.int p2), some (.int p3), some (.int p4), some (.int p5)]) (st' := [.int 0, .ref 201]) 1 rfl ?_
    exact ok_X12_feed_24 hQ N p1 p2 p3 p4 p5 c1 0
  · refine l1_many mt_X12_feed (pc' := 24) (L' := [some (.ref 201), some (.int p1), some (.int p2), some (.int p3), some (.int p4), some (.int p5)]) (st' := [.int 1, .ref 201]) 2 rfl ?_
    exact ok_X12_feed_24 hQ N p1 p2 p3 p4 p5 c1 1
theorem ok_X12_feed {Q : hS → am_H → Prop} (hQ : l1_em km Q) (N : Nat) (c : hS) (p1 : Int32) (p2 : Int32) (p3 : Int32) (p4 : Int32) (p5 : Int32) : l1_T wI Q am_i_X12_feed [.ref 201, .int p1, .int p2, .int p3, .int p4, .int p5] c (f_X12_feed N c p1 p2 p3 p4 p5) := l1_of (en_X12_feed hQ N c p1 p2 p3 p4 p5) ⟨rfl, rfl, rfl, rfl, rfl, rfl, trivial⟩
set_option maxRecDepth 100000 in
theorem ok_X12_end_25 {Q : hS → am_H → Prop} (hQ : l1_em km Q) (p1 : Int32) : ∀ (c : hS) (w0 : Int32), l1_G (wN wV) Q am_i_X12_end 25 [some (.ref 201), some (.int p1)] [.int w0, .ref 201] c (f_X12_end_25 p1 c w0) := by
  intro c w0
  rw [f_X12_end_25]
  refine l1_many mt_X12_end (pc' := 26) (L' := [some (.ref 201), some (.int p1)]) (st' := [.int 1, .int w0, .ref 201]) 1 rfl ?_
  refine l1_callV hQ mt_X12_end mt_X12_refuses rfl rfl (o := 201) (ci := 11) (As := [.int w0, .int 1]) (rest := []) rfl rfl rfl rfl rfl rfl (st1 := fun x1 => [.int x1]) (fun _ => rfl) (ok_X12_refuses hQ c w0 1) (fun x1 c2 => ?_)
  refine l1_many mt_X12_end (pc' := bif am_cc .ne x1 0 then 37 else 32) (L' := [some (.ref 201), some (.int p1)]) (st' := []) 1 rfl ?_
  refine l1_bin rfl ?_ ?_
  · refine l1_many mt_X12_end (pc' := 34) (L' := [some (.ref 201), some (.int p1)]) (st' := [.int p1, .ref 201]) 2 rfl ?_
    refine l1_putI hQ mt_X12_end rfl (o := 201) (ci := 11) (k := 4) (a := 0) rfl rfl rfl rfl rfl rfl (fun c3 => ?_)
    exact l1_ret mt_X12_end rfl rfl rfl
  · exact l1_ret mt_X12_end rfl rfl rfl
set_option maxRecDepth 100000 in
theorem en_X12_end {Q : hS → am_H → Prop} (hQ : l1_em km Q) (c : hS) (p1 : Int32) : l1_G (wN wV) Q am_i_X12_end 0 [some (.ref 201), some (.int p1)] [] c (f_X12_end c p1) := by
  rw [f_X12_end]
  refine l1_many mt_X12_end (pc' := 2) (L' := [some (.ref 201), some (.int p1)]) (st' := [.int 0, .ref 201]) 2 rfl ?_
  refine l1_putI hQ mt_X12_end rfl (o := 201) (ci := 11) (k := 0) (a := 0) rfl rfl rfl rfl rfl rfl (fun c1 => ?_)
  refine l1_many mt_X12_end (pc' := 10) (L' := [some (.ref 201), some (.int p1)]) (st' := [.ref 201, .long 0, .long p1.toInt64, .ref 201]) 5 rfl ?_
  refine l1_getI hQ mt_X12_end rfl (o := 201) (ci := 11) (k := 4) (a := 0) (b := 0) rfl rfl rfl rfl rfl ?_
  refine l1_many mt_X12_end (pc' := 14) (L' := [some (.ref 201), some (.int p1)]) (st' := [.long ((c1.1 201 4).toInt64), .long 0, .long p1.toInt64, .ref 201]) 1 rfl ?_
  refine l1_callS mt_X12_end mt_X12_in rfl rfl (As := [.long p1.toInt64, .long 0, .long ((c1.1 201 4).toInt64)]) (rest := [.ref 201]) rfl rfl rfl (st1 := fun x2 => [.int x2, .ref 201]) (fun _ => rfl) (ok_X12_in hQ c1 p1.toInt64 0 ((c1.1 201 4).toInt64)) (fun x2 c3 => ?_)
  refine l1_many mt_X12_end (pc' := bif am_cc .ne x2 0 then 24 else 20) (L' := [some (.ref 201), some (.int p1)]) (st' := [.ref 201]) 1 rfl ?_
  refine l1_bin rfl ?_ ?_
  · refine l1_many mt_X12_end (pc' := 25) (L' := [some (.ref 201), some (.int p1)]) (st' := [.int 1, .ref 201]) 2 rfl ?_
    exact ok_X12_end_25 hQ p1 c3 1
  · refine l1_many mt_X12_end (pc' := 25) (L' := [some (.ref 201), some (.int p1)]) (st' := [.int 0, .ref 201]) 1 rfl ?_
    exact ok_X12_end_25 hQ p1 c3 0
theorem ok_X12_end {Q : hS → am_H → Prop} (hQ : l1_em km Q) (c : hS) (p1 : Int32) : l1_T wV Q am_i_X12_end [.ref 201, .int p1] c (f_X12_end c p1) := l1_of (en_X12_end hQ c p1) ⟨rfl, rfl, trivial⟩
set_option maxRecDepth 100000 in
theorem ok_X12_poke_52 {Q : hS → am_H → Prop} (hQ : l1_em km Q) (p1 : Int32) (p2 : Int32) : ∀ (c : hS) (w0 : Int32), l1_G (wN wI) Q am_i_X12_poke 52 [some (.ref 201), some (.int p1), some (.int p2)] [.int w0, .ref 201] c (f_X12_poke_52 p1 p2 c w0) := by
  intro c w0
  rw [f_X12_poke_52]
  refine l1_many mt_X12_poke (pc' := 53) (L' := [some (.ref 201), some (.int p1), some (.int p2)]) (st' := [.int 2, .int w0, .ref 201]) 1 rfl ?_
  refine l1_callV hQ mt_X12_poke mt_X12_refuses rfl rfl (o := 201) (ci := 11) (As := [.int w0, .int 2]) (rest := []) rfl rfl rfl rfl rfl rfl (st1 := fun x1 => [.int x1]) (fun _ => rfl) (ok_X12_refuses hQ c w0 2) (fun x1 c2 => ?_)
  refine l1_many mt_X12_poke (pc' := bif am_cc .eq x1 0 then 61 else 59) (L' := [some (.ref 201), some (.int p1), some (.int p2)]) (st' := []) 1 rfl ?_
  refine l1_bif rfl ?_ ?_
  · refine l1_many mt_X12_poke (pc' := 62) (L' := [some (.ref 201), some (.int p1), some (.int p2)]) (st' := [.ref 201]) 1 rfl ?_
    refine l1_getR hQ mt_X12_poke rfl (o := 201) (ci := 11) (k := 3) (a := 0) (b := 0) rfl rfl rfl rfl rfl (q := 203) rfl ?_
    refine l1_many mt_X12_poke (pc' := 66) (L' := [some (.ref 201), some (.int p1), some (.int p2)]) (st' := [.int p1, .ref 203]) 1 rfl ?_
    refine l1_ck (fun hx => ?_)
    refine l1_ald hQ mt_X12_poke rfl (o := 203) rfl hx ?_
    refine l1_many mt_X12_poke (pc' := 69) (L' := [some (.ref 201), some (.int p1), some (.int p2), some (.int (c2.1 203 p1.toNatClampNeg))]) (st' := [.ref 201]) 2 rfl ?_
    refine l1_getR hQ mt_X12_poke rfl (o := 201) (ci := 11) (k := 3) (a := 0) (b := 0) rfl rfl rfl rfl rfl (q := 203) rfl ?_
    refine l1_many mt_X12_poke (pc' := 74) (L' := [some (.ref 201), some (.int p1), some (.int p2), some (.int (c2.1 203 p1.toNatClampNeg))]) (st' := [.int p2, .int p1, .ref 203]) 2 rfl ?_
    refine l1_ck (fun hx => ?_)
    refine l1_ast hQ mt_X12_poke rfl (o := 203) rfl hx (fun c3 => ?_)
    refine l1_many mt_X12_poke (pc' := 76) (L' := [some (.ref 201), some (.int p1), some (.int p2), some (.int (c2.1 203 p1.toNatClampNeg))]) (st' := [.int (c2.1 203 p1.toNatClampNeg)]) 1 rfl ?_
    exact l1_ret mt_X12_poke rfl rfl rfl
  · refine l1_many mt_X12_poke (pc' := 60) (L' := [some (.ref 201), some (.int p1), some (.int p2)]) (st' := [.int 0]) 1 rfl ?_
    exact l1_ret mt_X12_poke rfl rfl rfl
set_option maxRecDepth 100000 in
theorem ok_X12_poke_27 {Q : hS → am_H → Prop} (hQ : l1_em km Q) (p1 : Int32) (p2 : Int32) : ∀ (c : hS) (w0 : Int32), l1_G (wN wI) Q am_i_X12_poke 27 [some (.ref 201), some (.int p1), some (.int p2)] [.int w0, .ref 201] c (f_X12_poke_27 p1 p2 c w0) := by
  intro c w0
  rw [f_X12_poke_27]
  refine l1_many mt_X12_poke (pc' := 28) (L' := [some (.ref 201), some (.int p1), some (.int p2)]) (st' := [.int 1, .int w0, .ref 201]) 1 rfl ?_
  refine l1_callV hQ mt_X12_poke mt_X12_refuses rfl rfl (o := 201) (ci := 11) (As := [.int w0, .int 1]) (rest := []) rfl rfl rfl rfl rfl rfl (st1 := fun x1 => [.int x1]) (fun _ => rfl) (ok_X12_refuses hQ c w0 1) (fun x1 c2 => ?_)
  refine l1_many mt_X12_poke (pc' := bif am_cc .ne x1 0 then 59 else 34) (L' := [some (.ref 201), some (.int p1), some (.int p2)]) (st' := []) 1 rfl ?_
  refine l1_bin rfl ?_ ?_
  · refine l1_many mt_X12_poke (pc' := 41) (L' := [some (.ref 201), some (.int p1), some (.int p2)]) (st' := [.long 255, .long 0, .long p2.toInt64, .ref 201]) 5 rfl ?_
    refine l1_callS mt_X12_poke mt_X12_in rfl rfl (As := [.long p2.toInt64, .long 0, .long 255]) (rest := [.ref 201]) rfl rfl rfl (st1 := fun x3 => [.int x3, .ref 201]) (fun _ => rfl) (ok_X12_in hQ c2 p2.toInt64 0 255) (fun x3 c4 => ?_)
    refine l1_many mt_X12_poke (pc' := bif am_cc .ne x3 0 then 51 else 47) (L' := [some (.ref 201), some (.int p1), some (.int p2)]) (st' := [.ref 201]) 1 rfl ?_
    refine l1_bin rfl ?_ ?_
    · refine l1_many mt_X12_poke (pc' := 52) (L' := [some (.ref 201), some (.int p1), some (.int p2)]) (st' := [.int 1, .ref 201]) 2 rfl ?_
      exact ok_X12_poke_52 hQ p1 p2 c4 1
    · refine l1_many mt_X12_poke (pc' := 52) (L' := [some (.ref 201), some (.int p1), some (.int p2)]) (st' := [.int 0, .ref 201]) 1 rfl ?_
      exact ok_X12_poke_52 hQ p1 p2 c4 0
  · refine l1_many mt_X12_poke (pc' := 60) (L' := [some (.ref 201), some (.int p1), some (.int p2)]) (st' := [.int 0]) 1 rfl ?_
    exact l1_ret mt_X12_poke rfl rfl rfl
set_option maxRecDepth 100000 in
theorem en_X12_poke {Q : hS → am_H → Prop} (hQ : l1_em km Q) (c : hS) (p1 : Int32) (p2 : Int32) : l1_G (wN wI) Q am_i_X12_poke 0 [some (.ref 201), some (.int p1), some (.int p2)] [] c (f_X12_poke c p1 p2) := by
  rw [f_X12_poke]
  refine l1_many mt_X12_poke (pc' := 2) (L' := [some (.ref 201), some (.int p1), some (.int p2)]) (st' := [.int 0, .ref 201]) 2 rfl ?_
  refine l1_putI hQ mt_X12_poke rfl (o := 201) (ci := 11) (k := 0) (a := 0) rfl rfl rfl rfl rfl rfl (fun c1 => ?_)
  refine l1_many mt_X12_poke (pc' := 10) (L' := [some (.ref 201), some (.int p1), some (.int p2)]) (st' := [.ref 201, .long 0, .long p1.toInt64, .ref 201]) 5 rfl ?_
  refine l1_getI hQ mt_X12_poke rfl (o := 201) (ci := 11) (k := 4) (a := 0) (b := 0) rfl rfl rfl rfl rfl ?_
  refine l1_many mt_X12_poke (pc' := 16) (L' := [some (.ref 201), some (.int p1), some (.int p2)]) (st' := [.long (((c1.1 201 4) - 1).toInt64), .long 0, .long p1.toInt64, .ref 201]) 3 rfl ?_
  refine l1_callS mt_X12_poke mt_X12_in rfl rfl (As := [.long p1.toInt64, .long 0, .long (((c1.1 201 4) - 1).toInt64)]) (rest := [.ref 201]) rfl rfl rfl (st1 := fun x2 => [.int x2, .ref 201]) (fun _ => rfl) (ok_X12_in hQ c1 p1.toInt64 0 (((c1.1 201 4) - 1).toInt64)) (fun x2 c3 => ?_)
  refine l1_many mt_X12_poke (pc' := bif am_cc .ne x2 0 then 26 else 22) (L' := [some (.ref 201), some (.int p1), some (.int p2)]) (st' := [.ref 201]) 1 rfl ?_
  refine l1_bin rfl ?_ ?_
  · refine l1_many mt_X12_poke (pc' := 27) (L' := [some (.ref 201), some (.int p1), some (.int p2)]) (st' := [.int 1, .ref 201]) 2 rfl ?_
    exact ok_X12_poke_27 hQ p1 p2 c3 1
  · refine l1_many mt_X12_poke (pc' := 27) (L' := [some (.ref 201), some (.int p1), some (.int p2)]) (st' := [.int 0, .ref 201]) 1 rfl ?_
    exact ok_X12_poke_27 hQ p1 p2 c3 0
theorem ok_X12_poke {Q : hS → am_H → Prop} (hQ : l1_em km Q) (c : hS) (p1 : Int32) (p2 : Int32) : l1_T wI Q am_i_X12_poke [.ref 201, .int p1, .int p2] c (f_X12_poke c p1 p2) := l1_of (en_X12_poke hQ c p1 p2) ⟨rfl, rfl, rfl, trivial⟩
set_option maxRecDepth 100000 in
theorem ok_X12_at_64 {Q : hS → am_H → Prop} (hQ : l1_em km Q) (N : Nat) (p1 : Int32) (p2 : Int32) : ∀ n : Nat, ∀ (c : hS) (v3 : Int64) (v5 : Int32), l1_G (wN wL) Q am_i_X12_at 64 [some (.ref 201), some (.int p1), some (.int p2), some (.long v3), none, some (.int v5)] [] c (f_X12_at_64 N p1 p2 n c v3 v5) := by
  intro n
  induction n with
  | zero => intro c v3 v5; exact l1_none
  | succ n ih =>
    intro c v3 v5
    rw [f_X12_at_64]
    refine l1_many mt_X12_at (pc' := bif am_cc .ge v5 p2 then 92 else 70) (L' := [some (.ref 201), some (.int p1), some (.int p2), some (.long v3), none, some (.int v5)]) (st' := []) 3 rfl ?_
    refine l1_bif rfl ?_ ?_
    · refine l1_many mt_X12_at (pc' := 93) (L' := [some (.ref 201), some (.int p1), some (.int p2), some (.long v3), none, some (.int v5)]) (st' := [.long v3]) 1 rfl ?_
      exact l1_ret mt_X12_at rfl rfl rfl
    · refine l1_many mt_X12_at (pc' := 75) (L' := [some (.ref 201), some (.int p1), some (.int p2), some (.long v3), none, some (.int v5)]) (st' := [.ref 201, .long (j_lshl v3 8)]) 4 rfl ?_
      refine l1_getR hQ mt_X12_at rfl (o := 201) (ci := 11) (k := 3) (a := 0) (b := 0) rfl rfl rfl rfl rfl (q := 203) rfl ?_
      refine l1_many mt_X12_at (pc' := 82) (L' := [some (.ref 201), some (.int p1), some (.int p2), some (.long v3), none, some (.int v5)]) (st' := [.int (p1 + v5), .ref 203, .long (j_lshl v3 8)]) 3 rfl ?_
      refine l1_ck (fun hx => ?_)
      refine l1_ald hQ mt_X12_at rfl (o := 203) rfl hx ?_
      refine l1_many mt_X12_at (pc' := 64) (L' := [some (.ref 201), some (.int p1), some (.int p2), some (.long ((j_lshl v3 8) ||| ((c.1 203 (p1 + v5).toNatClampNeg).toInt64))), none, some (.int (v5 + 1))]) (st' := []) 5 rfl ?_
      exact ih c ((j_lshl v3 8) ||| ((c.1 203 (p1 + v5).toNatClampNeg).toInt64)) (v5 + 1)
set_option maxRecDepth 100000 in
theorem ok_X12_at_50 {Q : hS → am_H → Prop} (hQ : l1_em km Q) (N : Nat) (p1 : Int32) (p2 : Int32) : ∀ (c : hS) (w0 : Int32), l1_G (wN wL) Q am_i_X12_at 50 [some (.ref 201), some (.int p1), some (.int p2)] [.int w0, .ref 201] c (f_X12_at_50 N p1 p2 c w0) := by
  intro c w0
  rw [f_X12_at_50]
  refine l1_many mt_X12_at (pc' := 51) (L' := [some (.ref 201), some (.int p1), some (.int p2)]) (st' := [.int 2, .int w0, .ref 201]) 1 rfl ?_
  refine l1_callV hQ mt_X12_at mt_X12_refuses rfl rfl (o := 201) (ci := 11) (As := [.int w0, .int 2]) (rest := []) rfl rfl rfl rfl rfl rfl (st1 := fun x1 => [.int x1]) (fun _ => rfl) (ok_X12_refuses hQ c w0 2) (fun x1 c2 => ?_)
  refine l1_many mt_X12_at (pc' := bif am_cc .eq x1 0 then 59 else 57) (L' := [some (.ref 201), some (.int p1), some (.int p2)]) (st' := []) 1 rfl ?_
  refine l1_bif rfl ?_ ?_
  · refine l1_many mt_X12_at (pc' := 64) (L' := [some (.ref 201), some (.int p1), some (.int p2), some (.long 0), none, some (.int 0)]) (st' := []) 4 rfl ?_
    exact ok_X12_at_64 hQ N p1 p2 N c2 0 0
  · refine l1_many mt_X12_at (pc' := 58) (L' := [some (.ref 201), some (.int p1), some (.int p2)]) (st' := [.long 0]) 1 rfl ?_
    exact l1_ret mt_X12_at rfl rfl rfl
set_option maxRecDepth 100000 in
theorem ok_X12_at_45 {Q : hS → am_H → Prop} (hQ : l1_em km Q) (N : Nat) (p1 : Int32) (p2 : Int32) : ∀ (c : hS), l1_G (wN wL) Q am_i_X12_at 45 [some (.ref 201), some (.int p1), some (.int p2)] [.ref 201] c (f_X12_at_45 N p1 p2 c) := by
  intro c
  rw [f_X12_at_45]
  refine l1_many mt_X12_at (pc' := 50) (L' := [some (.ref 201), some (.int p1), some (.int p2)]) (st' := [.int 1, .ref 201]) 2 rfl ?_
  exact ok_X12_at_50 hQ N p1 p2 c 1
set_option maxRecDepth 100000 in
theorem ok_X12_at_23 {Q : hS → am_H → Prop} (hQ : l1_em km Q) (N : Nat) (p1 : Int32) (p2 : Int32) : ∀ (c : hS) (w0 : Int32), l1_G (wN wL) Q am_i_X12_at 23 [some (.ref 201), some (.int p1), some (.int p2)] [.int w0, .ref 201] c (f_X12_at_23 N p1 p2 c w0) := by
  intro c w0
  rw [f_X12_at_23]
  refine l1_many mt_X12_at (pc' := 24) (L' := [some (.ref 201), some (.int p1), some (.int p2)]) (st' := [.int 1, .int w0, .ref 201]) 1 rfl ?_
  refine l1_callV hQ mt_X12_at mt_X12_refuses rfl rfl (o := 201) (ci := 11) (As := [.int w0, .int 1]) (rest := []) rfl rfl rfl rfl rfl rfl (st1 := fun x1 => [.int x1]) (fun _ => rfl) (ok_X12_refuses hQ c w0 1) (fun x1 c2 => ?_)
  refine l1_many mt_X12_at (pc' := bif am_cc .ne x1 0 then 57 else 30) (L' := [some (.ref 201), some (.int p1), some (.int p2)]) (st' := []) 1 rfl ?_
  refine l1_bin rfl ?_ ?_
  · refine l1_many mt_X12_at (pc' := bif am_cc .lt p1 0 then 45 else 35) (L' := [some (.ref 201), some (.int p1), some (.int p2)]) (st' := [.ref 201]) 3 rfl ?_
    refine l1_bif rfl ?_ ?_
    · exact ok_X12_at_45 hQ N p1 p2 c2
    · refine l1_many mt_X12_at (pc' := 37) (L' := [some (.ref 201), some (.int p1), some (.int p2)]) (st' := [.ref 201, .int p1, .ref 201]) 2 rfl ?_
      refine l1_getI hQ mt_X12_at rfl (o := 201) (ci := 11) (k := 4) (a := 0) (b := 0) rfl rfl rfl rfl rfl ?_
      refine l1_many mt_X12_at (pc' := bif am_cc .le p1 ((c2.1 201 4) - p2) then 49 else 45) (L' := [some (.ref 201), some (.int p1), some (.int p2)]) (st' := [.ref 201]) 3 rfl ?_
      refine l1_bif rfl ?_ ?_
      · refine l1_many mt_X12_at (pc' := 50) (L' := [some (.ref 201), some (.int p1), some (.int p2)]) (st' := [.int 0, .ref 201]) 1 rfl ?_
        exact ok_X12_at_50 hQ N p1 p2 c2 0
      · exact ok_X12_at_45 hQ N p1 p2 c2
  · refine l1_many mt_X12_at (pc' := 58) (L' := [some (.ref 201), some (.int p1), some (.int p2)]) (st' := [.long 0]) 1 rfl ?_
    exact l1_ret mt_X12_at rfl rfl rfl
set_option maxRecDepth 100000 in
theorem en_X12_at {Q : hS → am_H → Prop} (hQ : l1_em km Q) (N : Nat) (c : hS) (p1 : Int32) (p2 : Int32) : l1_G (wN wL) Q am_i_X12_at 0 [some (.ref 201), some (.int p1), some (.int p2)] [] c (f_X12_at N c p1 p2) := by
  rw [f_X12_at]
  refine l1_many mt_X12_at (pc' := 2) (L' := [some (.ref 201), some (.int p1), some (.int p2)]) (st' := [.int 0, .ref 201]) 2 rfl ?_
  refine l1_putI hQ mt_X12_at rfl (o := 201) (ci := 11) (k := 0) (a := 0) rfl rfl rfl rfl rfl rfl (fun c1 => ?_)
  refine l1_many mt_X12_at (pc' := 12) (L' := [some (.ref 201), some (.int p1), some (.int p2)]) (st' := [.long 8, .long 1, .long p2.toInt64, .ref 201]) 5 rfl ?_
  refine l1_callS mt_X12_at mt_X12_in rfl rfl (As := [.long p2.toInt64, .long 1, .long 8]) (rest := [.ref 201]) rfl rfl rfl (st1 := fun x2 => [.int x2, .ref 201]) (fun _ => rfl) (ok_X12_in hQ c1 p2.toInt64 1 8) (fun x2 c3 => ?_)
  refine l1_many mt_X12_at (pc' := bif am_cc .ne x2 0 then 22 else 18) (L' := [some (.ref 201), some (.int p1), some (.int p2)]) (st' := [.ref 201]) 1 rfl ?_
  refine l1_bin rfl ?_ ?_
  · refine l1_many mt_X12_at (pc' := 23) (L' := [some (.ref 201), some (.int p1), some (.int p2)]) (st' := [.int 1, .ref 201]) 2 rfl ?_
    exact ok_X12_at_23 hQ N p1 p2 c3 1
  · refine l1_many mt_X12_at (pc' := 23) (L' := [some (.ref 201), some (.int p1), some (.int p2)]) (st' := [.int 0, .ref 201]) 1 rfl ?_
    exact ok_X12_at_23 hQ N p1 p2 c3 0
theorem ok_X12_at {Q : hS → am_H → Prop} (hQ : l1_em km Q) (N : Nat) (c : hS) (p1 : Int32) (p2 : Int32) : l1_T wL Q am_i_X12_at [.ref 201, .int p1, .int p2] c (f_X12_at N c p1 p2) := l1_of (en_X12_at hQ N c p1 p2) ⟨rfl, rfl, rfl, trivial⟩
set_option maxRecDepth 100000 in
theorem ok_X12_count_23 {Q : hS → am_H → Prop} (hQ : l1_em km Q) (p1 : Int32) : ∀ (c : hS) (w0 : Int32), l1_G (wN wI) Q am_i_X12_count 23 [some (.ref 201), some (.int p1)] [.int w0, .ref 201] c (f_X12_count_23 p1 c w0) := by
  intro c w0
  rw [f_X12_count_23]
  refine l1_many mt_X12_count (pc' := 24) (L' := [some (.ref 201), some (.int p1)]) (st' := [.int 1, .int w0, .ref 201]) 1 rfl ?_
  refine l1_callV hQ mt_X12_count mt_X12_refuses rfl rfl (o := 201) (ci := 11) (As := [.int w0, .int 1]) (rest := []) rfl rfl rfl rfl rfl rfl (st1 := fun x1 => [.int x1]) (fun _ => rfl) (ok_X12_refuses hQ c w0 1) (fun x1 c2 => ?_)
  refine l1_many mt_X12_count (pc' := bif am_cc .eq x1 0 then 34 else 30) (L' := [some (.ref 201), some (.int p1)]) (st' := []) 1 rfl ?_
  refine l1_bif rfl ?_ ?_
  · refine l1_many mt_X12_count (pc' := bif am_cc .ne p1 0 then 45 else 38) (L' := [some (.ref 201), some (.int p1)]) (st' := []) 2 rfl ?_
    refine l1_bin rfl ?_ ?_
    · refine l1_many mt_X12_count (pc' := 39) (L' := [some (.ref 201), some (.int p1)]) (st' := [.ref 201]) 1 rfl ?_
      refine l1_getI hQ mt_X12_count rfl (o := 201) (ci := 11) (k := 7) (a := 0) (b := 0) rfl rfl rfl rfl rfl ?_
      refine l1_many mt_X12_count (pc' := 61) (L' := [some (.ref 201), some (.int p1)]) (st' := [.int (c2.1 201 7)]) 1 rfl ?_
      exact l1_ret mt_X12_count rfl rfl rfl
    · refine l1_many mt_X12_count (pc' := bif am_cc .ne p1 1 then 57 else 50) (L' := [some (.ref 201), some (.int p1)]) (st' := []) 3 rfl ?_
      refine l1_bin rfl ?_ ?_
      · refine l1_many mt_X12_count (pc' := 51) (L' := [some (.ref 201), some (.int p1)]) (st' := [.ref 201]) 1 rfl ?_
        refine l1_getI hQ mt_X12_count rfl (o := 201) (ci := 11) (k := 2) (a := 0) (b := 0) rfl rfl rfl rfl rfl ?_
        refine l1_many mt_X12_count (pc' := 61) (L' := [some (.ref 201), some (.int p1)]) (st' := [.int (c2.1 201 2)]) 1 rfl ?_
        exact l1_ret mt_X12_count rfl rfl rfl
      · refine l1_many mt_X12_count (pc' := 58) (L' := [some (.ref 201), some (.int p1)]) (st' := [.ref 201]) 1 rfl ?_
        refine l1_getI hQ mt_X12_count rfl (o := 201) (ci := 11) (k := 4) (a := 0) (b := 0) rfl rfl rfl rfl rfl ?_
        exact l1_ret mt_X12_count rfl rfl rfl
  · refine l1_many mt_X12_count (pc' := 61) (L' := [some (.ref 201), some (.int p1)]) (st' := [.int 0]) 2 rfl ?_
    exact l1_ret mt_X12_count rfl rfl rfl
set_option maxRecDepth 100000 in
theorem en_X12_count {Q : hS → am_H → Prop} (hQ : l1_em km Q) (c : hS) (p1 : Int32) : l1_G (wN wI) Q am_i_X12_count 0 [some (.ref 201), some (.int p1)] [] c (f_X12_count c p1) := by
  rw [f_X12_count]
  refine l1_many mt_X12_count (pc' := 2) (L' := [some (.ref 201), some (.int p1)]) (st' := [.int 0, .ref 201]) 2 rfl ?_
  refine l1_putI hQ mt_X12_count rfl (o := 201) (ci := 11) (k := 0) (a := 0) rfl rfl rfl rfl rfl rfl (fun c1 => ?_)
  refine l1_many mt_X12_count (pc' := 12) (L' := [some (.ref 201), some (.int p1)]) (st' := [.long 2, .long 0, .long p1.toInt64, .ref 201]) 5 rfl ?_
  refine l1_callS mt_X12_count mt_X12_in rfl rfl (As := [.long p1.toInt64, .long 0, .long 2]) (rest := [.ref 201]) rfl rfl rfl (st1 := fun x2 => [.int x2, .ref 201]) (fun _ => rfl) (ok_X12_in hQ c1 p1.toInt64 0 2) (fun x2 c3 => ?_)
  refine l1_many mt_X12_count (pc' := bif am_cc .ne x2 0 then 22 else 18) (L' := [some (.ref 201), some (.int p1)]) (st' := [.ref 201]) 1 rfl ?_
  refine l1_bin rfl ?_ ?_
  · refine l1_many mt_X12_count (pc' := 23) (L' := [some (.ref 201), some (.int p1)]) (st' := [.int 1, .ref 201]) 2 rfl ?_
    exact ok_X12_count_23 hQ p1 c3 1
  · refine l1_many mt_X12_count (pc' := 23) (L' := [some (.ref 201), some (.int p1)]) (st' := [.int 0, .ref 201]) 1 rfl ?_
    exact ok_X12_count_23 hQ p1 c3 0
theorem ok_X12_count {Q : hS → am_H → Prop} (hQ : l1_em km Q) (c : hS) (p1 : Int32) : l1_T wI Q am_i_X12_count [.ref 201, .int p1] c (f_X12_count c p1) := l1_of (en_X12_count hQ c p1) ⟨rfl, rfl, trivial⟩
set_option maxRecDepth 100000 in
theorem ok_X12_fault_21 {Q : hS → am_H → Prop} (hQ : l1_em km Q) (p1 : Int32) : ∀ (c : hS) (w0 : Int32), l1_G (wN wI) Q am_i_X12_fault 21 [some (.ref 201), some (.int p1)] [.int w0, .ref 201] c (f_X12_fault_21 p1 c w0) := by
  intro c w0
  rw [f_X12_fault_21]
  refine l1_many mt_X12_fault (pc' := 22) (L' := [some (.ref 201), some (.int p1)]) (st' := [.int 1, .int w0, .ref 201]) 1 rfl ?_
  refine l1_callV hQ mt_X12_fault mt_X12_refuses rfl rfl (o := 201) (ci := 11) (As := [.int w0, .int 1]) (rest := []) rfl rfl rfl rfl rfl rfl (st1 := fun x1 => [.int x1]) (fun _ => rfl) (ok_X12_refuses hQ c w0 1) (fun x1 c2 => ?_)
  refine l1_many mt_X12_fault (pc' := bif am_cc .eq x1 0 then 32 else 28) (L' := [some (.ref 201), some (.int p1)]) (st' := []) 1 rfl ?_
  refine l1_bif rfl ?_ ?_
  · refine l1_many mt_X12_fault (pc' := bif am_cc .ne p1 0 then 43 else 36) (L' := [some (.ref 201), some (.int p1)]) (st' := []) 2 rfl ?_
    refine l1_bin rfl ?_ ?_
    · refine l1_many mt_X12_fault (pc' := 37) (L' := [some (.ref 201), some (.int p1)]) (st' := [.ref 201]) 1 rfl ?_
      refine l1_getI hQ mt_X12_fault rfl (o := 201) (ci := 11) (k := 5) (a := 0) (b := 0) rfl rfl rfl rfl rfl ?_
      refine l1_many mt_X12_fault (pc' := 47) (L' := [some (.ref 201), some (.int p1)]) (st' := [.int (c2.1 201 5)]) 1 rfl ?_
      exact l1_ret mt_X12_fault rfl rfl rfl
    · refine l1_many mt_X12_fault (pc' := 44) (L' := [some (.ref 201), some (.int p1)]) (st' := [.ref 201]) 1 rfl ?_
      refine l1_getI hQ mt_X12_fault rfl (o := 201) (ci := 11) (k := 6) (a := 0) (b := 0) rfl rfl rfl rfl rfl ?_
      exact l1_ret mt_X12_fault rfl rfl rfl
  · refine l1_many mt_X12_fault (pc' := 47) (L' := [some (.ref 201), some (.int p1)]) (st' := [.int 0]) 2 rfl ?_
    exact l1_ret mt_X12_fault rfl rfl rfl
set_option maxRecDepth 100000 in
theorem en_X12_fault {Q : hS → am_H → Prop} (hQ : l1_em km Q) (c : hS) (p1 : Int32) : l1_G (wN wI) Q am_i_X12_fault 0 [some (.ref 201), some (.int p1)] [] c (f_X12_fault c p1) := by
  rw [f_X12_fault]
  refine l1_many mt_X12_fault (pc' := 2) (L' := [some (.ref 201), some (.int p1)]) (st' := [.int 0, .ref 201]) 2 rfl ?_
  refine l1_putI hQ mt_X12_fault rfl (o := 201) (ci := 11) (k := 0) (a := 0) rfl rfl rfl rfl rfl rfl (fun c1 => ?_)
  refine l1_many mt_X12_fault (pc' := 10) (L' := [some (.ref 201), some (.int p1)]) (st' := [.long 1, .long 0, .long p1.toInt64, .ref 201]) 5 rfl ?_
  refine l1_callS mt_X12_fault mt_X12_in rfl rfl (As := [.long p1.toInt64, .long 0, .long 1]) (rest := [.ref 201]) rfl rfl rfl (st1 := fun x2 => [.int x2, .ref 201]) (fun _ => rfl) (ok_X12_in hQ c1 p1.toInt64 0 1) (fun x2 c3 => ?_)
  refine l1_many mt_X12_fault (pc' := bif am_cc .ne x2 0 then 20 else 16) (L' := [some (.ref 201), some (.int p1)]) (st' := [.ref 201]) 1 rfl ?_
  refine l1_bin rfl ?_ ?_
  · refine l1_many mt_X12_fault (pc' := 21) (L' := [some (.ref 201), some (.int p1)]) (st' := [.int 1, .ref 201]) 2 rfl ?_
    exact ok_X12_fault_21 hQ p1 c3 1
  · refine l1_many mt_X12_fault (pc' := 21) (L' := [some (.ref 201), some (.int p1)]) (st' := [.int 0, .ref 201]) 1 rfl ?_
    exact ok_X12_fault_21 hQ p1 c3 0
theorem ok_X12_fault {Q : hS → am_H → Prop} (hQ : l1_em km Q) (c : hS) (p1 : Int32) : l1_T wI Q am_i_X12_fault [.ref 201, .int p1] c (f_X12_fault c p1) := l1_of (en_X12_fault hQ c p1) ⟨rfl, rfl, trivial⟩
set_option maxRecDepth 100000 in
theorem en_X12_nameAt {Q : hS → am_H → Prop} (hQ : l1_em km Q) (c : hS) (p1 : Int32) (p2 : Int32) : l1_G (wN wI) Q am_i_X12_nameAt 0 [some (.ref 201), some (.int p1), some (.int p2)] [] c (f_X12_nameAt c p1 p2) := by
  rw [f_X12_nameAt]
  refine l1_many mt_X12_nameAt (pc' := 1) (L' := [some (.ref 201), some (.int p1), some (.int p2)]) (st' := [.ref 201]) 1 rfl ?_
  refine l1_getR hQ mt_X12_nameAt rfl (o := 201) (ci := 11) (k := 10) (a := 0) (b := 0) rfl rfl rfl rfl rfl (q := 205) rfl ?_
  refine l1_many mt_X12_nameAt (pc' := 10) (L' := [some (.ref 201), some (.int p1), some (.int p2)]) (st' := [.int ((90 * p1) + p2), .ref 205]) 5 rfl ?_
  refine l1_ck (fun hx => ?_)
  refine l1_ald hQ mt_X12_nameAt rfl (o := 205) rfl hx ?_
  exact l1_ret mt_X12_nameAt rfl rfl rfl
theorem ok_X12_nameAt {Q : hS → am_H → Prop} (hQ : l1_em km Q) (c : hS) (p1 : Int32) (p2 : Int32) : l1_T wI Q am_i_X12_nameAt [.ref 201, .int p1, .int p2] c (f_X12_nameAt c p1 p2) := l1_of (en_X12_nameAt hQ c p1 p2) ⟨rfl, rfl, rfl, trivial⟩
set_option maxRecDepth 100000 in
theorem ok_X12_isName_50 {Q : hS → am_H → Prop} (hQ : l1_em km Q) (N : Nat) {k23 : hS → Int32 → Int32 → Int32 → Option (Int32 × hS)} (hk23 : ∀ c v1 v2 v3, l1_G (wN wI) Q am_i_X12_isName 23 [some (.ref 201), some (.int v1), some (.int v2), some (.int v3)] [] c (k23 c v1 v2 v3)) : ∀ (c : hS) (v1 : Int32) (v2 : Int32) (v3 : Int32) (w0 : Int32), l1_G (wN wI) Q am_i_X12_isName 50 [some (.ref 201), some (.int v1), some (.int v2), some (.int v3)] [.int w0] c (f_X12_isName_50 N k23 c v1 v2 v3 w0) := by
  intro c v1 v2 v3 w0
  rw [f_X12_isName_50]
  refine l1_many mt_X12_isName (pc' := bif am_cc .ne w0 47 then 81 else 59) (L' := [some (.ref 201), some (.int v1), some (.int v2), some (.int v3), some (.int w0)]) (st' := []) 4 rfl ?_
  refine l1_bin rfl ?_ ?_
  · refine l1_many mt_X12_isName (pc' := bif am_cc .eq v1 0 then 72 else 63) (L' := [some (.ref 201), some (.int v1), some (.int v2), some (.int v3), some (.int w0)]) (st' := []) 2 rfl ?_
    refine l1_bif rfl ?_ ?_
    · refine l1_many mt_X12_isName (pc' := 73) (L' := [some (.ref 201), some (.int v1), some (.int v2), some (.int v3), some (.int w0)]) (st' := [.int 0]) 1 rfl ?_
      exact l1_ret mt_X12_isName rfl rfl rfl
    · refine l1_many mt_X12_isName (pc' := bif am_cc .eq v2 0 then 74 else 67) (L' := [some (.ref 201), some (.int v1), some (.int v2), some (.int v3), some (.int w0)]) (st' := []) 2 rfl ?_
      refine l1_bif rfl ?_ ?_
      · refine l1_many mt_X12_isName (pc' := 23) (L' := [some (.ref 201), some (.int 0), some (.int 1), some (.int (v3 + 1)), some (.int w0)]) (st' := []) 7 rfl ?_
        refine l1_weak (m := [true, true, true, true, false]) (L' := [some (.ref 201), some (.int 0), some (.int 1), some (.int (v3 + 1))]) rfl ?_
        exact hk23 c 0 1 (v3 + 1)
      · refine l1_many mt_X12_isName (pc' := bif am_cc .ge v1 3 then 74 else 72) (L' := [some (.ref 201), some (.int v1), some (.int v2), some (.int v3), some (.int w0)]) (st' := []) 3 rfl ?_
        refine l1_bif rfl ?_ ?_
        · refine l1_many mt_X12_isName (pc' := 23) (L' := [some (.ref 201), some (.int 0), some (.int 1), some (.int (v3 + 1)), some (.int w0)]) (st' := []) 7 rfl ?_
          refine l1_weak (m := [true, true, true, true, false]) (L' := [some (.ref 201), some (.int 0), some (.int 1), some (.int (v3 + 1))]) rfl ?_
          exact hk23 c 0 1 (v3 + 1)
        · refine l1_many mt_X12_isName (pc' := 73) (L' := [some (.ref 201), some (.int v1), some (.int v2), some (.int v3), some (.int w0)]) (st' := [.int 0]) 1 rfl ?_
          exact l1_ret mt_X12_isName rfl rfl rfl
  · refine l1_many mt_X12_isName (pc' := 90) (L' := [some (.ref 201), some (.int v1), some (.int v2), some (.int v3), some (.int w0)]) (st' := [.long 126, .long 33, .long w0.toInt64]) 4 rfl ?_
    refine l1_callS mt_X12_isName mt_X12_in rfl rfl (As := [.long w0.toInt64, .long 33, .long 126]) (rest := []) rfl rfl rfl (st1 := fun x1 => [.int x1]) (fun _ => rfl) (ok_X12_in hQ c w0.toInt64 33 126) (fun x1 c2 => ?_)
    refine l1_many mt_X12_isName (pc' := bif am_cc .ne x1 0 then 98 else 96) (L' := [some (.ref 201), some (.int v1), some (.int v2), some (.int v3), some (.int w0)]) (st' := []) 1 rfl ?_
    refine l1_bin rfl ?_ ?_
    · refine l1_many mt_X12_isName (pc' := 97) (L' := [some (.ref 201), some (.int v1), some (.int v2), some (.int v3), some (.int w0)]) (st' := [.int 0]) 1 rfl ?_
      exact l1_ret mt_X12_isName rfl rfl rfl
    · refine l1_many mt_X12_isName (pc' := bif am_cc .eq v2 0 then 113 else 102) (L' := [some (.ref 201), some (.int v1), some (.int v2), some (.int v3), some (.int w0)]) (st' := []) 2 rfl ?_
      refine l1_bif rfl ?_ ?_
      · refine l1_many mt_X12_isName (pc' := 23) (L' := [some (.ref 201), some (.int (v1 + 1)), some (.int 0), some (.int (v3 + 1)), some (.int w0)]) (st' := []) 5 rfl ?_
        refine l1_weak (m := [true, true, true, true, false]) (L' := [some (.ref 201), some (.int (v1 + 1)), some (.int 0), some (.int (v3 + 1))]) rfl ?_
        exact hk23 c2 (v1 + 1) 0 (v3 + 1)
      · refine l1_many mt_X12_isName (pc' := bif am_cc .ne w0 46 then 113 else 109) (L' := [some (.ref 201), some (.int v1), some (.int v2), some (.int v3), some (.int w0)]) (st' := []) 3 rfl ?_
        refine l1_bin rfl ?_ ?_
        · refine l1_many mt_X12_isName (pc' := 23) (L' := [some (.ref 201), some (.int (v1 + 1)), some (.int 1), some (.int (v3 + 1)), some (.int w0)]) (st' := []) 6 rfl ?_
          refine l1_weak (m := [true, true, true, true, false]) (L' := [some (.ref 201), some (.int (v1 + 1)), some (.int 1), some (.int (v3 + 1))]) rfl ?_
          exact hk23 c2 (v1 + 1) 1 (v3 + 1)
        · refine l1_many mt_X12_isName (pc' := 23) (L' := [some (.ref 201), some (.int (v1 + 1)), some (.int 0), some (.int (v3 + 1)), some (.int w0)]) (st' := []) 5 rfl ?_
          refine l1_weak (m := [true, true, true, true, false]) (L' := [some (.ref 201), some (.int (v1 + 1)), some (.int 0), some (.int (v3 + 1))]) rfl ?_
          exact hk23 c2 (v1 + 1) 0 (v3 + 1)
set_option maxRecDepth 100000 in
theorem ok_X12_isName_23 {Q : hS → am_H → Prop} (hQ : l1_em km Q) (N : Nat) : ∀ n : Nat, ∀ (c : hS) (v1 : Int32) (v2 : Int32) (v3 : Int32), l1_G (wN wI) Q am_i_X12_isName 23 [some (.ref 201), some (.int v1), some (.int v2), some (.int v3)] [] c (f_X12_isName_23 N n c v1 v2 v3) := by
  intro n
  induction n with
  | zero => intro c v1 v2 v3; exact l1_none
  | succ n ih =>
    intro c v1 v2 v3
    rw [f_X12_isName_23]
    refine l1_many mt_X12_isName (pc' := 25) (L' := [some (.ref 201), some (.int v1), some (.int v2), some (.int v3)]) (st' := [.ref 201, .int v3]) 2 rfl ?_
    refine l1_getI hQ mt_X12_isName rfl (o := 201) (ci := 11) (k := 14) (a := 0) (b := 0) rfl rfl rfl rfl rfl ?_
    refine l1_many mt_X12_isName (pc' := bif am_cc .gt v3 (c.1 201 14) then 124 else 31) (L' := [some (.ref 201), some (.int v1), some (.int v2), some (.int v3)]) (st' := []) 1 rfl ?_
    refine l1_bif rfl ?_ ?_
    · refine l1_many mt_X12_isName (pc' := 125) (L' := [some (.ref 201), some (.int v1), some (.int v2), some (.int v3)]) (st' := [.int 1]) 1 rfl ?_
      exact l1_ret mt_X12_isName rfl rfl rfl
    · refine l1_many mt_X12_isName (pc' := 33) (L' := [some (.ref 201), some (.int v1), some (.int v2), some (.int v3)]) (st' := [.ref 201, .int v3]) 2 rfl ?_
      refine l1_getI hQ mt_X12_isName rfl (o := 201) (ci := 11) (k := 14) (a := 0) (b := 0) rfl rfl rfl rfl rfl ?_
      refine l1_many mt_X12_isName (pc' := bif am_cc .ge v3 (c.1 201 14) then 48 else 39) (L' := [some (.ref 201), some (.int v1), some (.int v2), some (.int v3)]) (st' := []) 1 rfl ?_
      refine l1_bif rfl ?_ ?_
      · refine l1_many mt_X12_isName (pc' := 50) (L' := [some (.ref 201), some (.int v1), some (.int v2), some (.int v3)]) (st' := [.int 47]) 1 rfl ?_
        exact ok_X12_isName_50 hQ N ih c v1 v2 v3 47
      · refine l1_many mt_X12_isName (pc' := 40) (L' := [some (.ref 201), some (.int v1), some (.int v2), some (.int v3)]) (st' := [.ref 201]) 1 rfl ?_
        refine l1_getR hQ mt_X12_isName rfl (o := 201) (ci := 11) (k := 15) (a := 0) (b := 0) rfl rfl rfl rfl rfl (q := 209) rfl ?_
        refine l1_many mt_X12_isName (pc' := 44) (L' := [some (.ref 201), some (.int v1), some (.int v2), some (.int v3)]) (st' := [.int v3, .ref 209]) 1 rfl ?_
        refine l1_ck (fun hx => ?_)
        refine l1_ald hQ mt_X12_isName rfl (o := 209) rfl hx ?_
        refine l1_many mt_X12_isName (pc' := 50) (L' := [some (.ref 201), some (.int v1), some (.int v2), some (.int v3)]) (st' := [.int (c.1 209 v3.toNatClampNeg)]) 1 rfl ?_
        exact ok_X12_isName_50 hQ N ih c v1 v2 v3 (c.1 209 v3.toNatClampNeg)
set_option maxRecDepth 100000 in
theorem en_X12_isName {Q : hS → am_H → Prop} (hQ : l1_em km Q) (N : Nat) (c : hS) : l1_G (wN wI) Q am_i_X12_isName 0 [some (.ref 201)] [] c (f_X12_isName N c) := by
  rw [f_X12_isName]
  refine l1_many mt_X12_isName (pc' := 1) (L' := [some (.ref 201)]) (st' := [.ref 201]) 1 rfl ?_
  refine l1_getI hQ mt_X12_isName rfl (o := 201) (ci := 11) (k := 14) (a := 0) (b := 0) rfl rfl rfl rfl rfl ?_
  refine l1_many mt_X12_isName (pc' := 9) (L' := [some (.ref 201)]) (st' := [.long 90, .long 1, .long ((c.1 201 14).toInt64)]) 3 rfl ?_
  refine l1_callS mt_X12_isName mt_X12_in rfl rfl (As := [.long ((c.1 201 14).toInt64), .long 1, .long 90]) (rest := []) rfl rfl rfl (st1 := fun x1 => [.int x1]) (fun _ => rfl) (ok_X12_in hQ c ((c.1 201 14).toInt64) 1 90) (fun x1 c2 => ?_)
  refine l1_many mt_X12_isName (pc' := bif am_cc .ne x1 0 then 17 else 15) (L' := [some (.ref 201)]) (st' := []) 1 rfl ?_
  refine l1_bin rfl ?_ ?_
  · refine l1_many mt_X12_isName (pc' := 16) (L' := [some (.ref 201)]) (st' := [.int 0]) 1 rfl ?_
    exact l1_ret mt_X12_isName rfl rfl rfl
  · refine l1_many mt_X12_isName (pc' := 23) (L' := [some (.ref 201), some (.int 0), some (.int 1), some (.int 0)]) (st' := []) 6 rfl ?_
    exact ok_X12_isName_23 hQ N N c2 0 1 0
theorem ok_X12_isName {Q : hS → am_H → Prop} (hQ : l1_em km Q) (N : Nat) (c : hS) : l1_T wI Q am_i_X12_isName [.ref 201] c (f_X12_isName N c) := l1_of (en_X12_isName hQ N c) ⟨rfl, trivial⟩
set_option maxRecDepth 100000 in
theorem ok_X12_isNamed_21 {Q : hS → am_H → Prop} (hQ : l1_em km Q) (N : Nat) (p1 : Int32) : ∀ n : Nat, ∀ (c : hS) (v2 : Int32) (v3 : Int32), l1_G (wN wI) Q am_i_X12_isNamed 21 [some (.ref 201), some (.int p1), some (.int v2), some (.int v3)] [] c (f_X12_isNamed_21 N p1 n c v2 v3) := by
  intro n
  induction n with
  | zero => intro c v2 v3; exact l1_none
  | succ n ih =>
    intro c v2 v3
    rw [f_X12_isNamed_21]
    refine l1_many mt_X12_isNamed (pc' := 23) (L' := [some (.ref 201), some (.int p1), some (.int v2), some (.int v3)]) (st' := [.ref 201, .int v3]) 2 rfl ?_
    refine l1_getI hQ mt_X12_isNamed rfl (o := 201) (ci := 11) (k := 14) (a := 0) (b := 0) rfl rfl rfl rfl rfl ?_
    refine l1_many mt_X12_isNamed (pc' := bif am_cc .ge v3 (c.1 201 14) then 60 else 29) (L' := [some (.ref 201), some (.int p1), some (.int v2), some (.int v3)]) (st' := []) 1 rfl ?_
    refine l1_bif rfl ?_ ?_
    · refine l1_many mt_X12_isNamed (pc' := 61) (L' := [some (.ref 201), some (.int p1), some (.int v2), some (.int v3)]) (st' := [.int v2]) 1 rfl ?_
      refine l1_ck (fun hz => ?_)
      exact l1_retZ mt_X12_isNamed rfl rfl rfl hz
    · refine l1_many mt_X12_isNamed (pc' := bif am_cc .eq v2 0 then 60 else 33) (L' := [some (.ref 201), some (.int p1), some (.int v2), some (.int v3)]) (st' := []) 2 rfl ?_
      refine l1_bif rfl ?_ ?_
      · refine l1_many mt_X12_isNamed (pc' := 61) (L' := [some (.ref 201), some (.int p1), some (.int v2), some (.int v3)]) (st' := [.int v2]) 1 rfl ?_
        refine l1_ck (fun hz => ?_)
        exact l1_retZ mt_X12_isNamed rfl rfl rfl hz
      · refine l1_many mt_X12_isNamed (pc' := 36) (L' := [some (.ref 201), some (.int p1), some (.int v2), some (.int v3)]) (st' := [.int v3, .int p1, .ref 201]) 3 rfl ?_
        refine l1_callV hQ mt_X12_isNamed mt_X12_nameAt rfl rfl (o := 201) (ci := 11) (As := [.int p1, .int v3]) (rest := []) rfl rfl rfl rfl rfl rfl (st1 := fun x1 => [.int x1]) (fun _ => rfl) (ok_X12_nameAt hQ c p1 v3) (fun x1 c2 => ?_)
        refine l1_many mt_X12_isNamed (pc' := 40) (L' := [some (.ref 201), some (.int p1), some (.int v2), some (.int v3)]) (st' := [.ref 201, .int x1]) 1 rfl ?_
        refine l1_getR hQ mt_X12_isNamed rfl (o := 201) (ci := 11) (k := 15) (a := 0) (b := 0) rfl rfl rfl rfl rfl (q := 209) rfl ?_
        refine l1_many mt_X12_isNamed (pc' := 44) (L' := [some (.ref 201), some (.int p1), some (.int v2), some (.int v3)]) (st' := [.int v3, .ref 209, .int x1]) 1 rfl ?_
        refine l1_ck (fun hx => ?_)
        refine l1_ald hQ mt_X12_isNamed rfl (o := 209) rfl hx ?_
        refine l1_many mt_X12_isNamed (pc' := bif am_cc .ne x1 (c2.1 209 v3.toNatClampNeg) then 52 else 48) (L' := [some (.ref 201), some (.int p1), some (.int v2), some (.int v3)]) (st' := []) 1 rfl ?_
        refine l1_bin rfl ?_ ?_
        · refine l1_many mt_X12_isNamed (pc' := 21) (L' := [some (.ref 201), some (.int p1), some (.int 1), some (.int (v3 + 1))]) (st' := []) 5 rfl ?_
          exact ih c2 1 (v3 + 1)
        · refine l1_many mt_X12_isNamed (pc' := 21) (L' := [some (.ref 201), some (.int p1), some (.int 0), some (.int (v3 + 1))]) (st' := []) 4 rfl ?_
          exact ih c2 0 (v3 + 1)
set_option maxRecDepth 100000 in
theorem en_X12_isNamed {Q : hS → am_H → Prop} (hQ : l1_em km Q) (N : Nat) (c : hS) (p1 : Int32) : l1_G (wN wI) Q am_i_X12_isNamed 0 [some (.ref 201), some (.int p1)] [] c (f_X12_isNamed N c p1) := by
  rw [f_X12_isNamed]
  refine l1_many mt_X12_isNamed (pc' := 1) (L' := [some (.ref 201), some (.int p1)]) (st' := [.ref 201]) 1 rfl ?_
  refine l1_getR hQ mt_X12_isNamed rfl (o := 201) (ci := 11) (k := 9) (a := 0) (b := 0) rfl rfl rfl rfl rfl (q := 204) rfl ?_
  refine l1_many mt_X12_isNamed (pc' := 5) (L' := [some (.ref 201), some (.int p1)]) (st' := [.int p1, .ref 204]) 1 rfl ?_
  refine l1_ck (fun hx => ?_)
  refine l1_ald hQ mt_X12_isNamed rfl (o := 204) rfl hx ?_
  refine l1_many mt_X12_isNamed (pc' := 7) (L' := [some (.ref 201), some (.int p1)]) (st' := [.ref 201, .int (c.1 204 p1.toNatClampNeg)]) 1 rfl ?_
  refine l1_getI hQ mt_X12_isNamed rfl (o := 201) (ci := 11) (k := 14) (a := 0) (b := 0) rfl rfl rfl rfl rfl ?_
  refine l1_many mt_X12_isNamed (pc' := bif am_cc .ne (c.1 204 p1.toNatClampNeg) (c.1 201 14) then 17 else 13) (L' := [some (.ref 201), some (.int p1)]) (st' := []) 1 rfl ?_
  refine l1_bin rfl ?_ ?_
  · refine l1_many mt_X12_isNamed (pc' := 21) (L' := [some (.ref 201), some (.int p1), some (.int 1), some (.int 0)]) (st' := []) 5 rfl ?_
    exact ok_X12_isNamed_21 hQ N p1 N c 1 0
  · refine l1_many mt_X12_isNamed (pc' := 21) (L' := [some (.ref 201), some (.int p1), some (.int 0), some (.int 0)]) (st' := []) 4 rfl ?_
    exact ok_X12_isNamed_21 hQ N p1 N c 0 0
theorem ok_X12_isNamed {Q : hS → am_H → Prop} (hQ : l1_em km Q) (N : Nat) (c : hS) (p1 : Int32) : l1_T wI Q am_i_X12_isNamed [.ref 201, .int p1] c (f_X12_isNamed N c p1) := l1_of (en_X12_isNamed hQ N c p1) ⟨rfl, rfl, trivial⟩
set_option maxRecDepth 100000 in
theorem ok_X12_isUnderNew_37 {Q : hS → am_H → Prop} (hQ : l1_em km Q) (N : Nat) (p1 : Int32) : ∀ n : Nat, ∀ (c : hS) (v2 : Int32) (v3 : Int32), l1_G (wN wI) Q am_i_X12_isUnderNew 37 [some (.ref 201), some (.int p1), some (.int v2), some (.int v3)] [] c (f_X12_isUnderNew_37 N p1 n c v2 v3) := by
  intro n
  induction n with
  | zero => intro c v2 v3; exact l1_none
  | succ n ih =>
    intro c v2 v3
    rw [f_X12_isUnderNew_37]
    refine l1_many mt_X12_isUnderNew (pc' := 39) (L' := [some (.ref 201), some (.int p1), some (.int v2), some (.int v3)]) (st' := [.ref 201, .int v3]) 2 rfl ?_
    refine l1_getI hQ mt_X12_isUnderNew rfl (o := 201) (ci := 11) (k := 14) (a := 0) (b := 0) rfl rfl rfl rfl rfl ?_
    refine l1_many mt_X12_isUnderNew (pc' := bif am_cc .ge v3 (c.1 201 14) then 76 else 45) (L' := [some (.ref 201), some (.int p1), some (.int v2), some (.int v3)]) (st' := []) 1 rfl ?_
    refine l1_bif rfl ?_ ?_
    · refine l1_many mt_X12_isUnderNew (pc' := 77) (L' := [some (.ref 201), some (.int p1), some (.int v2), some (.int v3)]) (st' := [.int v2]) 1 rfl ?_
      refine l1_ck (fun hz => ?_)
      exact l1_retZ mt_X12_isUnderNew rfl rfl rfl hz
    · refine l1_many mt_X12_isUnderNew (pc' := bif am_cc .eq v2 0 then 76 else 49) (L' := [some (.ref 201), some (.int p1), some (.int v2), some (.int v3)]) (st' := []) 2 rfl ?_
      refine l1_bif rfl ?_ ?_
      · refine l1_many mt_X12_isUnderNew (pc' := 77) (L' := [some (.ref 201), some (.int p1), some (.int v2), some (.int v3)]) (st' := [.int v2]) 1 rfl ?_
        refine l1_ck (fun hz => ?_)
        exact l1_retZ mt_X12_isUnderNew rfl rfl rfl hz
      · refine l1_many mt_X12_isUnderNew (pc' := 52) (L' := [some (.ref 201), some (.int p1), some (.int v2), some (.int v3)]) (st' := [.int v3, .int p1, .ref 201]) 3 rfl ?_
        refine l1_callV hQ mt_X12_isUnderNew mt_X12_nameAt rfl rfl (o := 201) (ci := 11) (As := [.int p1, .int v3]) (rest := []) rfl rfl rfl rfl rfl rfl (st1 := fun x1 => [.int x1]) (fun _ => rfl) (ok_X12_nameAt hQ c p1 v3) (fun x1 c2 => ?_)
        refine l1_many mt_X12_isUnderNew (pc' := 56) (L' := [some (.ref 201), some (.int p1), some (.int v2), some (.int v3)]) (st' := [.ref 201, .int x1]) 1 rfl ?_
        refine l1_getR hQ mt_X12_isUnderNew rfl (o := 201) (ci := 11) (k := 15) (a := 0) (b := 0) rfl rfl rfl rfl rfl (q := 209) rfl ?_
        refine l1_many mt_X12_isUnderNew (pc' := 60) (L' := [some (.ref 201), some (.int p1), some (.int v2), some (.int v3)]) (st' := [.int v3, .ref 209, .int x1]) 1 rfl ?_
        refine l1_ck (fun hx => ?_)
        refine l1_ald hQ mt_X12_isUnderNew rfl (o := 209) rfl hx ?_
        refine l1_many mt_X12_isUnderNew (pc' := bif am_cc .ne x1 (c2.1 209 v3.toNatClampNeg) then 68 else 64) (L' := [some (.ref 201), some (.int p1), some (.int v2), some (.int v3)]) (st' := []) 1 rfl ?_
        refine l1_bin rfl ?_ ?_
        · refine l1_many mt_X12_isUnderNew (pc' := 37) (L' := [some (.ref 201), some (.int p1), some (.int 1), some (.int (v3 + 1))]) (st' := []) 5 rfl ?_
          exact ih c2 1 (v3 + 1)
        · refine l1_many mt_X12_isUnderNew (pc' := 37) (L' := [some (.ref 201), some (.int p1), some (.int 0), some (.int (v3 + 1))]) (st' := []) 4 rfl ?_
          exact ih c2 0 (v3 + 1)
set_option maxRecDepth 100000 in
theorem en_X12_isUnderNew {Q : hS → am_H → Prop} (hQ : l1_em km Q) (N : Nat) (c : hS) (p1 : Int32) : l1_G (wN wI) Q am_i_X12_isUnderNew 0 [some (.ref 201), some (.int p1)] [] c (f_X12_isUnderNew N c p1) := by
  rw [f_X12_isUnderNew]
  refine l1_many mt_X12_isUnderNew (pc' := 1) (L' := [some (.ref 201), some (.int p1)]) (st' := [.ref 201]) 1 rfl ?_
  refine l1_getR hQ mt_X12_isUnderNew rfl (o := 201) (ci := 11) (k := 9) (a := 0) (b := 0) rfl rfl rfl rfl rfl (q := 204) rfl ?_
  refine l1_many mt_X12_isUnderNew (pc' := 5) (L' := [some (.ref 201), some (.int p1)]) (st' := [.int p1, .ref 204]) 1 rfl ?_
  refine l1_ck (fun hx => ?_)
  refine l1_ald hQ mt_X12_isUnderNew rfl (o := 204) rfl hx ?_
  refine l1_many mt_X12_isUnderNew (pc' := 7) (L' := [some (.ref 201), some (.int p1)]) (st' := [.ref 201, .int (c.1 204 p1.toNatClampNeg)]) 1 rfl ?_
  refine l1_getI hQ mt_X12_isUnderNew rfl (o := 201) (ci := 11) (k := 14) (a := 0) (b := 0) rfl rfl rfl rfl rfl ?_
  refine l1_many mt_X12_isUnderNew (pc' := bif am_cc .le (c.1 204 p1.toNatClampNeg) ((c.1 201 14) + 1) then 33 else 15) (L' := [some (.ref 201), some (.int p1)]) (st' := []) 3 rfl ?_
  refine l1_bif rfl ?_ ?_
  · refine l1_many mt_X12_isUnderNew (pc' := 37) (L' := [some (.ref 201), some (.int p1), some (.int 0), some (.int 0)]) (st' := []) 4 rfl ?_
    exact ok_X12_isUnderNew_37 hQ N p1 N c 0 0
  · refine l1_many mt_X12_isUnderNew (pc' := 18) (L' := [some (.ref 201), some (.int p1)]) (st' := [.ref 201, .int p1, .ref 201]) 3 rfl ?_
    refine l1_getI hQ mt_X12_isUnderNew rfl (o := 201) (ci := 11) (k := 14) (a := 0) (b := 0) rfl rfl rfl rfl rfl ?_
    refine l1_callV hQ mt_X12_isUnderNew mt_X12_nameAt rfl rfl (o := 201) (ci := 11) (As := [.int p1, .int (c.1 201 14)]) (rest := []) rfl rfl rfl rfl rfl rfl (st1 := fun x1 => [.int x1]) (fun _ => rfl) (ok_X12_nameAt hQ c p1 (c.1 201 14)) (fun x1 c2 => ?_)
    refine l1_many mt_X12_isUnderNew (pc' := bif am_cc .ne x1 47 then 33 else 29) (L' := [some (.ref 201), some (.int p1)]) (st' := []) 2 rfl ?_
    refine l1_bin rfl ?_ ?_
    · refine l1_many mt_X12_isUnderNew (pc' := 37) (L' := [some (.ref 201), some (.int p1), some (.int 1), some (.int 0)]) (st' := []) 5 rfl ?_
      exact ok_X12_isUnderNew_37 hQ N p1 N c2 1 0
    · refine l1_many mt_X12_isUnderNew (pc' := 37) (L' := [some (.ref 201), some (.int p1), some (.int 0), some (.int 0)]) (st' := []) 4 rfl ?_
      exact ok_X12_isUnderNew_37 hQ N p1 N c2 0 0
theorem ok_X12_isUnderNew {Q : hS → am_H → Prop} (hQ : l1_em km Q) (N : Nat) (c : hS) (p1 : Int32) : l1_T wI Q am_i_X12_isUnderNew [.ref 201, .int p1] c (f_X12_isUnderNew N c p1) := l1_of (en_X12_isUnderNew hQ N c p1) ⟨rfl, rfl, trivial⟩
set_option maxRecDepth 100000 in
theorem ok_X12_isNewUnder_37 {Q : hS → am_H → Prop} (hQ : l1_em km Q) (N : Nat) (p1 : Int32) : ∀ n : Nat, ∀ (c : hS) (v2 : Int32) (v3 : Int32) (v4 : Int32), l1_G (wN wI) Q am_i_X12_isNewUnder 37 [some (.ref 201), some (.int p1), some (.int v2), some (.int v3), some (.int v4)] [] c (f_X12_isNewUnder_37 N p1 n c v2 v3 v4) := by
  intro n
  induction n with
  | zero => intro c v2 v3 v4; exact l1_none
  | succ n ih =>
    intro c v2 v3 v4
    rw [f_X12_isNewUnder_37]
    refine l1_many mt_X12_isNewUnder (pc' := bif am_cc .ge v4 v2 then 76 else 43) (L' := [some (.ref 201), some (.int p1), some (.int v2), some (.int v3), some (.int v4)]) (st' := []) 3 rfl ?_
    refine l1_bif rfl ?_ ?_
    · refine l1_many mt_X12_isNewUnder (pc' := 77) (L' := [some (.ref 201), some (.int p1), some (.int v2), some (.int v3), some (.int v4)]) (st' := [.int v3]) 1 rfl ?_
      refine l1_ck (fun hz => ?_)
      exact l1_retZ mt_X12_isNewUnder rfl rfl rfl hz
    · refine l1_many mt_X12_isNewUnder (pc' := bif am_cc .eq v3 0 then 76 else 47) (L' := [some (.ref 201), some (.int p1), some (.int v2), some (.int v3), some (.int v4)]) (st' := []) 2 rfl ?_
      refine l1_bif rfl ?_ ?_
      · refine l1_many mt_X12_isNewUnder (pc' := 77) (L' := [some (.ref 201), some (.int p1), some (.int v2), some (.int v3), some (.int v4)]) (st' := [.int v3]) 1 rfl ?_
        refine l1_ck (fun hz => ?_)
        exact l1_retZ mt_X12_isNewUnder rfl rfl rfl hz
      · refine l1_many mt_X12_isNewUnder (pc' := 51) (L' := [some (.ref 201), some (.int p1), some (.int v2), some (.int v3), some (.int v4)]) (st' := [.int v4, .int p1, .ref 201]) 3 rfl ?_
        refine l1_callV hQ mt_X12_isNewUnder mt_X12_nameAt rfl rfl (o := 201) (ci := 11) (As := [.int p1, .int v4]) (rest := []) rfl rfl rfl rfl rfl rfl (st1 := fun x1 => [.int x1]) (fun _ => rfl) (ok_X12_nameAt hQ c p1 v4) (fun x1 c2 => ?_)
        refine l1_many mt_X12_isNewUnder (pc' := 55) (L' := [some (.ref 201), some (.int p1), some (.int v2), some (.int v3), some (.int v4)]) (st' := [.ref 201, .int x1]) 1 rfl ?_
        refine l1_getR hQ mt_X12_isNewUnder rfl (o := 201) (ci := 11) (k := 15) (a := 0) (b := 0) rfl rfl rfl rfl rfl (q := 209) rfl ?_
        refine l1_many mt_X12_isNewUnder (pc' := 60) (L' := [some (.ref 201), some (.int p1), some (.int v2), some (.int v3), some (.int v4)]) (st' := [.int v4, .ref 209, .int x1]) 1 rfl ?_
        refine l1_ck (fun hx => ?_)
        refine l1_ald hQ mt_X12_isNewUnder rfl (o := 209) rfl hx ?_
        refine l1_many mt_X12_isNewUnder (pc' := bif am_cc .ne x1 (c2.1 209 v4.toNatClampNeg) then 68 else 64) (L' := [some (.ref 201), some (.int p1), some (.int v2), some (.int v3), some (.int v4)]) (st' := []) 1 rfl ?_
        refine l1_bin rfl ?_ ?_
        · refine l1_many mt_X12_isNewUnder (pc' := 37) (L' := [some (.ref 201), some (.int p1), some (.int v2), some (.int 1), some (.int (v4 + 1))]) (st' := []) 5 rfl ?_
          exact ih c2 v2 1 (v4 + 1)
        · refine l1_many mt_X12_isNewUnder (pc' := 37) (L' := [some (.ref 201), some (.int p1), some (.int v2), some (.int 0), some (.int (v4 + 1))]) (st' := []) 4 rfl ?_
          exact ih c2 v2 0 (v4 + 1)
set_option maxRecDepth 100000 in
theorem en_X12_isNewUnder {Q : hS → am_H → Prop} (hQ : l1_em km Q) (N : Nat) (c : hS) (p1 : Int32) : l1_G (wN wI) Q am_i_X12_isNewUnder 0 [some (.ref 201), some (.int p1)] [] c (f_X12_isNewUnder N c p1) := by
  rw [f_X12_isNewUnder]
  refine l1_many mt_X12_isNewUnder (pc' := 1) (L' := [some (.ref 201), some (.int p1)]) (st' := [.ref 201]) 1 rfl ?_
  refine l1_getR hQ mt_X12_isNewUnder rfl (o := 201) (ci := 11) (k := 9) (a := 0) (b := 0) rfl rfl rfl rfl rfl (q := 204) rfl ?_
  refine l1_many mt_X12_isNewUnder (pc' := 5) (L' := [some (.ref 201), some (.int p1)]) (st' := [.int p1, .ref 204]) 1 rfl ?_
  refine l1_ck (fun hx => ?_)
  refine l1_ald hQ mt_X12_isNewUnder rfl (o := 204) rfl hx ?_
  refine l1_many mt_X12_isNewUnder (pc' := 8) (L' := [some (.ref 201), some (.int p1), some (.int (c.1 204 p1.toNatClampNeg))]) (st' := [.ref 201]) 2 rfl ?_
  refine l1_getI hQ mt_X12_isNewUnder rfl (o := 201) (ci := 11) (k := 14) (a := 0) (b := 0) rfl rfl rfl rfl rfl ?_
  refine l1_many mt_X12_isNewUnder (pc' := bif am_cc .le (c.1 201 14) ((c.1 204 p1.toNatClampNeg) + 1) then 32 else 17) (L' := [some (.ref 201), some (.int p1), some (.int (c.1 204 p1.toNatClampNeg))]) (st' := []) 4 rfl ?_
  refine l1_bif rfl ?_ ?_
  · refine l1_many mt_X12_isNewUnder (pc' := 37) (L' := [some (.ref 201), some (.int p1), some (.int (c.1 204 p1.toNatClampNeg)), some (.int 0), some (.int 0)]) (st' := []) 4 rfl ?_
    exact ok_X12_isNewUnder_37 hQ N p1 N c (c.1 204 p1.toNatClampNeg) 0 0
  · refine l1_many mt_X12_isNewUnder (pc' := 18) (L' := [some (.ref 201), some (.int p1), some (.int (c.1 204 p1.toNatClampNeg))]) (st' := [.ref 201]) 1 rfl ?_
    refine l1_getR hQ mt_X12_isNewUnder rfl (o := 201) (ci := 11) (k := 15) (a := 0) (b := 0) rfl rfl rfl rfl rfl (q := 209) rfl ?_
    refine l1_many mt_X12_isNewUnder (pc' := 22) (L' := [some (.ref 201), some (.int p1), some (.int (c.1 204 p1.toNatClampNeg))]) (st' := [.int (c.1 204 p1.toNatClampNeg), .ref 209]) 1 rfl ?_
    refine l1_ck (fun hx => ?_)
    refine l1_ald hQ mt_X12_isNewUnder rfl (o := 209) rfl hx ?_
    refine l1_many mt_X12_isNewUnder (pc' := bif am_cc .ne (c.1 209 (c.1 204 p1.toNatClampNeg).toNatClampNeg) 47 then 32 else 28) (L' := [some (.ref 201), some (.int p1), some (.int (c.1 204 p1.toNatClampNeg))]) (st' := []) 2 rfl ?_
    refine l1_bin rfl ?_ ?_
    · refine l1_many mt_X12_isNewUnder (pc' := 37) (L' := [some (.ref 201), some (.int p1), some (.int (c.1 204 p1.toNatClampNeg)), some (.int 1), some (.int 0)]) (st' := []) 5 rfl ?_
      exact ok_X12_isNewUnder_37 hQ N p1 N c (c.1 204 p1.toNatClampNeg) 1 0
    · refine l1_many mt_X12_isNewUnder (pc' := 37) (L' := [some (.ref 201), some (.int p1), some (.int (c.1 204 p1.toNatClampNeg)), some (.int 0), some (.int 0)]) (st' := []) 4 rfl ?_
      exact ok_X12_isNewUnder_37 hQ N p1 N c (c.1 204 p1.toNatClampNeg) 0 0
theorem ok_X12_isNewUnder {Q : hS → am_H → Prop} (hQ : l1_em km Q) (N : Nat) (c : hS) (p1 : Int32) : l1_T wI Q am_i_X12_isNewUnder [.ref 201, .int p1] c (f_X12_isNewUnder N c p1) := l1_of (en_X12_isNewUnder hQ N c p1) ⟨rfl, rfl, trivial⟩
set_option maxRecDepth 100000 in
theorem ok_X12_seek_2 {Q : hS → am_H → Prop} (hQ : l1_em km Q) (N : Nat) (p1 : Int32) (p2 : Int32) : ∀ n : Nat, ∀ (c : hS) (v3 : Int32), l1_G (wN wI) Q am_i_X12_seek 2 [some (.ref 201), some (.int p1), some (.int p2), some (.int v3)] [] c (f_X12_seek_2 N p1 p2 n c v3) := by
  intro n
  induction n with
  | zero => intro c v3; exact l1_none
  | succ n ih =>
    intro c v3
    rw [f_X12_seek_2]
    refine l1_many mt_X12_seek (pc' := bif am_cc .ge v3 (p1 + p2) then 25 else 9) (L' := [some (.ref 201), some (.int p1), some (.int p2), some (.int v3)]) (st' := []) 5 rfl ?_
    refine l1_bif rfl ?_ ?_
    · refine l1_many mt_X12_seek (pc' := 26) (L' := [some (.ref 201), some (.int p1), some (.int p2), some (.int v3)]) (st' := [.int (-1)]) 1 rfl ?_
      exact l1_ret mt_X12_seek rfl rfl rfl
    · refine l1_many mt_X12_seek (pc' := 11) (L' := [some (.ref 201), some (.int p1), some (.int p2), some (.int v3)]) (st' := [.int v3, .ref 201]) 2 rfl ?_
      refine l1_callV hQ mt_X12_seek mt_X12_isNamed rfl rfl (o := 201) (ci := 11) (As := [.int v3]) (rest := []) rfl rfl rfl rfl rfl rfl (st1 := fun x1 => [.int x1]) (fun _ => rfl) (ok_X12_isNamed hQ N c v3) (fun x1 c2 => ?_)
      refine l1_many mt_X12_seek (pc' := bif am_cc .eq x1 0 then 19 else 17) (L' := [some (.ref 201), some (.int p1), some (.int p2), some (.int v3)]) (st' := []) 1 rfl ?_
      refine l1_bif rfl ?_ ?_
      · refine l1_many mt_X12_seek (pc' := 2) (L' := [some (.ref 201), some (.int p1), some (.int p2), some (.int (v3 + 1))]) (st' := []) 2 rfl ?_
        exact ih c2 (v3 + 1)
      · refine l1_many mt_X12_seek (pc' := 18) (L' := [some (.ref 201), some (.int p1), some (.int p2), some (.int v3)]) (st' := [.int v3]) 1 rfl ?_
        exact l1_ret mt_X12_seek rfl rfl rfl
set_option maxRecDepth 100000 in
theorem en_X12_seek {Q : hS → am_H → Prop} (hQ : l1_em km Q) (N : Nat) (c : hS) (p1 : Int32) (p2 : Int32) : l1_G (wN wI) Q am_i_X12_seek 0 [some (.ref 201), some (.int p1), some (.int p2)] [] c (f_X12_seek N c p1 p2) := by
  rw [f_X12_seek]
  refine l1_many mt_X12_seek (pc' := 2) (L' := [some (.ref 201), some (.int p1), some (.int p2), some (.int p1)]) (st' := []) 2 rfl ?_
  exact ok_X12_seek_2 hQ N p1 p2 N c p1
theorem ok_X12_seek {Q : hS → am_H → Prop} (hQ : l1_em km Q) (N : Nat) (c : hS) (p1 : Int32) (p2 : Int32) : l1_T wI Q am_i_X12_seek [.ref 201, .int p1, .int p2] c (f_X12_seek N c p1 p2) := l1_of (en_X12_seek hQ N c p1 p2) ⟨rfl, rfl, rfl, trivial⟩
end
