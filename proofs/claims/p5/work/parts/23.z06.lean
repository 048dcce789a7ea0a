/-! THAT THE MACHINE FOLLOWS THEM, printed by gen_l1.py -/
set_option maxRecDepth 100000 in
theorem ok_X5_isEntry_132 {Q : hS → am_H → Prop} (hQ : l1_em kc Q) (N : Nat) (p1 : Int32) : ∀ (c : hS), l1_G (wN wI) Q am_i_X5_isEntry 132 [some (.ref 36), some (.int p1)] [] c (f_X5_isEntry_132 N p1 c) := by
  intro c
  rw [f_X5_isEntry_132]
  refine l1_many mt_X5_isEntry (pc' := 140) (L' := [some (.ref 36), some (.int p1)]) (st' := [.int 6, .int 2, .int (p1 + 34), .ref 36]) 6 rfl ?_
  refine l1_callV hQ mt_X5_isEntry mt_X5_isZero rfl rfl (o := 36) (ci := 4) (As := [.int (p1 + 34), .int 2, .int 6]) (rest := []) rfl rfl rfl rfl rfl rfl (st1 := fun x1 => [.int x1]) (fun _ => rfl) (ok_X5_isZero hQ N c (p1 + 34) 2 6) (fun x1 c2 => ?_)
  refine l1_many mt_X5_isEntry (pc' := bif am_cc .ne x1 0 then 148 else 146) (L' := [some (.ref 36), some (.int p1)]) (st' := []) 1 rfl ?_
  refine l1_bin rfl ?_ ?_
  · refine l1_many mt_X5_isEntry (pc' := 147) (L' := [some (.ref 36), some (.int p1)]) (st' := [.int 0]) 1 rfl ?_
    exact l1_ret mt_X5_isEntry rfl rfl rfl
  · refine l1_many mt_X5_isEntry (pc' := 150) (L' := [some (.ref 36), some (.int p1)]) (st' := [.ref 36, .ref 36]) 2 rfl ?_
    refine l1_getR hQ mt_X5_isEntry rfl (o := 36) (ci := 4) (k := 0) (a := 1) (b := 2) rfl rfl rfl rfl rfl (q := 3) rfl ?_
    refine l1_many mt_X5_isEntry (pc' := 158) (L' := [some (.ref 36), some (.int p1)]) (st' := [.int 2, .int (p1 + 28), .ref 3, .ref 36]) 4 rfl ?_
    refine l1_callV hQ mt_X5_isEntry mt_X2_little rfl rfl (o := 3) (ci := 1) (As := [.int (p1 + 28), .int 2]) (rest := [.ref 36]) rfl rfl rfl rfl rfl rfl (st1 := fun x3 => [.long x3, .ref 36]) (fun _ => rfl) (ok_X2_little hQ N c2 3 (p1 + 28) 2 rfl) (fun x3 c4 => ?_)
    refine l1_many mt_X5_isEntry (pc' := 162) (L' := [some (.ref 36), some (.int p1)]) (st' := [.int x3.toInt32, .ref 36]) 1 rfl ?_
    refine l1_putI hQ mt_X5_isEntry rfl (o := 36) (ci := 4) (k := 9) (a := 0) rfl rfl rfl rfl rfl rfl (fun c5 => ?_)
    refine l1_many mt_X5_isEntry (pc' := 171) (L' := [some (.ref 36), some (.int p1)]) (st' := [.ref 36, .int (p1 + 46), .ref 36]) 5 rfl ?_
    refine l1_getI hQ mt_X5_isEntry rfl (o := 36) (ci := 4) (k := 9) (a := 0) (b := 0) rfl rfl rfl rfl rfl ?_
    refine l1_many mt_X5_isEntry (pc' := 176) (L' := [some (.ref 36), some (.int p1)]) (st' := [.ref 36, .int ((p1 + 46) + (c5.1 36 9)), .ref 36]) 2 rfl ?_
    refine l1_getR hQ mt_X5_isEntry rfl (o := 36) (ci := 4) (k := 0) (a := 1) (b := 2) rfl rfl rfl rfl rfl (q := 3) rfl ?_
    refine l1_many mt_X5_isEntry (pc' := 184) (L' := [some (.ref 36), some (.int p1)]) (st' := [.int 2, .int (p1 + 30), .ref 3, .int ((p1 + 46) + (c5.1 36 9)), .ref 36]) 4 rfl ?_
    refine l1_callV hQ mt_X5_isEntry mt_X2_little rfl rfl (o := 3) (ci := 1) (As := [.int (p1 + 30), .int 2]) (rest := [.int ((p1 + 46) + (c5.1 36 9)), .ref 36]) rfl rfl rfl rfl rfl rfl (st1 := fun x6 => [.long x6, .int ((p1 + 46) + (c5.1 36 9)), .ref 36]) (fun _ => rfl) (ok_X2_little hQ N c5 3 (p1 + 30) 2 rfl) (fun x6 c7 => ?_)
    refine l1_many mt_X5_isEntry (pc' := 190) (L' := [some (.ref 36), some (.int p1)]) (st' := [.ref 36, .int (((p1 + 46) + (c5.1 36 9)) + x6.toInt32), .ref 36]) 3 rfl ?_
    refine l1_getR hQ mt_X5_isEntry rfl (o := 36) (ci := 4) (k := 0) (a := 1) (b := 2) rfl rfl rfl rfl rfl (q := 3) rfl ?_
    refine l1_many mt_X5_isEntry (pc' := 198) (L' := [some (.ref 36), some (.int p1)]) (st' := [.int 2, .int (p1 + 32), .ref 3, .int (((p1 + 46) + (c5.1 36 9)) + x6.toInt32), .ref 36]) 4 rfl ?_
    refine l1_callV hQ mt_X5_isEntry mt_X2_little rfl rfl (o := 3) (ci := 1) (As := [.int (p1 + 32), .int 2]) (rest := [.int (((p1 + 46) + (c5.1 36 9)) + x6.toInt32), .ref 36]) rfl rfl rfl rfl rfl rfl (st1 := fun x8 => [.long x8, .int (((p1 + 46) + (c5.1 36 9)) + x6.toInt32), .ref 36]) (fun _ => rfl) (ok_X2_little hQ N c7 3 (p1 + 32) 2 rfl) (fun x8 c9 => ?_)
    refine l1_many mt_X5_isEntry (pc' := 203) (L' := [some (.ref 36), some (.int p1)]) (st' := [.int ((((p1 + 46) + (c5.1 36 9)) + x6.toInt32) + x8.toInt32), .ref 36]) 2 rfl ?_
    refine l1_putI hQ mt_X5_isEntry rfl (o := 36) (ci := 4) (k := 10) (a := 0) rfl rfl rfl rfl rfl rfl (fun c10 => ?_)
    refine l1_many mt_X5_isEntry (pc' := 207) (L' := [some (.ref 36), some (.int p1)]) (st' := [.ref 36]) 1 rfl ?_
    refine l1_getI hQ mt_X5_isEntry rfl (o := 36) (ci := 4) (k := 10) (a := 0) (b := 0) rfl rfl rfl rfl rfl ?_
    refine l1_many mt_X5_isEntry (pc' := 211) (L' := [some (.ref 36), some (.int p1)]) (st' := [.ref 36, .int (c10.1 36 10)]) 1 rfl ?_
    refine l1_getI hQ mt_X5_isEntry rfl (o := 36) (ci := 4) (k := 6) (a := 0) (b := 0) rfl rfl rfl rfl rfl ?_
    refine l1_many mt_X5_isEntry (pc' := bif am_cc .le (c10.1 36 10) (c10.1 36 6) then 230 else 217) (L' := [some (.ref 36), some (.int p1)]) (st' := []) 1 rfl ?_
    refine l1_bif rfl ?_ ?_
    · refine l1_many mt_X5_isEntry (pc' := 235) (L' := [some (.ref 36), some (.int p1)]) (st' := [.int 1]) 2 rfl ?_
      exact l1_ret mt_X5_isEntry rfl rfl rfl
    · refine l1_many mt_X5_isEntry (pc' := 218) (L' := [some (.ref 36), some (.int p1)]) (st' := [.ref 36]) 1 rfl ?_
      refine l1_getR hQ mt_X5_isEntry rfl (o := 36) (ci := 4) (k := 2) (a := 1) (b := 2) rfl rfl rfl rfl rfl (q := 9) rfl ?_
      refine l1_many mt_X5_isEntry (pc' := 224) (L' := [some (.ref 36), some (.int p1)]) (st' := [.int p1, .int 12, .ref 9]) 2 rfl ?_
      refine l1_callV hQ mt_X5_isEntry mt_X6_tell rfl rfl (o := 9) (ci := 5) (As := [.int 12, .int p1]) (rest := []) rfl rfl rfl rfl rfl rfl (st1 := fun x11 => [.int x11]) (fun _ => rfl) (ok_X6_tell hQ c10 12 p1) (fun x11 c12 => ?_)
      refine l1_many mt_X5_isEntry (pc' := bif am_cc .eq x11 0 then 234 else 230) (L' := [some (.ref 36), some (.int p1)]) (st' := []) 1 rfl ?_
      refine l1_bif rfl ?_ ?_
      · refine l1_many mt_X5_isEntry (pc' := 235) (L' := [some (.ref 36), some (.int p1)]) (st' := [.int 0]) 1 rfl ?_
        exact l1_ret mt_X5_isEntry rfl rfl rfl
      · refine l1_many mt_X5_isEntry (pc' := 235) (L' := [some (.ref 36), some (.int p1)]) (st' := [.int 1]) 2 rfl ?_
        exact l1_ret mt_X5_isEntry rfl rfl rfl
set_option maxRecDepth 100000 in
theorem en_X5_isEntry {Q : hS → am_H → Prop} (hQ : l1_em kc Q) (N : Nat) (c : hS) (p1 : Int32) : l1_G (wN wI) Q am_i_X5_isEntry 0 [some (.ref 36), some (.int p1)] [] c (f_X5_isEntry N c p1) := by
  rw [f_X5_isEntry]
  refine l1_many mt_X5_isEntry (pc' := 5) (L' := [some (.ref 36), some (.int p1)]) (st' := [.ref 36, .int (p1 + 46)]) 4 rfl ?_
  refine l1_getI hQ mt_X5_isEntry rfl (o := 36) (ci := 4) (k := 6) (a := 0) (b := 0) rfl rfl rfl rfl rfl ?_
  refine l1_many mt_X5_isEntry (pc' := bif am_cc .le (p1 + 46) (c.1 36 6) then 22 else 11) (L' := [some (.ref 36), some (.int p1)]) (st' := []) 1 rfl ?_
  refine l1_bif rfl ?_ ?_
  · refine l1_many mt_X5_isEntry (pc' := 28) (L' := [some (.ref 36), some (.int p1)]) (st' := [.int 3, .ref 1000000004, .int p1, .ref 36]) 4 rfl ?_
    refine l1_callV hQ mt_X5_isEntry mt_X0_isMarked rfl rfl (o := 36) (ci := 4) (As := [.int p1, .ref 1000000004, .int 3]) (rest := []) rfl rfl rfl rfl rfl rfl (st1 := fun x1 => [.int x1]) (fun _ => rfl) (ok_X0_isMarked_36 hQ N c p1 sa4 3 oa4) (fun x1 c2 => ?_)
    refine l1_many mt_X5_isEntry (pc' := bif am_cc .ne x1 0 then 36 else 34) (L' := [some (.ref 36), some (.int p1)]) (st' := []) 1 rfl ?_
    refine l1_bin rfl ?_ ?_
    · refine l1_many mt_X5_isEntry (pc' := 35) (L' := [some (.ref 36), some (.int p1)]) (st' := [.int 0]) 1 rfl ?_
      exact l1_ret mt_X5_isEntry rfl rfl rfl
    · refine l1_many mt_X5_isEntry (pc' := 37) (L' := [some (.ref 36), some (.int p1)]) (st' := [.ref 36]) 1 rfl ?_
      refine l1_getR hQ mt_X5_isEntry rfl (o := 36) (ci := 4) (k := 0) (a := 1) (b := 2) rfl rfl rfl rfl rfl (q := 3) rfl ?_
      refine l1_many mt_X5_isEntry (pc' := 45) (L' := [some (.ref 36), some (.int p1)]) (st' := [.int 2, .int (p1 + 6), .ref 3]) 4 rfl ?_
      refine l1_callV hQ mt_X5_isEntry mt_X2_little rfl rfl (o := 3) (ci := 1) (As := [.int (p1 + 6), .int 2]) (rest := []) rfl rfl rfl rfl rfl rfl (st1 := fun x3 => [.long x3]) (fun _ => rfl) (ok_X2_little hQ N c2 3 (p1 + 6) 2 rfl) (fun x3 c4 => ?_)
      refine l1_many mt_X5_isEntry (pc' := bif am_cc .le (j_cmp x3 20) 0 then 69 else 55) (L' := [some (.ref 36), some (.int p1)]) (st' := []) 3 rfl ?_
      refine l1_bif rfl ?_ ?_
      · refine l1_many mt_X5_isEntry (pc' := 77) (L' := [some (.ref 36), some (.int p1)]) (st' := [.int 6, .int 2, .int (p1 + 8), .ref 36]) 6 rfl ?_
        refine l1_callV hQ mt_X5_isEntry mt_X5_isZero rfl rfl (o := 36) (ci := 4) (As := [.int (p1 + 8), .int 2, .int 6]) (rest := []) rfl rfl rfl rfl rfl rfl (st1 := fun x5 => [.int x5]) (fun _ => rfl) (ok_X5_isZero hQ N c4 (p1 + 8) 2 6) (fun x5 c6 => ?_)
        refine l1_many mt_X5_isEntry (pc' := bif am_cc .ne x5 0 then 85 else 83) (L' := [some (.ref 36), some (.int p1)]) (st' := []) 1 rfl ?_
        refine l1_bin rfl ?_ ?_
        · refine l1_many mt_X5_isEntry (pc' := 84) (L' := [some (.ref 36), some (.int p1)]) (st' := [.int 0]) 1 rfl ?_
          exact l1_ret mt_X5_isEntry rfl rfl rfl
        · refine l1_many mt_X5_isEntry (pc' := 87) (L' := [some (.ref 36), some (.int p1)]) (st' := [.ref 36, .ref 36]) 2 rfl ?_
          refine l1_getR hQ mt_X5_isEntry rfl (o := 36) (ci := 4) (k := 0) (a := 1) (b := 2) rfl rfl rfl rfl rfl (q := 3) rfl ?_
          refine l1_many mt_X5_isEntry (pc' := 95) (L' := [some (.ref 36), some (.int p1)]) (st' := [.int 2, .int (p1 + 10), .ref 3, .ref 36]) 4 rfl ?_
          refine l1_callV hQ mt_X5_isEntry mt_X2_little rfl rfl (o := 3) (ci := 1) (As := [.int (p1 + 10), .int 2]) (rest := [.ref 36]) rfl rfl rfl rfl rfl rfl (st1 := fun x7 => [.long x7, .ref 36]) (fun _ => rfl) (ok_X2_little hQ N c6 3 (p1 + 10) 2 rfl) (fun x7 c8 => ?_)
          refine l1_many mt_X5_isEntry (pc' := 99) (L' := [some (.ref 36), some (.int p1)]) (st' := [.int x7.toInt32, .ref 36]) 1 rfl ?_
          refine l1_putI hQ mt_X5_isEntry rfl (o := 36) (ci := 4) (k := 8) (a := 0) rfl rfl rfl rfl rfl rfl (fun c9 => ?_)
          refine l1_many mt_X5_isEntry (pc' := 103) (L' := [some (.ref 36), some (.int p1)]) (st' := [.ref 36]) 1 rfl ?_
          refine l1_getI hQ mt_X5_isEntry rfl (o := 36) (ci := 4) (k := 8) (a := 0) (b := 0) rfl rfl rfl rfl rfl ?_
          refine l1_many mt_X5_isEntry (pc' := bif am_cc .eq (c9.1 36 8) 0 then 132 else 109) (L' := [some (.ref 36), some (.int p1)]) (st' := []) 1 rfl ?_
          refine l1_bif rfl ?_ ?_
          · exact ok_X5_isEntry_132 hQ N p1 c9
          · refine l1_many mt_X5_isEntry (pc' := 110) (L' := [some (.ref 36), some (.int p1)]) (st' := [.ref 36]) 1 rfl ?_
            refine l1_getI hQ mt_X5_isEntry rfl (o := 36) (ci := 4) (k := 8) (a := 0) (b := 0) rfl rfl rfl rfl rfl ?_
            refine l1_many mt_X5_isEntry (pc' := bif am_cc .eq (c9.1 36 8) 8 then 132 else 118) (L' := [some (.ref 36), some (.int p1)]) (st' := []) 2 rfl ?_
            refine l1_bif rfl ?_ ?_
            · exact ok_X5_isEntry_132 hQ N p1 c9
            · refine l1_many mt_X5_isEntry (pc' := 119) (L' := [some (.ref 36), some (.int p1)]) (st' := [.ref 36]) 1 rfl ?_
              refine l1_getR hQ mt_X5_isEntry rfl (o := 36) (ci := 4) (k := 2) (a := 1) (b := 2) rfl rfl rfl rfl rfl (q := 9) rfl ?_
              refine l1_many mt_X5_isEntry (pc' := 128) (L' := [some (.ref 36), some (.int p1)]) (st' := [.int (p1 + 10), .int 8, .ref 9]) 4 rfl ?_
              refine l1_callV hQ mt_X5_isEntry mt_X6_tell rfl rfl (o := 9) (ci := 5) (As := [.int 8, .int (p1 + 10)]) (rest := []) rfl rfl rfl rfl rfl rfl (st1 := fun x10 => [.int x10]) (fun _ => rfl) (ok_X6_tell hQ c9 8 (p1 + 10)) (fun x10 c11 => ?_)
              refine l1_ck (fun hz => ?_)
              exact l1_retZ mt_X5_isEntry rfl rfl rfl hz
      · refine l1_many mt_X5_isEntry (pc' := 56) (L' := [some (.ref 36), some (.int p1)]) (st' := [.ref 36]) 1 rfl ?_
        refine l1_getR hQ mt_X5_isEntry rfl (o := 36) (ci := 4) (k := 2) (a := 1) (b := 2) rfl rfl rfl rfl rfl (q := 9) rfl ?_
        refine l1_many mt_X5_isEntry (pc' := 65) (L' := [some (.ref 36), some (.int p1)]) (st' := [.int (p1 + 6), .int 6, .ref 9]) 4 rfl ?_
        refine l1_callV hQ mt_X5_isEntry mt_X6_tell rfl rfl (o := 9) (ci := 5) (As := [.int 6, .int (p1 + 6)]) (rest := []) rfl rfl rfl rfl rfl rfl (st1 := fun x12 => [.int x12]) (fun _ => rfl) (ok_X6_tell hQ c4 6 (p1 + 6)) (fun x12 c13 => ?_)
        refine l1_ck (fun hz => ?_)
        exact l1_retZ mt_X5_isEntry rfl rfl rfl hz
  · refine l1_many mt_X5_isEntry (pc' := 12) (L' := [some (.ref 36), some (.int p1)]) (st' := [.ref 36]) 1 rfl ?_
    refine l1_getR hQ mt_X5_isEntry rfl (o := 36) (ci := 4) (k := 2) (a := 1) (b := 2) rfl rfl rfl rfl rfl (q := 9) rfl ?_
    refine l1_many mt_X5_isEntry (pc' := 18) (L' := [some (.ref 36), some (.int p1)]) (st' := [.int p1, .int 12, .ref 9]) 2 rfl ?_
    refine l1_callV hQ mt_X5_isEntry mt_X6_tell rfl rfl (o := 9) (ci := 5) (As := [.int 12, .int p1]) (rest := []) rfl rfl rfl rfl rfl rfl (st1 := fun x14 => [.int x14]) (fun _ => rfl) (ok_X6_tell hQ c 12 p1) (fun x14 c15 => ?_)
    refine l1_ck (fun hz => ?_)
    exact l1_retZ mt_X5_isEntry rfl rfl rfl hz
theorem ok_X5_isEntry {Q : hS → am_H → Prop} (hQ : l1_em kc Q) (N : Nat) (c : hS) (p1 : Int32) : l1_T wI Q am_i_X5_isEntry [.ref 36, .int p1] c (f_X5_isEntry N c p1) := l1_of (en_X5_isEntry hQ N c p1) ⟨rfl, rfl, trivial⟩
set_option maxRecDepth 100000 in
theorem ok_X5_isSame_88 {Q : hS → am_H → Prop} (hQ : l1_em kc Q) (N : Nat) (p1 : Int32) : ∀ n : Nat, ∀ (c : hS) (v2 : Int32), l1_G (wN wI) Q am_i_X5_isSame 88 [some (.ref 36), some (.int p1), some (.int v2)] [] c (f_X5_isSame_88 N p1 n c v2) := by
  intro n
  induction n with
  | zero => intro c v2; exact l1_none
  | succ n ih =>
    intro c v2
    rw [f_X5_isSame_88]
    refine l1_many mt_X5_isSame (pc' := 90) (L' := [some (.ref 36), some (.int p1), some (.int v2)]) (st' := [.ref 36, .int v2]) 2 rfl ?_
    refine l1_getI hQ mt_X5_isSame rfl (o := 36) (ci := 4) (k := 9) (a := 0) (b := 0) rfl rfl rfl rfl rfl ?_
    refine l1_many mt_X5_isSame (pc' := bif am_cc .ge v2 (c.1 36 9) then 153 else 96) (L' := [some (.ref 36), some (.int p1), some (.int v2)]) (st' := []) 1 rfl ?_
    refine l1_bif rfl ?_ ?_
    · refine l1_many mt_X5_isSame (pc' := 154) (L' := [some (.ref 36), some (.int p1), some (.int v2)]) (st' := [.int 1]) 1 rfl ?_
      exact l1_ret mt_X5_isSame rfl rfl rfl
    · refine l1_many mt_X5_isSame (pc' := 97) (L' := [some (.ref 36), some (.int p1), some (.int v2)]) (st' := [.ref 36]) 1 rfl ?_
      refine l1_getR hQ mt_X5_isSame rfl (o := 36) (ci := 4) (k := 0) (a := 1) (b := 2) rfl rfl rfl rfl rfl (q := 3) rfl ?_
      refine l1_many mt_X5_isSame (pc' := 101) (L' := [some (.ref 36), some (.int p1), some (.int v2)]) (st' := [.ref 36, .ref 3]) 1 rfl ?_
      refine l1_getI hQ mt_X5_isSame rfl (o := 36) (ci := 4) (k := 13) (a := 0) (b := 0) rfl rfl rfl rfl rfl ?_
      refine l1_many mt_X5_isSame (pc' := 109) (L' := [some (.ref 36), some (.int p1), some (.int v2)]) (st' := [.int (((c.1 36 13) + 30) + v2), .ref 3]) 4 rfl ?_
      refine l1_callV hQ mt_X5_isSame mt_X2_get rfl rfl (o := 3) (ci := 1) (As := [.int (((c.1 36 13) + 30) + v2)]) (rest := []) rfl rfl rfl rfl rfl rfl (st1 := fun x1 => [.int x1]) (fun _ => rfl) (ok_X2_get hQ c 3 (((c.1 36 13) + 30) + v2) rfl) (fun x1 c2 => ?_)
      refine l1_many mt_X5_isSame (pc' := 113) (L' := [some (.ref 36), some (.int p1), some (.int v2)]) (st' := [.ref 36, .int x1]) 1 rfl ?_
      refine l1_getR hQ mt_X5_isSame rfl (o := 36) (ci := 4) (k := 0) (a := 1) (b := 2) rfl rfl rfl rfl rfl (q := 3) rfl ?_
      refine l1_many mt_X5_isSame (pc' := 122) (L' := [some (.ref 36), some (.int p1), some (.int v2)]) (st' := [.int ((p1 + 46) + v2), .ref 3, .int x1]) 5 rfl ?_
      refine l1_callV hQ mt_X5_isSame mt_X2_get rfl rfl (o := 3) (ci := 1) (As := [.int ((p1 + 46) + v2)]) (rest := [.int x1]) rfl rfl rfl rfl rfl rfl (st1 := fun x3 => [.int x3, .int x1]) (fun _ => rfl) (ok_X2_get hQ c2 3 ((p1 + 46) + v2) rfl) (fun x3 c4 => ?_)
      refine l1_many mt_X5_isSame (pc' := bif am_cc .eq x1 x3 then 147 else 128) (L' := [some (.ref 36), some (.int p1), some (.int v2)]) (st' := []) 1 rfl ?_
      refine l1_bif rfl ?_ ?_
      · refine l1_many mt_X5_isSame (pc' := 88) (L' := [some (.ref 36), some (.int p1), some (.int (v2 + 1))]) (st' := []) 2 rfl ?_
        exact ih c4 (v2 + 1)
      · refine l1_many mt_X5_isSame (pc' := 129) (L' := [some (.ref 36), some (.int p1), some (.int v2)]) (st' := [.ref 36]) 1 rfl ?_
        refine l1_getR hQ mt_X5_isSame rfl (o := 36) (ci := 4) (k := 2) (a := 1) (b := 2) rfl rfl rfl rfl rfl (q := 9) rfl ?_
        refine l1_many mt_X5_isSame (pc' := 135) (L' := [some (.ref 36), some (.int p1), some (.int v2)]) (st' := [.ref 36, .int 13, .ref 9]) 2 rfl ?_
        refine l1_getI hQ mt_X5_isSame rfl (o := 36) (ci := 4) (k := 13) (a := 0) (b := 0) rfl rfl rfl rfl rfl ?_
        refine l1_many mt_X5_isSame (pc' := 143) (L' := [some (.ref 36), some (.int p1), some (.int v2)]) (st' := [.int (((c4.1 36 13) + 30) + v2), .int 13, .ref 9]) 4 rfl ?_
        refine l1_callV hQ mt_X5_isSame mt_X6_tell rfl rfl (o := 9) (ci := 5) (As := [.int 13, .int (((c4.1 36 13) + 30) + v2)]) (rest := []) rfl rfl rfl rfl rfl rfl (st1 := fun x5 => [.int x5]) (fun _ => rfl) (ok_X6_tell hQ c4 13 (((c4.1 36 13) + 30) + v2)) (fun x5 c6 => ?_)
        refine l1_ck (fun hz => ?_)
        exact l1_retZ mt_X5_isSame rfl rfl rfl hz
set_option maxRecDepth 100000 in
theorem ok_X5_isSame_2 {Q : hS → am_H → Prop} (hQ : l1_em kc Q) (N : Nat) (p1 : Int32) : ∀ n : Nat, ∀ (c : hS) (v2 : Int32), l1_G (wN wI) Q am_i_X5_isSame 2 [some (.ref 36), some (.int p1), some (.int v2)] [] c (f_X5_isSame_2 N p1 n c v2) := by
  intro n
  induction n with
  | zero => intro c v2; exact l1_none
  | succ n ih =>
    intro c v2
    rw [f_X5_isSame_2]
    refine l1_many mt_X5_isSame (pc' := 6) (L' := [some (.ref 36), some (.int p1), some (.int v2)]) (st' := [.ref 1000000006, .int v2]) 2 rfl ?_
    refine l1_slen hQ mt_X5_isSame rfl oa6 ?_
    refine l1_many mt_X5_isSame (pc' := bif am_cc .ge v2 (Int32.ofNat sa6.length) then 86 else 10) (L' := [some (.ref 36), some (.int p1), some (.int v2)]) (st' := []) 1 rfl ?_
    refine l1_bif rfl ?_ ?_
    · refine l1_many mt_X5_isSame (pc' := 88) (L' := [some (.ref 36), some (.int p1), some (.int 0)]) (st' := []) 2 rfl ?_
      exact ok_X5_isSame_88 hQ N p1 N c 0
    · refine l1_many mt_X5_isSame (pc' := 14) (L' := [some (.ref 36), some (.int p1), some (.int v2)]) (st' := [.ref 1000000007, .int v2]) 2 rfl ?_
      refine l1_slen hQ mt_X5_isSame rfl oa7 ?_
      refine l1_many mt_X5_isSame (pc' := bif am_cc .ge v2 (Int32.ofNat sa7.length) then 86 else 18) (L' := [some (.ref 36), some (.int p1), some (.int v2)]) (st' := []) 1 rfl ?_
      refine l1_bif rfl ?_ ?_
      · refine l1_many mt_X5_isSame (pc' := 88) (L' := [some (.ref 36), some (.int p1), some (.int 0)]) (st' := []) 2 rfl ?_
        exact ok_X5_isSame_88 hQ N p1 N c 0
      · refine l1_many mt_X5_isSame (pc' := 22) (L' := [some (.ref 36), some (.int p1), some (.int v2)]) (st' := [.int v2, .ref 1000000006]) 2 rfl ?_
        refine l1_ck (fun hx => ?_)
        refine l1_sald hQ mt_X5_isSame rfl oa6 hx ?_
        refine l1_many mt_X5_isSame (pc' := 28) (L' := [some (.ref 36), some (.int p1), some (.int v2), some (.int (sa6.getD v2.toNatClampNeg 0))]) (st' := [.int v2, .ref 1000000007]) 3 rfl ?_
        refine l1_ck (fun hx => ?_)
        refine l1_sald hQ mt_X5_isSame rfl oa7 hx ?_
        refine l1_many mt_X5_isSame (pc' := 32) (L' := [some (.ref 36), some (.int p1), some (.int v2), some (.int (sa6.getD v2.toNatClampNeg 0)), some (.int (sa7.getD v2.toNatClampNeg 0))]) (st' := [.ref 36]) 2 rfl ?_
        refine l1_getR hQ mt_X5_isSame rfl (o := 36) (ci := 4) (k := 0) (a := 1) (b := 2) rfl rfl rfl rfl rfl (q := 3) rfl ?_
        refine l1_many mt_X5_isSame (pc' := 36) (L' := [some (.ref 36), some (.int p1), some (.int v2), some (.int (sa6.getD v2.toNatClampNeg 0)), some (.int (sa7.getD v2.toNatClampNeg 0))]) (st' := [.ref 36, .ref 3]) 1 rfl ?_
        refine l1_getI hQ mt_X5_isSame rfl (o := 36) (ci := 4) (k := 13) (a := 0) (b := 0) rfl rfl rfl rfl rfl ?_
        refine l1_many mt_X5_isSame (pc' := 43) (L' := [some (.ref 36), some (.int p1), some (.int v2), some (.int (sa6.getD v2.toNatClampNeg 0)), some (.int (sa7.getD v2.toNatClampNeg 0))]) (st' := [.int (sa7.getD v2.toNatClampNeg 0), .int ((c.1 36 13) + (sa6.getD v2.toNatClampNeg 0)), .ref 3]) 3 rfl ?_
        refine l1_callV hQ mt_X5_isSame mt_X2_little rfl rfl (o := 3) (ci := 1) (As := [.int ((c.1 36 13) + (sa6.getD v2.toNatClampNeg 0)), .int (sa7.getD v2.toNatClampNeg 0)]) (rest := []) rfl rfl rfl rfl rfl rfl (st1 := fun x1 => [.long x1]) (fun _ => rfl) (ok_X2_little hQ N c 3 ((c.1 36 13) + (sa6.getD v2.toNatClampNeg 0)) (sa7.getD v2.toNatClampNeg 0) rfl) (fun x1 c2 => ?_)
        refine l1_many mt_X5_isSame (pc' := 47) (L' := [some (.ref 36), some (.int p1), some (.int v2), some (.int (sa6.getD v2.toNatClampNeg 0)), some (.int (sa7.getD v2.toNatClampNeg 0))]) (st' := [.ref 36, .long x1]) 1 rfl ?_
        refine l1_getR hQ mt_X5_isSame rfl (o := 36) (ci := 4) (k := 0) (a := 1) (b := 2) rfl rfl rfl rfl rfl (q := 3) rfl ?_
        refine l1_many mt_X5_isSame (pc' := 57) (L' := [some (.ref 36), some (.int p1), some (.int v2), some (.int (sa6.getD v2.toNatClampNeg 0)), some (.int (sa7.getD v2.toNatClampNeg 0))]) (st' := [.int (sa7.getD v2.toNatClampNeg 0), .int ((p1 + (sa6.getD v2.toNatClampNeg 0)) + 2), .ref 3, .long x1]) 6 rfl ?_
        refine l1_callV hQ mt_X5_isSame mt_X2_little rfl rfl (o := 3) (ci := 1) (As := [.int ((p1 + (sa6.getD v2.toNatClampNeg 0)) + 2), .int (sa7.getD v2.toNatClampNeg 0)]) (rest := [.long x1]) rfl rfl rfl rfl rfl rfl (st1 := fun x3 => [.long x3, .long x1]) (fun _ => rfl) (ok_X2_little hQ N c2 3 ((p1 + (sa6.getD v2.toNatClampNeg 0)) + 2) (sa7.getD v2.toNatClampNeg 0) rfl) (fun x3 c4 => ?_)
        refine l1_many mt_X5_isSame (pc' := bif am_cc .eq (j_cmp x1 x3) 0 then 80 else 64) (L' := [some (.ref 36), some (.int p1), some (.int v2), some (.int (sa6.getD v2.toNatClampNeg 0)), some (.int (sa7.getD v2.toNatClampNeg 0))]) (st' := []) 2 rfl ?_
        refine l1_bif rfl ?_ ?_
        · refine l1_many mt_X5_isSame (pc' := 2) (L' := [some (.ref 36), some (.int p1), some (.int (v2 + 1)), some (.int (sa6.getD v2.toNatClampNeg 0)), some (.int (sa7.getD v2.toNatClampNeg 0))]) (st' := []) 2 rfl ?_
          refine l1_weak (m := [true, true, true, false, false]) (L' := [some (.ref 36), some (.int p1), some (.int (v2 + 1))]) rfl ?_
          exact ih c4 (v2 + 1)
        · refine l1_many mt_X5_isSame (pc' := 65) (L' := [some (.ref 36), some (.int p1), some (.int v2), some (.int (sa6.getD v2.toNatClampNeg 0)), some (.int (sa7.getD v2.toNatClampNeg 0))]) (st' := [.ref 36]) 1 rfl ?_
          refine l1_getR hQ mt_X5_isSame rfl (o := 36) (ci := 4) (k := 2) (a := 1) (b := 2) rfl rfl rfl rfl rfl (q := 9) rfl ?_
          refine l1_many mt_X5_isSame (pc' := 71) (L' := [some (.ref 36), some (.int p1), some (.int v2), some (.int (sa6.getD v2.toNatClampNeg 0)), some (.int (sa7.getD v2.toNatClampNeg 0))]) (st' := [.ref 36, .int 13, .ref 9]) 2 rfl ?_
          refine l1_getI hQ mt_X5_isSame rfl (o := 36) (ci := 4) (k := 13) (a := 0) (b := 0) rfl rfl rfl rfl rfl ?_
          refine l1_many mt_X5_isSame (pc' := 76) (L' := [some (.ref 36), some (.int p1), some (.int v2), some (.int (sa6.getD v2.toNatClampNeg 0)), some (.int (sa7.getD v2.toNatClampNeg 0))]) (st' := [.int ((c4.1 36 13) + (sa6.getD v2.toNatClampNeg 0)), .int 13, .ref 9]) 2 rfl ?_
          refine l1_callV hQ mt_X5_isSame mt_X6_tell rfl rfl (o := 9) (ci := 5) (As := [.int 13, .int ((c4.1 36 13) + (sa6.getD v2.toNatClampNeg 0))]) (rest := []) rfl rfl rfl rfl rfl rfl (st1 := fun x5 => [.int x5]) (fun _ => rfl) (ok_X6_tell hQ c4 13 ((c4.1 36 13) + (sa6.getD v2.toNatClampNeg 0))) (fun x5 c6 => ?_)
          refine l1_ck (fun hz => ?_)
          exact l1_retZ mt_X5_isSame rfl rfl rfl hz
set_option maxRecDepth 100000 in
theorem en_X5_isSame {Q : hS → am_H → Prop} (hQ : l1_em kc Q) (N : Nat) (c : hS) (p1 : Int32) : l1_G (wN wI) Q am_i_X5_isSame 0 [some (.ref 36), some (.int p1)] [] c (f_X5_isSame N c p1) := by
  rw [f_X5_isSame]
  refine l1_many mt_X5_isSame (pc' := 2) (L' := [some (.ref 36), some (.int p1), some (.int 0)]) (st' := []) 2 rfl ?_
  exact ok_X5_isSame_2 hQ N p1 N c 0
theorem ok_X5_isSame {Q : hS → am_H → Prop} (hQ : l1_em kc Q) (N : Nat) (c : hS) (p1 : Int32) : l1_T wI Q am_i_X5_isSame [.ref 36, .int p1] c (f_X5_isSame N c p1) := l1_of (en_X5_isSame hQ N c p1) ⟨rfl, rfl, trivial⟩
set_option maxRecDepth 100000 in
theorem en_X5_isLocal {Q : hS → am_H → Prop} (hQ : l1_em kc Q) (N : Nat) (c : hS) (p1 : Int32) : l1_G (wN wI) Q am_i_X5_isLocal 0 [some (.ref 36), some (.int p1)] [] c (f_X5_isLocal N c p1) := by
  rw [f_X5_isLocal]
  refine l1_many mt_X5_isLocal (pc' := 1) (L' := [some (.ref 36), some (.int p1)]) (st' := [.ref 36]) 1 rfl ?_
  refine l1_getR hQ mt_X5_isLocal rfl (o := 36) (ci := 4) (k := 0) (a := 1) (b := 2) rfl rfl rfl rfl rfl (q := 3) rfl ?_
  refine l1_many mt_X5_isLocal (pc' := 9) (L' := [some (.ref 36), some (.int p1)]) (st' := [.int 4, .int (p1 + 42), .ref 3]) 4 rfl ?_
  refine l1_callV hQ mt_X5_isLocal mt_X2_little rfl rfl (o := 3) (ci := 1) (As := [.int (p1 + 42), .int 4]) (rest := []) rfl rfl rfl rfl rfl rfl (st1 := fun x1 => [.long x1]) (fun _ => rfl) (ok_X2_little hQ N c 3 (p1 + 42) 4 rfl) (fun x1 c2 => ?_)
  refine l1_many mt_X5_isLocal (pc' := 19) (L' := [some (.ref 36), some (.int p1), some (.long x1)]) (st' := [.ref 36, .long (x1 + 30)]) 5 rfl ?_
  refine l1_getI hQ mt_X5_isLocal rfl (o := 36) (ci := 4) (k := 7) (a := 0) (b := 0) rfl rfl rfl rfl rfl ?_
  refine l1_many mt_X5_isLocal (pc' := bif am_cc .le (j_cmp (x1 + 30) ((c2.1 36 7).toInt64)) 0 then 41 else 27) (L' := [some (.ref 36), some (.int p1), some (.long x1)]) (st' := []) 3 rfl ?_
  refine l1_bif rfl ?_ ?_
  · refine l1_many mt_X5_isLocal (pc' := 44) (L' := [some (.ref 36), some (.int p1), some (.long x1)]) (st' := [.int x1.toInt32, .ref 36]) 3 rfl ?_
    refine l1_putI hQ mt_X5_isLocal rfl (o := 36) (ci := 4) (k := 13) (a := 0) rfl rfl rfl rfl rfl rfl (fun c3 => ?_)
    refine l1_many mt_X5_isLocal (pc' := 49) (L' := [some (.ref 36), some (.int p1), some (.long x1)]) (st' := [.ref 36, .ref 36]) 2 rfl ?_
    refine l1_getI hQ mt_X5_isLocal rfl (o := 36) (ci := 4) (k := 13) (a := 0) (b := 0) rfl rfl rfl rfl rfl ?_
    refine l1_many mt_X5_isLocal (pc' := 56) (L' := [some (.ref 36), some (.int p1), some (.long x1)]) (st' := [.int 3, .ref 1000000003, .int (c3.1 36 13), .ref 36]) 2 rfl ?_
    refine l1_callV hQ mt_X5_isLocal mt_X0_isMarked rfl rfl (o := 36) (ci := 4) (As := [.int (c3.1 36 13), .ref 1000000003, .int 3]) (rest := []) rfl rfl rfl rfl rfl rfl (st1 := fun x4 => [.int x4]) (fun _ => rfl) (ok_X0_isMarked_36 hQ N c3 (c3.1 36 13) sa3 3 oa3) (fun x4 c5 => ?_)
    refine l1_many mt_X5_isLocal (pc' := bif am_cc .eq x4 0 then 70 else 62) (L' := [some (.ref 36), some (.int p1), some (.long x1)]) (st' := []) 1 rfl ?_
    refine l1_bif rfl ?_ ?_
    · refine l1_many mt_X5_isLocal (pc' := 71) (L' := [some (.ref 36), some (.int p1), some (.long x1)]) (st' := [.int 0]) 1 rfl ?_
      exact l1_ret mt_X5_isLocal rfl rfl rfl
    · refine l1_many mt_X5_isLocal (pc' := 64) (L' := [some (.ref 36), some (.int p1), some (.long x1)]) (st' := [.int p1, .ref 36]) 2 rfl ?_
      refine l1_callV hQ mt_X5_isLocal mt_X5_isSame rfl rfl (o := 36) (ci := 4) (As := [.int p1]) (rest := []) rfl rfl rfl rfl rfl rfl (st1 := fun x6 => [.int x6]) (fun _ => rfl) (ok_X5_isSame hQ N c5 p1) (fun x6 c7 => ?_)
      refine l1_many mt_X5_isLocal (pc' := bif am_cc .ne x6 0 then 72 else 70) (L' := [some (.ref 36), some (.int p1), some (.long x1)]) (st' := []) 1 rfl ?_
      refine l1_bin rfl ?_ ?_
      · refine l1_many mt_X5_isLocal (pc' := 71) (L' := [some (.ref 36), some (.int p1), some (.long x1)]) (st' := [.int 0]) 1 rfl ?_
        exact l1_ret mt_X5_isLocal rfl rfl rfl
      · refine l1_many mt_X5_isLocal (pc' := 74) (L' := [some (.ref 36), some (.int p1), some (.long x1)]) (st' := [.ref 36, .ref 36]) 2 rfl ?_
        refine l1_getI hQ mt_X5_isLocal rfl (o := 36) (ci := 4) (k := 13) (a := 0) (b := 0) rfl rfl rfl rfl rfl ?_
        refine l1_many mt_X5_isLocal (pc' := 81) (L' := [some (.ref 36), some (.int p1), some (.long x1)]) (st' := [.ref 36, .int ((c7.1 36 13) + 30), .ref 36]) 3 rfl ?_
        refine l1_getI hQ mt_X5_isLocal rfl (o := 36) (ci := 4) (k := 9) (a := 0) (b := 0) rfl rfl rfl rfl rfl ?_
        refine l1_many mt_X5_isLocal (pc' := 86) (L' := [some (.ref 36), some (.int p1), some (.long x1)]) (st' := [.ref 36, .int (((c7.1 36 13) + 30) + (c7.1 36 9)), .ref 36]) 2 rfl ?_
        refine l1_getR hQ mt_X5_isLocal rfl (o := 36) (ci := 4) (k := 0) (a := 1) (b := 2) rfl rfl rfl rfl rfl (q := 3) rfl ?_
        refine l1_many mt_X5_isLocal (pc' := 90) (L' := [some (.ref 36), some (.int p1), some (.long x1)]) (st' := [.ref 36, .ref 3, .int (((c7.1 36 13) + 30) + (c7.1 36 9)), .ref 36]) 1 rfl ?_
        refine l1_getI hQ mt_X5_isLocal rfl (o := 36) (ci := 4) (k := 13) (a := 0) (b := 0) rfl rfl rfl rfl rfl ?_
        refine l1_many mt_X5_isLocal (pc' := 97) (L' := [some (.ref 36), some (.int p1), some (.long x1)]) (st' := [.int 2, .int ((c7.1 36 13) + 28), .ref 3, .int (((c7.1 36 13) + 30) + (c7.1 36 9)), .ref 36]) 3 rfl ?_
        refine l1_callV hQ mt_X5_isLocal mt_X2_little rfl rfl (o := 3) (ci := 1) (As := [.int ((c7.1 36 13) + 28), .int 2]) (rest := [.int (((c7.1 36 13) + 30) + (c7.1 36 9)), .ref 36]) rfl rfl rfl rfl rfl rfl (st1 := fun x8 => [.long x8, .int (((c7.1 36 13) + 30) + (c7.1 36 9)), .ref 36]) (fun _ => rfl) (ok_X2_little hQ N c7 3 ((c7.1 36 13) + 28) 2 rfl) (fun x8 c9 => ?_)
        refine l1_many mt_X5_isLocal (pc' := 102) (L' := [some (.ref 36), some (.int p1), some (.long x1)]) (st' := [.int ((((c7.1 36 13) + 30) + (c7.1 36 9)) + x8.toInt32), .ref 36]) 2 rfl ?_
        refine l1_putI hQ mt_X5_isLocal rfl (o := 36) (ci := 4) (k := 14) (a := 0) rfl rfl rfl rfl rfl rfl (fun c10 => ?_)
        refine l1_many mt_X5_isLocal (pc' := 106) (L' := [some (.ref 36), some (.int p1), some (.long x1)]) (st' := [.ref 36]) 1 rfl ?_
        refine l1_getI hQ mt_X5_isLocal rfl (o := 36) (ci := 4) (k := 14) (a := 0) (b := 0) rfl rfl rfl rfl rfl ?_
        refine l1_many mt_X5_isLocal (pc' := 111) (L' := [some (.ref 36), some (.int p1), some (.long x1)]) (st' := [.ref 36, .long ((c10.1 36 14).toInt64)]) 2 rfl ?_
        refine l1_getR hQ mt_X5_isLocal rfl (o := 36) (ci := 4) (k := 0) (a := 1) (b := 2) rfl rfl rfl rfl rfl (q := 3) rfl ?_
        refine l1_many mt_X5_isLocal (pc' := 119) (L' := [some (.ref 36), some (.int p1), some (.long x1)]) (st' := [.int 4, .int (p1 + 20), .ref 3, .long ((c10.1 36 14).toInt64)]) 4 rfl ?_
        refine l1_callV hQ mt_X5_isLocal mt_X2_little rfl rfl (o := 3) (ci := 1) (As := [.int (p1 + 20), .int 4]) (rest := [.long ((c10.1 36 14).toInt64)]) rfl rfl rfl rfl rfl rfl (st1 := fun x11 => [.long x11, .long ((c10.1 36 14).toInt64)]) (fun _ => rfl) (ok_X2_little hQ N c10 3 (p1 + 20) 4 rfl) (fun x11 c12 => ?_)
        refine l1_many mt_X5_isLocal (pc' := 128) (L' := [some (.ref 36), some (.int p1), some (.long x1), none, some (.long (((c10.1 36 14).toInt64) + x11))]) (st' := [.ref 36, .long (((c10.1 36 14).toInt64) + x11)]) 4 rfl ?_
        refine l1_getI hQ mt_X5_isLocal rfl (o := 36) (ci := 4) (k := 7) (a := 0) (b := 0) rfl rfl rfl rfl rfl ?_
        refine l1_many mt_X5_isLocal (pc' := bif am_cc .le (j_cmp (((c10.1 36 14).toInt64) + x11) ((c12.1 36 7).toInt64)) 0 then 150 else 136) (L' := [some (.ref 36), some (.int p1), some (.long x1), none, some (.long (((c10.1 36 14).toInt64) + x11))]) (st' := []) 3 rfl ?_
        refine l1_bif rfl ?_ ?_
        · refine l1_many mt_X5_isLocal (pc' := 154) (L' := [some (.ref 36), some (.int p1), some (.long x1), none, some (.long (((c10.1 36 14).toInt64) + x11))]) (st' := [.int ((((c10.1 36 14).toInt64) + x11).toInt32), .ref 36]) 3 rfl ?_
          refine l1_putI hQ mt_X5_isLocal rfl (o := 36) (ci := 4) (k := 15) (a := 0) rfl rfl rfl rfl rfl rfl (fun c13 => ?_)
          refine l1_many mt_X5_isLocal (pc' := 158) (L' := [some (.ref 36), some (.int p1), some (.long x1), none, some (.long (((c10.1 36 14).toInt64) + x11))]) (st' := [.int 1]) 1 rfl ?_
          exact l1_ret mt_X5_isLocal rfl rfl rfl
        · refine l1_many mt_X5_isLocal (pc' := 137) (L' := [some (.ref 36), some (.int p1), some (.long x1), none, some (.long (((c10.1 36 14).toInt64) + x11))]) (st' := [.ref 36]) 1 rfl ?_
          refine l1_getR hQ mt_X5_isLocal rfl (o := 36) (ci := 4) (k := 2) (a := 1) (b := 2) rfl rfl rfl rfl rfl (q := 9) rfl ?_
          refine l1_many mt_X5_isLocal (pc' := 146) (L' := [some (.ref 36), some (.int p1), some (.long x1), none, some (.long (((c10.1 36 14).toInt64) + x11))]) (st' := [.int (p1 + 42), .int 12, .ref 9]) 4 rfl ?_
          refine l1_callV hQ mt_X5_isLocal mt_X6_tell rfl rfl (o := 9) (ci := 5) (As := [.int 12, .int (p1 + 42)]) (rest := []) rfl rfl rfl rfl rfl rfl (st1 := fun x14 => [.int x14]) (fun _ => rfl) (ok_X6_tell hQ c12 12 (p1 + 42)) (fun x14 c15 => ?_)
          refine l1_ck (fun hz => ?_)
          exact l1_retZ mt_X5_isLocal rfl rfl rfl hz
  · refine l1_many mt_X5_isLocal (pc' := 28) (L' := [some (.ref 36), some (.int p1), some (.long x1)]) (st' := [.ref 36]) 1 rfl ?_
    refine l1_getR hQ mt_X5_isLocal rfl (o := 36) (ci := 4) (k := 2) (a := 1) (b := 2) rfl rfl rfl rfl rfl (q := 9) rfl ?_
    refine l1_many mt_X5_isLocal (pc' := 37) (L' := [some (.ref 36), some (.int p1), some (.long x1)]) (st' := [.int (p1 + 42), .int 12, .ref 9]) 4 rfl ?_
    refine l1_callV hQ mt_X5_isLocal mt_X6_tell rfl rfl (o := 9) (ci := 5) (As := [.int 12, .int (p1 + 42)]) (rest := []) rfl rfl rfl rfl rfl rfl (st1 := fun x16 => [.int x16]) (fun _ => rfl) (ok_X6_tell hQ c2 12 (p1 + 42)) (fun x16 c17 => ?_)
    refine l1_ck (fun hz => ?_)
    exact l1_retZ mt_X5_isLocal rfl rfl rfl hz
theorem ok_X5_isLocal {Q : hS → am_H → Prop} (hQ : l1_em kc Q) (N : Nat) (c : hS) (p1 : Int32) : l1_T wI Q am_i_X5_isLocal [.ref 36, .int p1] c (f_X5_isLocal N c p1) := l1_of (en_X5_isLocal hQ N c p1) ⟨rfl, rfl, trivial⟩
set_option maxRecDepth 100000 in
theorem ok_X5_isMember_143 {Q : hS → am_H → Prop} (hQ : l1_em kc Q) (N : Nat) (p1 : Int32) : ∀ (c : hS), l1_G (wN wI) Q am_i_X5_isMember 143 [some (.ref 36), some (.int p1)] [] c (f_X5_isMember_143 N p1 c) := by
  intro c
  rw [f_X5_isMember_143]
  refine l1_many mt_X5_isMember (pc' := 144) (L' := [some (.ref 36), some (.int p1)]) (st' := [.ref 36]) 1 rfl ?_
  refine l1_getR hQ mt_X5_isMember rfl (o := 36) (ci := 4) (k := 0) (a := 1) (b := 2) rfl rfl rfl rfl rfl (q := 3) rfl ?_
  refine l1_many mt_X5_isMember (pc' := 152) (L' := [some (.ref 36), some (.int p1)]) (st' := [.int 4, .int (p1 + 24), .ref 3]) 4 rfl ?_
  refine l1_callV hQ mt_X5_isMember mt_X2_little rfl rfl (o := 3) (ci := 1) (As := [.int (p1 + 24), .int 4]) (rest := []) rfl rfl rfl rfl rfl rfl (st1 := fun x1 => [.long x1]) (fun _ => rfl) (ok_X2_little hQ N c 3 (p1 + 24) 4 rfl) (fun x1 c2 => ?_)
  refine l1_many mt_X5_isMember (pc' := bif am_cc .le (j_cmp x1 400) 0 then 178 else 164) (L' := [some (.ref 36), some (.int p1), none, some (.long x1)]) (st' := []) 5 rfl ?_
  refine l1_bif rfl ?_ ?_
  · refine l1_many mt_X5_isMember (pc' := 181) (L' := [some (.ref 36), some (.int p1), none, some (.long x1)]) (st' := [.int x1.toInt32, .ref 36]) 3 rfl ?_
    refine l1_putI hQ mt_X5_isMember rfl (o := 36) (ci := 4) (k := 12) (a := 0) rfl rfl rfl rfl rfl rfl (fun c3 => ?_)
    refine l1_many mt_X5_isMember (pc' := 185) (L' := [some (.ref 36), some (.int p1), none, some (.long x1)]) (st' := [.ref 36]) 1 rfl ?_
    refine l1_getI hQ mt_X5_isMember rfl (o := 36) (ci := 4) (k := 8) (a := 0) (b := 0) rfl rfl rfl rfl rfl ?_
    refine l1_many mt_X5_isMember (pc' := bif am_cc .ne (c3.1 36 8) 0 then 224 else 191) (L' := [some (.ref 36), some (.int p1), none, some (.long x1)]) (st' := []) 1 rfl ?_
    refine l1_bin rfl ?_ ?_
    · refine l1_many mt_X5_isMember (pc' := 192) (L' := [some (.ref 36), some (.int p1), none, some (.long x1)]) (st' := [.ref 36]) 1 rfl ?_
      refine l1_getR hQ mt_X5_isMember rfl (o := 36) (ci := 4) (k := 0) (a := 1) (b := 2) rfl rfl rfl rfl rfl (q := 3) rfl ?_
      refine l1_many mt_X5_isMember (pc' := 200) (L' := [some (.ref 36), some (.int p1), none, some (.long x1)]) (st' := [.int 4, .int (p1 + 20), .ref 3]) 4 rfl ?_
      refine l1_callV hQ mt_X5_isMember mt_X2_little rfl rfl (o := 3) (ci := 1) (As := [.int (p1 + 20), .int 4]) (rest := []) rfl rfl rfl rfl rfl rfl (st1 := fun x4 => [.long x4]) (fun _ => rfl) (ok_X2_little hQ N c3 3 (p1 + 20) 4 rfl) (fun x4 c5 => ?_)
      refine l1_many mt_X5_isMember (pc' := bif am_cc .eq (j_cmp x4 x1) 0 then 224 else 208) (L' := [some (.ref 36), some (.int p1), none, some (.long x1)]) (st' := []) 3 rfl ?_
      refine l1_bif rfl ?_ ?_
      · refine l1_many mt_X5_isMember (pc' := 229) (L' := [some (.ref 36), some (.int p1), none, some (.long x1)]) (st' := [.int 1]) 2 rfl ?_
        exact l1_ret mt_X5_isMember rfl rfl rfl
      · refine l1_many mt_X5_isMember (pc' := 209) (L' := [some (.ref 36), some (.int p1), none, some (.long x1)]) (st' := [.ref 36]) 1 rfl ?_
        refine l1_getR hQ mt_X5_isMember rfl (o := 36) (ci := 4) (k := 2) (a := 1) (b := 2) rfl rfl rfl rfl rfl (q := 9) rfl ?_
        refine l1_many mt_X5_isMember (pc' := 218) (L' := [some (.ref 36), some (.int p1), none, some (.long x1)]) (st' := [.int (p1 + 20), .int 7, .ref 9]) 4 rfl ?_
        refine l1_callV hQ mt_X5_isMember mt_X6_tell rfl rfl (o := 9) (ci := 5) (As := [.int 7, .int (p1 + 20)]) (rest := []) rfl rfl rfl rfl rfl rfl (st1 := fun x6 => [.int x6]) (fun _ => rfl) (ok_X6_tell hQ c5 7 (p1 + 20)) (fun x6 c7 => ?_)
        refine l1_many mt_X5_isMember (pc' := bif am_cc .eq x6 0 then 228 else 224) (L' := [some (.ref 36), some (.int p1), none, some (.long x1)]) (st' := []) 1 rfl ?_
        refine l1_bif rfl ?_ ?_
        · refine l1_many mt_X5_isMember (pc' := 229) (L' := [some (.ref 36), some (.int p1), none, some (.long x1)]) (st' := [.int 0]) 1 rfl ?_
          exact l1_ret mt_X5_isMember rfl rfl rfl
        · refine l1_many mt_X5_isMember (pc' := 229) (L' := [some (.ref 36), some (.int p1), none, some (.long x1)]) (st' := [.int 1]) 2 rfl ?_
          exact l1_ret mt_X5_isMember rfl rfl rfl
    · refine l1_many mt_X5_isMember (pc' := 229) (L' := [some (.ref 36), some (.int p1), none, some (.long x1)]) (st' := [.int 1]) 2 rfl ?_
      exact l1_ret mt_X5_isMember rfl rfl rfl
  · refine l1_many mt_X5_isMember (pc' := 165) (L' := [some (.ref 36), some (.int p1), none, some (.long x1)]) (st' := [.ref 36]) 1 rfl ?_
    refine l1_getR hQ mt_X5_isMember rfl (o := 36) (ci := 4) (k := 2) (a := 1) (b := 2) rfl rfl rfl rfl rfl (q := 9) rfl ?_
    refine l1_many mt_X5_isMember (pc' := 174) (L' := [some (.ref 36), some (.int p1), none, some (.long x1)]) (st' := [.int (p1 + 24), .int 7, .ref 9]) 4 rfl ?_
    refine l1_callV hQ mt_X5_isMember mt_X6_tell rfl rfl (o := 9) (ci := 5) (As := [.int 7, .int (p1 + 24)]) (rest := []) rfl rfl rfl rfl rfl rfl (st1 := fun x8 => [.int x8]) (fun _ => rfl) (ok_X6_tell hQ c2 7 (p1 + 24)) (fun x8 c9 => ?_)
    refine l1_ck (fun hz => ?_)
    exact l1_retZ mt_X5_isMember rfl rfl rfl hz
set_option maxRecDepth 100000 in
theorem ok_X5_isMember_75 {Q : hS → am_H → Prop} (hQ : l1_em kc Q) (N : Nat) (p1 : Int32) : ∀ (c : hS) (w0 : Int32) (w1 : Int32), l1_G (wN wI) Q am_i_X5_isMember 75 [some (.ref 36), some (.int p1)] [.int w0, .int w1, .ref 3, .ref 5] c (f_X5_isMember_75 N p1 c w0 w1) := by
  intro c w0 w1
  rw [f_X5_isMember_75]
  refine l1_callV hQ mt_X5_isMember mt_X2_addRow rfl rfl (o := 5) (ci := 1) (As := [.ref 3, .int w1, .int w0]) (rest := []) rfl rfl rfl rfl rfl rfl (st1 := fun _ => []) (fun _ => rfl) (ok_X2_addRow hQ N c 5 3 w1 w0 rfl rfl) (fun _ c1 => ?_)
  refine l1_many mt_X5_isMember (pc' := 79) (L' := [some (.ref 36), some (.int p1)]) (st' := [.ref 36]) 1 rfl ?_
  refine l1_getI hQ mt_X5_isMember rfl (o := 36) (ci := 4) (k := 11) (a := 0) (b := 0) rfl rfl rfl rfl rfl ?_
  refine l1_many mt_X5_isMember (pc' := bif am_cc .eq (c1.1 36 11) 0 then 143 else 85) (L' := [some (.ref 36), some (.int p1)]) (st' := []) 1 rfl ?_
  refine l1_bif rfl ?_ ?_
  · exact ok_X5_isMember_143 hQ N p1 c1
  · refine l1_many mt_X5_isMember (pc' := 93) (L' := [some (.ref 36), some (.int p1)]) (st' := [.int 7, .int 2, .int (p1 + 10), .ref 36]) 6 rfl ?_
    refine l1_callV hQ mt_X5_isMember mt_X5_isZero rfl rfl (o := 36) (ci := 4) (As := [.int (p1 + 10), .int 2, .int 7]) (rest := []) rfl rfl rfl rfl rfl rfl (st1 := fun x2 => [.int x2]) (fun _ => rfl) (ok_X5_isZero hQ N c1 (p1 + 10) 2 7) (fun x2 c3 => ?_)
    refine l1_many mt_X5_isMember (pc' := bif am_cc .eq x2 0 then 141 else 99) (L' := [some (.ref 36), some (.int p1)]) (st' := []) 1 rfl ?_
    refine l1_bif rfl ?_ ?_
    · refine l1_many mt_X5_isMember (pc' := 142) (L' := [some (.ref 36), some (.int p1)]) (st' := [.int 0]) 1 rfl ?_
      exact l1_ret mt_X5_isMember rfl rfl rfl
    · refine l1_many mt_X5_isMember (pc' := 107) (L' := [some (.ref 36), some (.int p1)]) (st' := [.int 7, .int 4, .int (p1 + 16), .ref 36]) 6 rfl ?_
      refine l1_callV hQ mt_X5_isMember mt_X5_isZero rfl rfl (o := 36) (ci := 4) (As := [.int (p1 + 16), .int 4, .int 7]) (rest := []) rfl rfl rfl rfl rfl rfl (st1 := fun x4 => [.int x4]) (fun _ => rfl) (ok_X5_isZero hQ N c3 (p1 + 16) 4 7) (fun x4 c5 => ?_)
      refine l1_many mt_X5_isMember (pc' := bif am_cc .eq x4 0 then 141 else 113) (L' := [some (.ref 36), some (.int p1)]) (st' := []) 1 rfl ?_
      refine l1_bif rfl ?_ ?_
      · refine l1_many mt_X5_isMember (pc' := 142) (L' := [some (.ref 36), some (.int p1)]) (st' := [.int 0]) 1 rfl ?_
        exact l1_ret mt_X5_isMember rfl rfl rfl
      · refine l1_many mt_X5_isMember (pc' := 121) (L' := [some (.ref 36), some (.int p1)]) (st' := [.int 7, .int 4, .int (p1 + 20), .ref 36]) 6 rfl ?_
        refine l1_callV hQ mt_X5_isMember mt_X5_isZero rfl rfl (o := 36) (ci := 4) (As := [.int (p1 + 20), .int 4, .int 7]) (rest := []) rfl rfl rfl rfl rfl rfl (st1 := fun x6 => [.int x6]) (fun _ => rfl) (ok_X5_isZero hQ N c5 (p1 + 20) 4 7) (fun x6 c7 => ?_)
        refine l1_many mt_X5_isMember (pc' := bif am_cc .eq x6 0 then 141 else 127) (L' := [some (.ref 36), some (.int p1)]) (st' := []) 1 rfl ?_
        refine l1_bif rfl ?_ ?_
        · refine l1_many mt_X5_isMember (pc' := 142) (L' := [some (.ref 36), some (.int p1)]) (st' := [.int 0]) 1 rfl ?_
          exact l1_ret mt_X5_isMember rfl rfl rfl
        · refine l1_many mt_X5_isMember (pc' := 135) (L' := [some (.ref 36), some (.int p1)]) (st' := [.int 7, .int 4, .int (p1 + 24), .ref 36]) 6 rfl ?_
          refine l1_callV hQ mt_X5_isMember mt_X5_isZero rfl rfl (o := 36) (ci := 4) (As := [.int (p1 + 24), .int 4, .int 7]) (rest := []) rfl rfl rfl rfl rfl rfl (st1 := fun x8 => [.int x8]) (fun _ => rfl) (ok_X5_isZero hQ N c7 (p1 + 24) 4 7) (fun x8 c9 => ?_)
          refine l1_many mt_X5_isMember (pc' := bif am_cc .ne x8 0 then 143 else 141) (L' := [some (.ref 36), some (.int p1)]) (st' := []) 1 rfl ?_
          refine l1_bin rfl ?_ ?_
          · refine l1_many mt_X5_isMember (pc' := 142) (L' := [some (.ref 36), some (.int p1)]) (st' := [.int 0]) 1 rfl ?_
            exact l1_ret mt_X5_isMember rfl rfl rfl
          · exact ok_X5_isMember_143 hQ N p1 c9
set_option maxRecDepth 100000 in
theorem ok_X5_isMember_38 {Q : hS → am_H → Prop} (hQ : l1_em kc Q) (N : Nat) (p1 : Int32) : ∀ (c : hS) (v2 : Int32) (w0 : Int32), l1_G (wN wI) Q am_i_X5_isMember 38 [some (.ref 36), some (.int p1), some (.int v2)] [.int w0, .ref 36] c (f_X5_isMember_38 N p1 c v2 w0) := by
  intro c v2 w0
  rw [f_X5_isMember_38]
  refine l1_ck (fun hz => ?_)
  refine l1_putI hQ mt_X5_isMember rfl (o := 36) (ci := 4) (k := 11) (a := 0) rfl rfl rfl rfl rfl (l1_fz (ci := 4) (j := 11) rfl hz) (fun c1 => ?_)
  refine l1_many mt_X5_isMember (pc' := 42) (L' := [some (.ref 36), some (.int p1), some (.int v2)]) (st' := [.ref 36]) 1 rfl ?_
  refine l1_getR hQ mt_X5_isMember rfl (o := 36) (ci := 4) (k := 1) (a := 1) (b := 2) rfl rfl rfl rfl rfl (q := 5) rfl ?_
  refine l1_many mt_X5_isMember (pc' := 46) (L' := [some (.ref 36), some (.int p1), some (.int v2)]) (st' := [.int 0, .ref 5]) 1 rfl ?_
  refine l1_callV hQ mt_X5_isMember mt_X2_cutTo rfl rfl (o := 5) (ci := 1) (As := [.int 0]) (rest := []) rfl rfl rfl rfl rfl rfl (st1 := fun _ => []) (fun _ => rfl) (ok_X2_cutTo hQ c1 5 0 rfl) (fun _ c2 => ?_)
  refine l1_many mt_X5_isMember (pc' := 50) (L' := [some (.ref 36), some (.int p1), some (.int v2)]) (st' := [.ref 36]) 1 rfl ?_
  refine l1_getR hQ mt_X5_isMember rfl (o := 36) (ci := 4) (k := 1) (a := 1) (b := 2) rfl rfl rfl rfl rfl (q := 5) rfl ?_
  refine l1_many mt_X5_isMember (pc' := 54) (L' := [some (.ref 36), some (.int p1), some (.int v2)]) (st' := [.ref 36, .ref 5]) 1 rfl ?_
  refine l1_getR hQ mt_X5_isMember rfl (o := 36) (ci := 4) (k := 0) (a := 1) (b := 2) rfl rfl rfl rfl rfl (q := 3) rfl ?_
  refine l1_many mt_X5_isMember (pc' := 62) (L' := [some (.ref 36), some (.int p1), some (.int v2)]) (st' := [.ref 36, .int (p1 + 46), .ref 3, .ref 5]) 4 rfl ?_
  refine l1_getI hQ mt_X5_isMember rfl (o := 36) (ci := 4) (k := 11) (a := 0) (b := 0) rfl rfl rfl rfl rfl ?_
  refine l1_many mt_X5_isMember (pc' := bif am_cc .eq (c2.1 36 11) 0 then 72 else 68) (L' := [some (.ref 36), some (.int p1), some (.int v2)]) (st' := [.int (p1 + 46), .ref 3, .ref 5]) 1 rfl ?_
  refine l1_bif rfl ?_ ?_
  · refine l1_many mt_X5_isMember (pc' := 75) (L' := [some (.ref 36), some (.int p1), some (.int v2)]) (st' := [.int (v2 + 1), .int (p1 + 46), .ref 3, .ref 5]) 3 rfl ?_
    refine l1_weak (m := [true, true, false, false, false]) (L' := [some (.ref 36), some (.int p1)]) rfl ?_
    exact ok_X5_isMember_75 hQ N p1 c2 (v2 + 1) (p1 + 46)
  · refine l1_many mt_X5_isMember (pc' := 75) (L' := [some (.ref 36), some (.int p1), some (.int v2)]) (st' := [.int v2, .int (p1 + 46), .ref 3, .ref 5]) 2 rfl ?_
    refine l1_weak (m := [true, true, false, false, false]) (L' := [some (.ref 36), some (.int p1)]) rfl ?_
    exact ok_X5_isMember_75 hQ N p1 c2 v2 (p1 + 46)
set_option maxRecDepth 100000 in
theorem ok_X5_isMember_37 {Q : hS → am_H → Prop} (hQ : l1_em kc Q) (N : Nat) (p1 : Int32) : ∀ (c : hS) (v2 : Int32), l1_G (wN wI) Q am_i_X5_isMember 37 [some (.ref 36), some (.int p1), some (.int v2)] [.ref 36] c (f_X5_isMember_37 N p1 c v2) := by
  intro c v2
  rw [f_X5_isMember_37]
  refine l1_many mt_X5_isMember (pc' := 38) (L' := [some (.ref 36), some (.int p1), some (.int v2)]) (st' := [.int 0, .ref 36]) 1 rfl ?_
  exact ok_X5_isMember_38 hQ N p1 c v2 0
set_option maxRecDepth 100000 in
theorem en_X5_isMember {Q : hS → am_H → Prop} (hQ : l1_em kc Q) (N : Nat) (c : hS) (p1 : Int32) : l1_G (wN wI) Q am_i_X5_isMember 0 [some (.ref 36), some (.int p1)] [] c (f_X5_isMember N c p1) := by
  rw [f_X5_isMember]
  refine l1_many mt_X5_isMember (pc' := 5) (L' := [some (.ref 36), some (.int p1)]) (st' := [.ref 36, .int (p1 + 46)]) 4 rfl ?_
  refine l1_getI hQ mt_X5_isMember rfl (o := 36) (ci := 4) (k := 9) (a := 0) (b := 0) rfl rfl rfl rfl rfl ?_
  refine l1_many mt_X5_isMember (pc' := 14) (L' := [some (.ref 36), some (.int p1), some (.int (((p1 + 46) + (c.1 36 9)) - 1))]) (st' := [.ref 36, .ref 36]) 6 rfl ?_
  refine l1_getI hQ mt_X5_isMember rfl (o := 36) (ci := 4) (k := 9) (a := 0) (b := 0) rfl rfl rfl rfl rfl ?_
  refine l1_many mt_X5_isMember (pc' := bif am_cc .le (c.1 36 9) 0 then 37 else 20) (L' := [some (.ref 36), some (.int p1), some (.int (((p1 + 46) + (c.1 36 9)) - 1))]) (st' := [.ref 36]) 1 rfl ?_
  refine l1_bif rfl ?_ ?_
  · exact ok_X5_isMember_37 hQ N p1 c (((p1 + 46) + (c.1 36 9)) - 1)
  · refine l1_many mt_X5_isMember (pc' := 21) (L' := [some (.ref 36), some (.int p1), some (.int (((p1 + 46) + (c.1 36 9)) - 1))]) (st' := [.ref 36, .ref 36]) 1 rfl ?_
    refine l1_getR hQ mt_X5_isMember rfl (o := 36) (ci := 4) (k := 0) (a := 1) (b := 2) rfl rfl rfl rfl rfl (q := 3) rfl ?_
    refine l1_many mt_X5_isMember (pc' := 25) (L' := [some (.ref 36), some (.int p1), some (.int (((p1 + 46) + (c.1 36 9)) - 1))]) (st' := [.int (((p1 + 46) + (c.1 36 9)) - 1), .ref 3, .ref 36]) 1 rfl ?_
    refine l1_callV hQ mt_X5_isMember mt_X2_get rfl rfl (o := 3) (ci := 1) (As := [.int (((p1 + 46) + (c.1 36 9)) - 1)]) (rest := [.ref 36]) rfl rfl rfl rfl rfl rfl (st1 := fun x1 => [.int x1, .ref 36]) (fun _ => rfl) (ok_X2_get hQ c 3 (((p1 + 46) + (c.1 36 9)) - 1) rfl) (fun x1 c2 => ?_)
    refine l1_many mt_X5_isMember (pc' := bif am_cc .ne x1 47 then 37 else 33) (L' := [some (.ref 36), some (.int p1), some (.int (((p1 + 46) + (c.1 36 9)) - 1))]) (st' := [.ref 36]) 2 rfl ?_
    refine l1_bin rfl ?_ ?_
    · refine l1_many mt_X5_isMember (pc' := 38) (L' := [some (.ref 36), some (.int p1), some (.int (((p1 + 46) + (c.1 36 9)) - 1))]) (st' := [.int 1, .ref 36]) 2 rfl ?_
      exact ok_X5_isMember_38 hQ N p1 c2 (((p1 + 46) + (c.1 36 9)) - 1) 1
    · exact ok_X5_isMember_37 hQ N p1 c2 (((p1 + 46) + (c.1 36 9)) - 1)
theorem ok_X5_isMember {Q : hS → am_H → Prop} (hQ : l1_em kc Q) (N : Nat) (c : hS) (p1 : Int32) : l1_T wI Q am_i_X5_isMember [.ref 36, .int p1] c (f_X5_isMember N c p1) := l1_of (en_X5_isMember hQ N c p1) ⟨rfl, rfl, trivial⟩
set_option maxRecDepth 100000 in
theorem ok_X5_takeIn_138 {Q : hS → am_H → Prop} (hQ : l1_em kc Q) (N : Nat) (p1 : Nat) (hp1 : kc p1 = 8) {k34 : hS → Int32 → Int32 → Int32 → Option (Int32 × hS)} (hk34 : ∀ c v2 v3 v4, l1_G (wN wI) Q am_i_X5_takeIn 34 [some (.ref 36), some (.ref p1), some (.int v2), some (.int v3), some (.int v4)] [] c (k34 c v2 v3 v4)) : ∀ (c : hS) (v2 : Int32) (v3 : Int32) (v4 : Int32), l1_G (wN wI) Q am_i_X5_takeIn 138 [some (.ref 36), some (.ref p1), some (.int v2), some (.int v3), some (.int v4)] [] c (f_X5_takeIn_138 N p1 k34 c v2 v3 v4) := by
  intro c v2 v3 v4
  rw [f_X5_takeIn_138]
  refine l1_many mt_X5_takeIn (pc' := 140) (L' := [some (.ref 36), some (.ref p1), some (.int v2), some (.int v3), some (.int v4)]) (st' := [.int v3, .ref 36]) 2 rfl ?_
  refine l1_callV hQ mt_X5_takeIn mt_X5_isBody rfl rfl (o := 36) (ci := 4) (As := [.int v3]) (rest := []) rfl rfl rfl rfl rfl rfl (st1 := fun x1 => [.int x1]) (fun _ => rfl) (ok_X5_isBody hQ N c v3) (fun x1 c2 => ?_)
  refine l1_many mt_X5_takeIn (pc' := bif am_cc .eq x1 0 then 171 else 146) (L' := [some (.ref 36), some (.ref p1), some (.int v2), some (.int v3), some (.int v4)]) (st' := []) 1 rfl ?_
  refine l1_bif rfl ?_ ?_
  · refine l1_many mt_X5_takeIn (pc' := 172) (L' := [some (.ref 36), some (.ref p1), some (.int v2), some (.int v3), some (.int v4)]) (st' := [.int 0]) 1 rfl ?_
    exact l1_ret mt_X5_takeIn rfl rfl rfl
  · refine l1_many mt_X5_takeIn (pc' := 149) (L' := [some (.ref 36), some (.ref p1), some (.int v2), some (.int v3), some (.int v4)]) (st' := [.ref 36, .ref p1, .ref 36]) 3 rfl ?_
    refine l1_getI hQ mt_X5_takeIn rfl (o := 36) (ci := 4) (k := 11) (a := 0) (b := 0) rfl rfl rfl rfl rfl ?_
    refine l1_many mt_X5_takeIn (pc' := 153) (L' := [some (.ref 36), some (.ref p1), some (.int v2), some (.int v3), some (.int v4)]) (st' := [.ref 36, .int (c2.1 36 11), .ref p1, .ref 36]) 1 rfl ?_
    refine l1_getR hQ mt_X5_takeIn rfl (o := 36) (ci := 4) (k := 5) (a := 0) (b := 1) rfl rfl rfl rfl rfl (q := 7) rfl ?_
    refine l1_many mt_X5_takeIn (pc' := 158) (L' := [some (.ref 36), some (.ref p1), some (.int v2), some (.int v3), some (.int v4)]) (st' := [.ref 36, .int 0, .ref 7, .int (c2.1 36 11), .ref p1, .ref 36]) 2 rfl ?_
    refine l1_getR hQ mt_X5_takeIn rfl (o := 36) (ci := 4) (k := 5) (a := 0) (b := 1) rfl rfl rfl rfl rfl (q := 7) rfl ?_
    refine l1_callV hQ mt_X5_takeIn mt_X2_size rfl rfl (o := 7) (ci := 1) (As := []) (rest := [.int 0, .ref 7, .int (c2.1 36 11), .ref p1, .ref 36]) rfl rfl rfl rfl rfl rfl (st1 := fun x3 => [.int x3, .int 0, .ref 7, .int (c2.1 36 11), .ref p1, .ref 36]) (fun _ => rfl) (ok_X2_size hQ c2 7 rfl) (fun x3 c4 => ?_)
    refine l1_many mt_X5_takeIn (pc' := 165) (L' := [some (.ref 36), some (.ref p1), some (.int v2), some (.int v3), some (.int v4)]) (st' := [.int v3, .int x3, .int 0, .ref 7, .int (c2.1 36 11), .ref p1, .ref 36]) 1 rfl ?_
    refine l1_callV hQ mt_X5_takeIn mt_X0_arrives rfl rfl (o := 36) (ci := 4) (As := [.ref p1, .int (c2.1 36 11), .ref 7, .int 0, .int x3, .int v3]) (rest := []) rfl rfl rfl rfl rfl rfl (st1 := fun x5 => [.int x5]) (fun _ => rfl) (ok_X0_arrives_36 hQ N c4 p1 (c2.1 36 11) 7 0 x3 v3 hp1 rfl) (fun x5 c6 => ?_)
    refine l1_many mt_X5_takeIn (pc' := bif am_cc .ne x5 0 then 173 else 171) (L' := [some (.ref 36), some (.ref p1), some (.int v2), some (.int v3), some (.int v4)]) (st' := []) 1 rfl ?_
    refine l1_bin rfl ?_ ?_
    · refine l1_many mt_X5_takeIn (pc' := 172) (L' := [some (.ref 36), some (.ref p1), some (.int v2), some (.int v3), some (.int v4)]) (st' := [.int 0]) 1 rfl ?_
      exact l1_ret mt_X5_takeIn rfl rfl rfl
    · refine l1_many mt_X5_takeIn (pc' := 174) (L' := [some (.ref 36), some (.ref p1), some (.int v2), some (.int v3), some (.int v4)]) (st' := [.ref 36]) 1 rfl ?_
      refine l1_getI hQ mt_X5_takeIn rfl (o := 36) (ci := 4) (k := 10) (a := 0) (b := 0) rfl rfl rfl rfl rfl ?_
      refine l1_many mt_X5_takeIn (pc' := 34) (L' := [some (.ref 36), some (.ref p1), some (.int v2), some (.int (c6.1 36 10)), some (.int (v4 + 1))]) (st' := []) 3 rfl ?_
      exact hk34 c6 v2 (c6.1 36 10) (v4 + 1)
set_option maxRecDepth 100000 in
theorem ok_X5_takeIn_34 {Q : hS → am_H → Prop} (hQ : l1_em kc Q) (N : Nat) (p1 : Nat) (hp1 : kc p1 = 8) : ∀ n : Nat, ∀ (c : hS) (v2 : Int32) (v3 : Int32) (v4 : Int32), l1_G (wN wI) Q am_i_X5_takeIn 34 [some (.ref 36), some (.ref p1), some (.int v2), some (.int v3), some (.int v4)] [] c (f_X5_takeIn_34 N p1 n c v2 v3 v4) := by
  intro n
  induction n with
  | zero => intro c v2 v3 v4; exact l1_none
  | succ n ih =>
    intro c v2 v3 v4
    rw [f_X5_takeIn_34]
    refine l1_many mt_X5_takeIn (pc' := bif am_cc .ge v4 v2 then 184 else 40) (L' := [some (.ref 36), some (.ref p1), some (.int v2), some (.int v3), some (.int v4)]) (st' := []) 3 rfl ?_
    refine l1_bif rfl ?_ ?_
    · refine l1_many mt_X5_takeIn (pc' := 186) (L' := [some (.ref 36), some (.ref p1), some (.int v2), some (.int v3), some (.int v4)]) (st' := [.ref 36, .int v3]) 2 rfl ?_
      refine l1_getI hQ mt_X5_takeIn rfl (o := 36) (ci := 4) (k := 6) (a := 0) (b := 0) rfl rfl rfl rfl rfl ?_
      refine l1_many mt_X5_takeIn (pc' := bif am_cc .eq v3 (c.1 36 6) then 205 else 192) (L' := [some (.ref 36), some (.ref p1), some (.int v2), some (.int v3), some (.int v4)]) (st' := []) 1 rfl ?_
      refine l1_bif rfl ?_ ?_
      · refine l1_many mt_X5_takeIn (pc' := 210) (L' := [some (.ref 36), some (.ref p1), some (.int v2), some (.int v3), some (.int v4)]) (st' := [.int 1]) 2 rfl ?_
        exact l1_ret mt_X5_takeIn rfl rfl rfl
      · refine l1_many mt_X5_takeIn (pc' := 193) (L' := [some (.ref 36), some (.ref p1), some (.int v2), some (.int v3), some (.int v4)]) (st' := [.ref 36]) 1 rfl ?_
        refine l1_getR hQ mt_X5_takeIn rfl (o := 36) (ci := 4) (k := 2) (a := 1) (b := 2) rfl rfl rfl rfl rfl (q := 9) rfl ?_
        refine l1_many mt_X5_takeIn (pc' := 199) (L' := [some (.ref 36), some (.ref p1), some (.int v2), some (.int v3), some (.int v4)]) (st' := [.int v3, .int 12, .ref 9]) 2 rfl ?_
        refine l1_callV hQ mt_X5_takeIn mt_X6_tell rfl rfl (o := 9) (ci := 5) (As := [.int 12, .int v3]) (rest := []) rfl rfl rfl rfl rfl rfl (st1 := fun x1 => [.int x1]) (fun _ => rfl) (ok_X6_tell hQ c 12 v3) (fun x1 c2 => ?_)
        refine l1_many mt_X5_takeIn (pc' := bif am_cc .eq x1 0 then 209 else 205) (L' := [some (.ref 36), some (.ref p1), some (.int v2), some (.int v3), some (.int v4)]) (st' := []) 1 rfl ?_
        refine l1_bif rfl ?_ ?_
        · refine l1_many mt_X5_takeIn (pc' := 210) (L' := [some (.ref 36), some (.ref p1), some (.int v2), some (.int v3), some (.int v4)]) (st' := [.int 0]) 1 rfl ?_
          exact l1_ret mt_X5_takeIn rfl rfl rfl
        · refine l1_many mt_X5_takeIn (pc' := 210) (L' := [some (.ref 36), some (.ref p1), some (.int v2), some (.int v3), some (.int v4)]) (st' := [.int 1]) 2 rfl ?_
          exact l1_ret mt_X5_takeIn rfl rfl rfl
    · refine l1_many mt_X5_takeIn (pc' := 42) (L' := [some (.ref 36), some (.ref p1), some (.int v2), some (.int v3), some (.int v4)]) (st' := [.int v3, .ref 36]) 2 rfl ?_
      refine l1_callV hQ mt_X5_takeIn mt_X5_isEntry rfl rfl (o := 36) (ci := 4) (As := [.int v3]) (rest := []) rfl rfl rfl rfl rfl rfl (st1 := fun x3 => [.int x3]) (fun _ => rfl) (ok_X5_isEntry hQ N c v3) (fun x3 c4 => ?_)
      refine l1_many mt_X5_takeIn (pc' := bif am_cc .eq x3 0 then 75 else 48) (L' := [some (.ref 36), some (.ref p1), some (.int v2), some (.int v3), some (.int v4)]) (st' := []) 1 rfl ?_
      refine l1_bif rfl ?_ ?_
      · refine l1_many mt_X5_takeIn (pc' := 76) (L' := [some (.ref 36), some (.ref p1), some (.int v2), some (.int v3), some (.int v4)]) (st' := [.int 0]) 1 rfl ?_
        exact l1_ret mt_X5_takeIn rfl rfl rfl
      · refine l1_many mt_X5_takeIn (pc' := 50) (L' := [some (.ref 36), some (.ref p1), some (.int v2), some (.int v3), some (.int v4)]) (st' := [.int v3, .ref 36]) 2 rfl ?_
        refine l1_callV hQ mt_X5_takeIn mt_X5_isMember rfl rfl (o := 36) (ci := 4) (As := [.int v3]) (rest := []) rfl rfl rfl rfl rfl rfl (st1 := fun x5 => [.int x5]) (fun _ => rfl) (ok_X5_isMember hQ N c4 v3) (fun x5 c6 => ?_)
        refine l1_many mt_X5_takeIn (pc' := bif am_cc .eq x5 0 then 75 else 56) (L' := [some (.ref 36), some (.ref p1), some (.int v2), some (.int v3), some (.int v4)]) (st' := []) 1 rfl ?_
        refine l1_bif rfl ?_ ?_
        · refine l1_many mt_X5_takeIn (pc' := 76) (L' := [some (.ref 36), some (.ref p1), some (.int v2), some (.int v3), some (.int v4)]) (st' := [.int 0]) 1 rfl ?_
          exact l1_ret mt_X5_takeIn rfl rfl rfl
        · refine l1_many mt_X5_takeIn (pc' := 61) (L' := [some (.ref 36), some (.ref p1), some (.int v2), some (.int v3), some (.int v4)]) (st' := [.int (v3 + 46), .ref 36]) 4 rfl ?_
          refine l1_callV hQ mt_X5_takeIn mt_X0_isNamed rfl rfl (o := 36) (ci := 4) (As := [.int (v3 + 46)]) (rest := []) rfl rfl rfl rfl rfl rfl (st1 := fun x7 => [.int x7]) (fun _ => rfl) (ok_X0_isNamed_36 hQ N c6 (v3 + 46)) (fun x7 c8 => ?_)
          refine l1_many mt_X5_takeIn (pc' := bif am_cc .eq x7 0 then 75 else 67) (L' := [some (.ref 36), some (.ref p1), some (.int v2), some (.int v3), some (.int v4)]) (st' := []) 1 rfl ?_
          refine l1_bif rfl ?_ ?_
          · refine l1_many mt_X5_takeIn (pc' := 76) (L' := [some (.ref 36), some (.ref p1), some (.int v2), some (.int v3), some (.int v4)]) (st' := [.int 0]) 1 rfl ?_
            exact l1_ret mt_X5_takeIn rfl rfl rfl
          · refine l1_many mt_X5_takeIn (pc' := 69) (L' := [some (.ref 36), some (.ref p1), some (.int v2), some (.int v3), some (.int v4)]) (st' := [.int v3, .ref 36]) 2 rfl ?_
            refine l1_callV hQ mt_X5_takeIn mt_X5_isLocal rfl rfl (o := 36) (ci := 4) (As := [.int v3]) (rest := []) rfl rfl rfl rfl rfl rfl (st1 := fun x9 => [.int x9]) (fun _ => rfl) (ok_X5_isLocal hQ N c8 v3) (fun x9 c10 => ?_)
            refine l1_many mt_X5_takeIn (pc' := bif am_cc .ne x9 0 then 77 else 75) (L' := [some (.ref 36), some (.ref p1), some (.int v2), some (.int v3), some (.int v4)]) (st' := []) 1 rfl ?_
            refine l1_bin rfl ?_ ?_
            · refine l1_many mt_X5_takeIn (pc' := 76) (L' := [some (.ref 36), some (.ref p1), some (.int v2), some (.int v3), some (.int v4)]) (st' := [.int 0]) 1 rfl ?_
              exact l1_ret mt_X5_takeIn rfl rfl rfl
            · refine l1_many mt_X5_takeIn (pc' := 78) (L' := [some (.ref 36), some (.ref p1), some (.int v2), some (.int v3), some (.int v4)]) (st' := [.ref 36]) 1 rfl ?_
              refine l1_getI hQ mt_X5_takeIn rfl (o := 36) (ci := 4) (k := 8) (a := 0) (b := 0) rfl rfl rfl rfl rfl ?_
              refine l1_many mt_X5_takeIn (pc' := bif am_cc .ne (c10.1 36 8) 0 then 114 else 84) (L' := [some (.ref 36), some (.ref p1), some (.int v2), some (.int v3), some (.int v4)]) (st' := []) 1 rfl ?_
              refine l1_bin rfl ?_ ?_
              · refine l1_many mt_X5_takeIn (pc' := 85) (L' := [some (.ref 36), some (.ref p1), some (.int v2), some (.int v3), some (.int v4)]) (st' := [.ref 36]) 1 rfl ?_
                refine l1_getR hQ mt_X5_takeIn rfl (o := 36) (ci := 4) (k := 5) (a := 0) (b := 1) rfl rfl rfl rfl rfl (q := 7) rfl ?_
                refine l1_many mt_X5_takeIn (pc' := 89) (L' := [some (.ref 36), some (.ref p1), some (.int v2), some (.int v3), some (.int v4)]) (st' := [.int 0, .ref 7]) 1 rfl ?_
                refine l1_callV hQ mt_X5_takeIn mt_X2_cutTo rfl rfl (o := 7) (ci := 1) (As := [.int 0]) (rest := []) rfl rfl rfl rfl rfl rfl (st1 := fun _ => []) (fun _ => rfl) (ok_X2_cutTo hQ c10 7 0 rfl) (fun _ c13 => ?_)
                refine l1_many mt_X5_takeIn (pc' := 93) (L' := [some (.ref 36), some (.ref p1), some (.int v2), some (.int v3), some (.int v4)]) (st' := [.ref 36]) 1 rfl ?_
                refine l1_getR hQ mt_X5_takeIn rfl (o := 36) (ci := 4) (k := 5) (a := 0) (b := 1) rfl rfl rfl rfl rfl (q := 7) rfl ?_
                refine l1_many mt_X5_takeIn (pc' := 97) (L' := [some (.ref 36), some (.ref p1), some (.int v2), some (.int v3), some (.int v4)]) (st' := [.ref 36, .ref 7]) 1 rfl ?_
                refine l1_getR hQ mt_X5_takeIn rfl (o := 36) (ci := 4) (k := 0) (a := 1) (b := 2) rfl rfl rfl rfl rfl (q := 3) rfl ?_
                refine l1_many mt_X5_takeIn (pc' := 101) (L' := [some (.ref 36), some (.ref p1), some (.int v2), some (.int v3), some (.int v4)]) (st' := [.ref 36, .ref 3, .ref 7]) 1 rfl ?_
                refine l1_getI hQ mt_X5_takeIn rfl (o := 36) (ci := 4) (k := 14) (a := 0) (b := 0) rfl rfl rfl rfl rfl ?_
                refine l1_many mt_X5_takeIn (pc' := 105) (L' := [some (.ref 36), some (.ref p1), some (.int v2), some (.int v3), some (.int v4)]) (st' := [.ref 36, .int (c13.1 36 14), .ref 3, .ref 7]) 1 rfl ?_
                refine l1_getI hQ mt_X5_takeIn rfl (o := 36) (ci := 4) (k := 15) (a := 0) (b := 0) rfl rfl rfl rfl rfl ?_
                refine l1_callV hQ mt_X5_takeIn mt_X2_addRow rfl rfl (o := 7) (ci := 1) (As := [.ref 3, .int (c13.1 36 14), .int (c13.1 36 15)]) (rest := []) rfl rfl rfl rfl rfl rfl (st1 := fun _ => []) (fun _ => rfl) (ok_X2_addRow hQ N c13 7 3 (c13.1 36 14) (c13.1 36 15) rfl rfl) (fun _ c14 => ?_)
                refine l1_many mt_X5_takeIn (pc' := 138) (L' := [some (.ref 36), some (.ref p1), some (.int v2), some (.int v3), some (.int v4)]) (st' := []) 1 rfl ?_
                exact ok_X5_takeIn_138 hQ N p1 hp1 ih c14 v2 v3 v4
              · refine l1_many mt_X5_takeIn (pc' := 115) (L' := [some (.ref 36), some (.ref p1), some (.int v2), some (.int v3), some (.int v4)]) (st' := [.ref 36]) 1 rfl ?_
                refine l1_getR hQ mt_X5_takeIn rfl (o := 36) (ci := 4) (k := 4) (a := 0) (b := 1) rfl rfl rfl rfl rfl (q := 11) rfl ?_
                refine l1_many mt_X5_takeIn (pc' := 119) (L' := [some (.ref 36), some (.ref p1), some (.int v2), some (.int v3), some (.int v4)]) (st' := [.ref 36, .ref 11]) 1 rfl ?_
                refine l1_getI hQ mt_X5_takeIn rfl (o := 36) (ci := 4) (k := 14) (a := 0) (b := 0) rfl rfl rfl rfl rfl ?_
                refine l1_many mt_X5_takeIn (pc' := 123) (L' := [some (.ref 36), some (.ref p1), some (.int v2), some (.int v3), some (.int v4)]) (st' := [.ref 36, .int (c10.1 36 14), .ref 11]) 1 rfl ?_
                refine l1_getI hQ mt_X5_takeIn rfl (o := 36) (ci := 4) (k := 15) (a := 0) (b := 0) rfl rfl rfl rfl rfl ?_
                refine l1_many mt_X5_takeIn (pc' := 127) (L' := [some (.ref 36), some (.ref p1), some (.int v2), some (.int v3), some (.int v4)]) (st' := [.ref 36, .int (c10.1 36 15), .int (c10.1 36 14), .ref 11]) 1 rfl ?_
                refine l1_getI hQ mt_X5_takeIn rfl (o := 36) (ci := 4) (k := 12) (a := 0) (b := 0) rfl rfl rfl rfl rfl ?_
                refine l1_callV hQ mt_X5_takeIn mt_X10_open rfl rfl (o := 11) (ci := 9) (As := [.int (c10.1 36 14), .int (c10.1 36 15), .int (c10.1 36 12)]) (rest := []) rfl rfl rfl rfl rfl rfl (st1 := fun x11 => [.int x11]) (fun _ => rfl) (ok_X10_open hQ N c10 (c10.1 36 14) (c10.1 36 15) (c10.1 36 12)) (fun x11 c12 => ?_)
                refine l1_many mt_X5_takeIn (pc' := bif am_cc .ne x11 0 then 138 else 136) (L' := [some (.ref 36), some (.ref p1), some (.int v2), some (.int v3), some (.int v4)]) (st' := []) 1 rfl ?_
                refine l1_bin rfl ?_ ?_
                · refine l1_many mt_X5_takeIn (pc' := 137) (L' := [some (.ref 36), some (.ref p1), some (.int v2), some (.int v3), some (.int v4)]) (st' := [.int 0]) 1 rfl ?_
                  exact l1_ret mt_X5_takeIn rfl rfl rfl
                · exact ok_X5_takeIn_138 hQ N p1 hp1 ih c12 v2 v3 v4
set_option maxRecDepth 100000 in
theorem en_X5_takeIn {Q : hS → am_H → Prop} (hQ : l1_em kc Q) (N : Nat) (c : hS) (p1 : Nat) (hp1 : kc p1 = 8) : l1_G (wN wI) Q am_i_X5_takeIn 0 [some (.ref 36), some (.ref p1)] [] c (f_X5_takeIn N c p1) := by
  rw [f_X5_takeIn]
  refine l1_many mt_X5_takeIn (pc' := 1) (L' := [some (.ref 36), some (.ref p1)]) (st' := [.ref 36]) 1 rfl ?_
  refine l1_callV hQ mt_X5_takeIn mt_X5_isClosing rfl rfl (o := 36) (ci := 4) (As := []) (rest := []) rfl rfl rfl rfl rfl rfl (st1 := fun x1 => [.int x1]) (fun _ => rfl) (ok_X5_isClosing hQ N c) (fun x1 c2 => ?_)
  refine l1_many mt_X5_takeIn (pc' := bif am_cc .ne x1 0 then 9 else 7) (L' := [some (.ref 36), some (.ref p1)]) (st' := []) 1 rfl ?_
  refine l1_bin rfl ?_ ?_
  · refine l1_many mt_X5_takeIn (pc' := 8) (L' := [some (.ref 36), some (.ref p1)]) (st' := [.int 0]) 1 rfl ?_
    exact l1_ret mt_X5_takeIn rfl rfl rfl
  · refine l1_many mt_X5_takeIn (pc' := 10) (L' := [some (.ref 36), some (.ref p1)]) (st' := [.ref 36]) 1 rfl ?_
    refine l1_getR hQ mt_X5_takeIn rfl (o := 36) (ci := 4) (k := 0) (a := 1) (b := 2) rfl rfl rfl rfl rfl (q := 3) rfl ?_
    refine l1_many mt_X5_takeIn (pc' := 14) (L' := [some (.ref 36), some (.ref p1)]) (st' := [.ref 36, .ref 3]) 1 rfl ?_
    refine l1_getI hQ mt_X5_takeIn rfl (o := 36) (ci := 4) (k := 6) (a := 0) (b := 0) rfl rfl rfl rfl rfl ?_
    refine l1_many mt_X5_takeIn (pc' := 21) (L' := [some (.ref 36), some (.ref p1)]) (st' := [.int 2, .int ((c2.1 36 6) + 10), .ref 3]) 3 rfl ?_
    refine l1_callV hQ mt_X5_takeIn mt_X2_little rfl rfl (o := 3) (ci := 1) (As := [.int ((c2.1 36 6) + 10), .int 2]) (rest := []) rfl rfl rfl rfl rfl rfl (st1 := fun x3 => [.long x3]) (fun _ => rfl) (ok_X2_little hQ N c2 3 ((c2.1 36 6) + 10) 2 rfl) (fun x3 c4 => ?_)
    refine l1_many mt_X5_takeIn (pc' := 27) (L' := [some (.ref 36), some (.ref p1), some (.int x3.toInt32)]) (st' := [.ref 36]) 3 rfl ?_
    refine l1_getI hQ mt_X5_takeIn rfl (o := 36) (ci := 4) (k := 7) (a := 0) (b := 0) rfl rfl rfl rfl rfl ?_
    refine l1_many mt_X5_takeIn (pc' := 34) (L' := [some (.ref 36), some (.ref p1), some (.int x3.toInt32), some (.int (c4.1 36 7)), some (.int 0)]) (st' := []) 3 rfl ?_
    exact ok_X5_takeIn_34 hQ N p1 hp1 N c4 x3.toInt32 (c4.1 36 7) 0
theorem ok_X5_takeIn {Q : hS → am_H → Prop} (hQ : l1_em kc Q) (N : Nat) (c : hS) (p1 : Nat) (hp1 : kc p1 = 8) : l1_T wI Q am_i_X5_takeIn [.ref 36, .ref p1] c (f_X5_takeIn N c p1) := l1_of (en_X5_takeIn hQ N c p1 hp1) ⟨rfl, rfl, trivial⟩
set_option maxRecDepth 100000 in
theorem en_X5_titleBytes {Q : hS → am_H → Prop} (hQ : l1_em kc Q) (c : hS) (p0 : Nat) (hp0 : kc p0 = 6) : l1_G (wN wI) Q am_i_X5_titleBytes 0 [some (.ref p0)] [] c (f_X5_titleBytes c p0) := by
  rw [f_X5_titleBytes]
  refine l1_many mt_X5_titleBytes (pc' := 1) (L' := [some (.ref p0)]) (st' := [.ref p0]) 1 rfl ?_
  refine l1_getR hQ mt_X5_titleBytes rfl (o := p0) (ci := 6) (k := 0) (a := 2) (b := 2) hp0 rfl rfl rfl rfl (q := (p0 + 1)) rfl ?_
  refine l1_callV hQ mt_X5_titleBytes mt_X2_size rfl rfl (o := (p0 + 1)) (ci := 1) (As := []) (rest := []) rfl rfl (kc6_0 hp0) rfl rfl rfl (st1 := fun x1 => [.int x1]) (fun _ => rfl) (ok_X2_size hQ c (p0 + 1) (kc6_0 hp0)) (fun x1 c2 => ?_)
  refine l1_many mt_X5_titleBytes (pc' := 8) (L' := [some (.ref p0)]) (st' := [.ref p0, .int x1]) 1 rfl ?_
  refine l1_getI hQ mt_X5_titleBytes rfl (o := p0) (ci := 6) (k := 2) (a := 2) (b := 0) hp0 rfl rfl rfl rfl ?_
  refine l1_many mt_X5_titleBytes (pc' := bif am_cc .eq (c2.1 p0 2) 0 then 18 else 14) (L' := [some (.ref p0)]) (st' := [.int x1]) 1 rfl ?_
  refine l1_bif rfl ?_ ?_
  · refine l1_many mt_X5_titleBytes (pc' := 20) (L' := [some (.ref p0)]) (st' := [.int (x1 + 0)]) 2 rfl ?_
    exact l1_ret mt_X5_titleBytes rfl rfl rfl
  · refine l1_many mt_X5_titleBytes (pc' := 20) (L' := [some (.ref p0)]) (st' := [.int (x1 + 1)]) 3 rfl ?_
    exact l1_ret mt_X5_titleBytes rfl rfl rfl
theorem ok_X5_titleBytes {Q : hS → am_H → Prop} (hQ : l1_em kc Q) (c : hS) (p0 : Nat) (hp0 : kc p0 = 6) : l1_T wI Q am_i_X5_titleBytes [.ref p0] c (f_X5_titleBytes c p0) := l1_of (en_X5_titleBytes hQ c p0 hp0) ⟨rfl, trivial⟩
set_option maxRecDepth 100000 in
theorem ok_X5_addEntries_13 {Q : hS → am_H → Prop} (hQ : l1_em kc Q) (N : Nat) (p1 : Nat) (hp1 : kc p1 = 8) : ∀ n : Nat, ∀ (c : hS) (v2 : Int32) (v3 : Int32) (v4 : Int32), l1_G (wN wV) Q am_i_X5_addEntries 13 [some (.ref 36), some (.ref p1), some (.int v2), some (.int v3), some (.int v4)] [] c (f_X5_addEntries_13 N p1 n c v2 v3 v4) := by
  intro n
  induction n with
  | zero => intro c v2 v3 v4; exact l1_none
  | succ n ih =>
    intro c v2 v3 v4
    rw [f_X5_addEntries_13]
    refine l1_many mt_X5_addEntries (pc' := 16) (L' := [some (.ref 36), some (.ref p1), some (.int v2), some (.int v3), some (.int v4)]) (st' := [.ref p1, .int v4]) 2 rfl ?_
    refine l1_callV hQ mt_X5_addEntries mt_X9_size rfl rfl (o := p1) (ci := 8) (As := []) (rest := [.int v4]) rfl rfl hp1 rfl rfl rfl (st1 := fun x1 => [.int x1, .int v4]) (fun _ => rfl) (ok_X9_size hQ c p1 hp1) (fun x1 c2 => ?_)
    refine l1_many mt_X5_addEntries (pc' := bif am_cc .ge v4 x1 then 131 else 22) (L' := [some (.ref 36), some (.ref p1), some (.int v2), some (.int v3), some (.int v4)]) (st' := []) 1 rfl ?_
    refine l1_bif rfl ?_ ?_
    · refine l1_many mt_X5_addEntries (pc' := 132) (L' := [some (.ref 36), some (.ref p1), some (.int v2), some (.int v3), some (.int v4)]) (st' := [.ref 36]) 1 rfl ?_
      refine l1_getR hQ mt_X5_addEntries rfl (o := 36) (ci := 4) (k := 0) (a := 1) (b := 2) rfl rfl rfl rfl rfl (q := 3) rfl ?_
      refine l1_callV hQ mt_X5_addEntries mt_X2_size rfl rfl (o := 3) (ci := 1) (As := []) (rest := []) rfl rfl rfl rfl rfl rfl (st1 := fun x3 => [.int x3]) (fun _ => rfl) (ok_X2_size hQ c2 3 rfl) (fun x3 c4 => ?_)
      refine l1_many mt_X5_addEntries (pc' := 141) (L' := [some (.ref 36), some (.ref p1), some (.int v2), some (.int v3), some (.int x3)]) (st' := [.ref 36]) 2 rfl ?_
      refine l1_getR hQ mt_X5_addEntries rfl (o := 36) (ci := 4) (k := 0) (a := 1) (b := 2) rfl rfl rfl rfl rfl (q := 3) rfl ?_
      refine l1_many mt_X5_addEntries (pc' := 147) (L' := [some (.ref 36), some (.ref p1), some (.int v2), some (.int v3), some (.int x3)]) (st' := [.ref 1000000005, .ref 3]) 1 rfl ?_
      refine l1_callV hQ mt_X5_addEntries mt_X2_addMark rfl rfl (o := 3) (ci := 1) (As := [.ref 1000000005]) (rest := []) rfl rfl rfl rfl rfl rfl (st1 := fun _ => []) (fun _ => rfl) (ok_X2_addMark hQ N c4 3 sa5 rfl oa5) (fun _ c5 => ?_)
      refine l1_many mt_X5_addEntries (pc' := 151) (L' := [some (.ref 36), some (.ref p1), some (.int v2), some (.int v3), some (.int x3)]) (st' := [.ref 36]) 1 rfl ?_
      refine l1_getR hQ mt_X5_addEntries rfl (o := 36) (ci := 4) (k := 0) (a := 1) (b := 2) rfl rfl rfl rfl rfl (q := 3) rfl ?_
      refine l1_many mt_X5_addEntries (pc' := 155) (L' := [some (.ref 36), some (.ref p1), some (.int v2), some (.int v3), some (.int x3)]) (st' := [.int 4, .ref 3]) 1 rfl ?_
      refine l1_callV hQ mt_X5_addEntries mt_X2_addZeros rfl rfl (o := 3) (ci := 1) (As := [.int 4]) (rest := []) rfl rfl rfl rfl rfl rfl (st1 := fun _ => []) (fun _ => rfl) (ok_X2_addZeros hQ N c5 3 4 rfl) (fun _ c6 => ?_)
      refine l1_many mt_X5_addEntries (pc' := 159) (L' := [some (.ref 36), some (.ref p1), some (.int v2), some (.int v3), some (.int x3)]) (st' := [.ref 36]) 1 rfl ?_
      refine l1_getR hQ mt_X5_addEntries rfl (o := 36) (ci := 4) (k := 0) (a := 1) (b := 2) rfl rfl rfl rfl rfl (q := 3) rfl ?_
      refine l1_many mt_X5_addEntries (pc' := 163) (L' := [some (.ref 36), some (.ref p1), some (.int v2), some (.int v3), some (.int x3)]) (st' := [.ref p1, .ref 3]) 1 rfl ?_
      refine l1_callV hQ mt_X5_addEntries mt_X9_size rfl rfl (o := p1) (ci := 8) (As := []) (rest := [.ref 3]) rfl rfl hp1 rfl rfl rfl (st1 := fun x7 => [.int x7, .ref 3]) (fun _ => rfl) (ok_X9_size hQ c6 p1 hp1) (fun x7 c8 => ?_)
      refine l1_many mt_X5_addEntries (pc' := 168) (L' := [some (.ref 36), some (.ref p1), some (.int v2), some (.int v3), some (.int x3)]) (st' := [.int 2, .long x7.toInt64, .ref 3]) 2 rfl ?_
      refine l1_callV hQ mt_X5_addEntries mt_X2_addLittle rfl rfl (o := 3) (ci := 1) (As := [.long x7.toInt64, .int 2]) (rest := []) rfl rfl rfl rfl rfl rfl (st1 := fun _ => []) (fun _ => rfl) (ok_X2_addLittle hQ N c8 3 x7.toInt64 2 rfl) (fun _ c9 => ?_)
      refine l1_many mt_X5_addEntries (pc' := 172) (L' := [some (.ref 36), some (.ref p1), some (.int v2), some (.int v3), some (.int x3)]) (st' := [.ref 36]) 1 rfl ?_
      refine l1_getR hQ mt_X5_addEntries rfl (o := 36) (ci := 4) (k := 0) (a := 1) (b := 2) rfl rfl rfl rfl rfl (q := 3) rfl ?_
      refine l1_many mt_X5_addEntries (pc' := 176) (L' := [some (.ref 36), some (.ref p1), some (.int v2), some (.int v3), some (.int x3)]) (st' := [.ref p1, .ref 3]) 1 rfl ?_
      refine l1_callV hQ mt_X5_addEntries mt_X9_size rfl rfl (o := p1) (ci := 8) (As := []) (rest := [.ref 3]) rfl rfl hp1 rfl rfl rfl (st1 := fun x10 => [.int x10, .ref 3]) (fun _ => rfl) (ok_X9_size hQ c9 p1 hp1) (fun x10 c11 => ?_)
      refine l1_many mt_X5_addEntries (pc' := 181) (L' := [some (.ref 36), some (.ref p1), some (.int v2), some (.int v3), some (.int x3)]) (st' := [.int 2, .long x10.toInt64, .ref 3]) 2 rfl ?_
      refine l1_callV hQ mt_X5_addEntries mt_X2_addLittle rfl rfl (o := 3) (ci := 1) (As := [.long x10.toInt64, .int 2]) (rest := []) rfl rfl rfl rfl rfl rfl (st1 := fun _ => []) (fun _ => rfl) (ok_X2_addLittle hQ N c11 3 x10.toInt64 2 rfl) (fun _ c12 => ?_)
      refine l1_many mt_X5_addEntries (pc' := 185) (L' := [some (.ref 36), some (.ref p1), some (.int v2), some (.int v3), some (.int x3)]) (st' := [.ref 36]) 1 rfl ?_
      refine l1_getR hQ mt_X5_addEntries rfl (o := 36) (ci := 4) (k := 0) (a := 1) (b := 2) rfl rfl rfl rfl rfl (q := 3) rfl ?_
      refine l1_many mt_X5_addEntries (pc' := 194) (L' := [some (.ref 36), some (.ref p1), some (.int v2), some (.int v3), some (.int x3)]) (st' := [.int 4, .long ((x3 - v2).toInt64), .ref 3]) 5 rfl ?_
      refine l1_callV hQ mt_X5_addEntries mt_X2_addLittle rfl rfl (o := 3) (ci := 1) (As := [.long ((x3 - v2).toInt64), .int 4]) (rest := []) rfl rfl rfl rfl rfl rfl (st1 := fun _ => []) (fun _ => rfl) (ok_X2_addLittle hQ N c12 3 ((x3 - v2).toInt64) 4 rfl) (fun _ c13 => ?_)
      refine l1_many mt_X5_addEntries (pc' := 198) (L' := [some (.ref 36), some (.ref p1), some (.int v2), some (.int v3), some (.int x3)]) (st' := [.ref 36]) 1 rfl ?_
      refine l1_getR hQ mt_X5_addEntries rfl (o := 36) (ci := 4) (k := 0) (a := 1) (b := 2) rfl rfl rfl rfl rfl (q := 3) rfl ?_
      refine l1_many mt_X5_addEntries (pc' := 204) (L' := [some (.ref 36), some (.ref p1), some (.int v2), some (.int v3), some (.int x3)]) (st' := [.int 4, .long v2.toInt64, .ref 3]) 3 rfl ?_
      refine l1_callV hQ mt_X5_addEntries mt_X2_addLittle rfl rfl (o := 3) (ci := 1) (As := [.long v2.toInt64, .int 4]) (rest := []) rfl rfl rfl rfl rfl rfl (st1 := fun _ => []) (fun _ => rfl) (ok_X2_addLittle hQ N c13 3 v2.toInt64 4 rfl) (fun _ c14 => ?_)
      refine l1_many mt_X5_addEntries (pc' := 208) (L' := [some (.ref 36), some (.ref p1), some (.int v2), some (.int v3), some (.int x3)]) (st' := [.ref 36]) 1 rfl ?_
      refine l1_getR hQ mt_X5_addEntries rfl (o := 36) (ci := 4) (k := 0) (a := 1) (b := 2) rfl rfl rfl rfl rfl (q := 3) rfl ?_
      refine l1_many mt_X5_addEntries (pc' := 212) (L' := [some (.ref 36), some (.ref p1), some (.int v2), some (.int v3), some (.int x3)]) (st' := [.int 2, .ref 3]) 1 rfl ?_
      refine l1_callV hQ mt_X5_addEntries mt_X2_addZeros rfl rfl (o := 3) (ci := 1) (As := [.int 2]) (rest := []) rfl rfl rfl rfl rfl rfl (st1 := fun _ => []) (fun _ => rfl) (ok_X2_addZeros hQ N c14 3 2 rfl) (fun _ c15 => ?_)
      exact l1_ret mt_X5_addEntries rfl rfl rfl
    · refine l1_many mt_X5_addEntries (pc' := 25) (L' := [some (.ref 36), some (.ref p1), some (.int v2), some (.int v3), some (.int v4)]) (st' := [.int v4, .ref p1]) 2 rfl ?_
      refine l1_callV hQ mt_X5_addEntries mt_X9_member rfl rfl (o := p1) (ci := 8) (As := [.int v4]) (rest := []) rfl rfl hp1 rfl rfl rfl (st1 := fun x16 => l1_mv x16 :: []) (fun _ => rfl) (ok_X9_member hQ c2 p1 v4 hp1) (fun x16 c17 => ?_)
      refine l1_opt (x := x16) ?_ (fun y18 => ?_)
      · refine l1_many mt_X5_addEntries (pc' := 13) (L' := [some (.ref 36), some (.ref p1), some (.int v2), some (.int v3), some (.int (v4 + 1)), some (.null)]) (st' := []) 5 rfl ?_
        refine l1_weak (m := [true, true, true, true, true, false]) (L' := [some (.ref 36), some (.ref p1), some (.int v2), some (.int v3), some (.int (v4 + 1))]) rfl ?_
        exact ih c17 v2 v3 (v4 + 1)
      · refine l1_ck (fun hy => ?_)
        have hy18 : kc y18 = 6 := Nat.eq_of_beq_eq_true hy
        refine l1_many mt_X5_addEntries (pc' := 36) (L' := [some (.ref 36), some (.ref p1), some (.int v2), some (.int v3), some (.int v4), some (.ref y18)]) (st' := [.ref 36]) 4 rfl ?_
        refine l1_getR hQ mt_X5_addEntries rfl (o := 36) (ci := 4) (k := 0) (a := 1) (b := 2) rfl rfl rfl rfl rfl (q := 3) rfl ?_
        refine l1_many mt_X5_addEntries (pc' := 42) (L' := [some (.ref 36), some (.ref p1), some (.int v2), some (.int v3), some (.int v4), some (.ref y18)]) (st' := [.ref 1000000004, .ref 3]) 1 rfl ?_
        refine l1_callV hQ mt_X5_addEntries mt_X2_addMark rfl rfl (o := 3) (ci := 1) (As := [.ref 1000000004]) (rest := []) rfl rfl rfl rfl rfl rfl (st1 := fun _ => []) (fun _ => rfl) (ok_X2_addMark hQ N c17 3 sa4 rfl oa4) (fun _ c19 => ?_)
        refine l1_many mt_X5_addEntries (pc' := 46) (L' := [some (.ref 36), some (.ref p1), some (.int v2), some (.int v3), some (.int v4), some (.ref y18)]) (st' := [.ref 36]) 1 rfl ?_
        refine l1_getR hQ mt_X5_addEntries rfl (o := 36) (ci := 4) (k := 0) (a := 1) (b := 2) rfl rfl rfl rfl rfl (q := 3) rfl ?_
        refine l1_many mt_X5_addEntries (pc' := 53) (L' := [some (.ref 36), some (.ref p1), some (.int v2), some (.int v3), some (.int v4), some (.ref y18)]) (st' := [.int 2, .long 20, .ref 3]) 2 rfl ?_
        refine l1_callV hQ mt_X5_addEntries mt_X2_addLittle rfl rfl (o := 3) (ci := 1) (As := [.long 20, .int 2]) (rest := []) rfl rfl rfl rfl rfl rfl (st1 := fun _ => []) (fun _ => rfl) (ok_X2_addLittle hQ N c19 3 20 2 rfl) (fun _ c20 => ?_)
        refine l1_many mt_X5_addEntries (pc' := 57) (L' := [some (.ref 36), some (.ref p1), some (.int v2), some (.int v3), some (.int v4), some (.ref y18)]) (st' := [.ref 36]) 1 rfl ?_
        refine l1_getR hQ mt_X5_addEntries rfl (o := 36) (ci := 4) (k := 0) (a := 1) (b := 2) rfl rfl rfl rfl rfl (q := 3) rfl ?_
        refine l1_many mt_X5_addEntries (pc' := 61) (L' := [some (.ref 36), some (.ref p1), some (.int v2), some (.int v3), some (.int v4), some (.ref y18)]) (st' := [.ref 36, .ref 3]) 1 rfl ?_
        refine l1_getR hQ mt_X5_addEntries rfl (o := 36) (ci := 4) (k := 0) (a := 1) (b := 2) rfl rfl rfl rfl rfl (q := 3) rfl ?_
        refine l1_many mt_X5_addEntries (pc' := 71) (L' := [some (.ref 36), some (.ref p1), some (.int v2), some (.int v3), some (.int v4), some (.ref y18)]) (st' := [.int (v3 + 28), .int (v3 + 4), .ref 3, .ref 3]) 6 rfl ?_
        refine l1_callV hQ mt_X5_addEntries mt_X2_addRow rfl rfl (o := 3) (ci := 1) (As := [.ref 3, .int (v3 + 4), .int (v3 + 28)]) (rest := []) rfl rfl rfl rfl rfl rfl (st1 := fun _ => []) (fun _ => rfl) (ok_X2_addRow hQ N c20 3 3 (v3 + 4) (v3 + 28) rfl rfl) (fun _ c21 => ?_)
        refine l1_many mt_X5_addEntries (pc' := 75) (L' := [some (.ref 36), some (.ref p1), some (.int v2), some (.int v3), some (.int v4), some (.ref y18)]) (st' := [.ref 36]) 1 rfl ?_
        refine l1_getR hQ mt_X5_addEntries rfl (o := 36) (ci := 4) (k := 0) (a := 1) (b := 2) rfl rfl rfl rfl rfl (q := 3) rfl ?_
        refine l1_many mt_X5_addEntries (pc' := 80) (L' := [some (.ref 36), some (.ref p1), some (.int v2), some (.int v3), some (.int v4), some (.ref y18)]) (st' := [.int 12, .ref 3]) 1 rfl ?_
        refine l1_callV hQ mt_X5_addEntries mt_X2_addZeros rfl rfl (o := 3) (ci := 1) (As := [.int 12]) (rest := []) rfl rfl rfl rfl rfl rfl (st1 := fun _ => []) (fun _ => rfl) (ok_X2_addZeros hQ N c21 3 12 rfl) (fun _ c22 => ?_)
        refine l1_many mt_X5_addEntries (pc' := 84) (L' := [some (.ref 36), some (.ref p1), some (.int v2), some (.int v3), some (.int v4), some (.ref y18)]) (st' := [.ref 36]) 1 rfl ?_
        refine l1_getR hQ mt_X5_addEntries rfl (o := 36) (ci := 4) (k := 0) (a := 1) (b := 2) rfl rfl rfl rfl rfl (q := 3) rfl ?_
        refine l1_many mt_X5_addEntries (pc' := 90) (L' := [some (.ref 36), some (.ref p1), some (.int v2), some (.int v3), some (.int v4), some (.ref y18)]) (st' := [.int 4, .long v3.toInt64, .ref 3]) 3 rfl ?_
        refine l1_callV hQ mt_X5_addEntries mt_X2_addLittle rfl rfl (o := 3) (ci := 1) (As := [.long v3.toInt64, .int 4]) (rest := []) rfl rfl rfl rfl rfl rfl (st1 := fun _ => []) (fun _ => rfl) (ok_X2_addLittle hQ N c22 3 v3.toInt64 4 rfl) (fun _ c23 => ?_)
        refine l1_many mt_X5_addEntries (pc' := 97) (L' := [some (.ref 36), some (.ref p1), some (.int v2), some (.int v3), some (.int v4), some (.ref y18)]) (st' := [.int 1, .ref y18, .ref 36]) 3 rfl ?_
        refine l1_callV hQ mt_X5_addEntries mt_X0_addTitle rfl rfl (o := 36) (ci := 4) (As := [.ref y18, .int 1]) (rest := []) rfl rfl rfl rfl rfl rfl (st1 := fun _ => []) (fun _ => rfl) (ok_X0_addTitle_36 hQ N c23 y18 1 hy18) (fun _ c24 => ?_)
        refine l1_many mt_X5_addEntries (pc' := 105) (L' := [some (.ref 36), some (.ref p1), some (.int v2), some (.int v3), some (.int v4), some (.ref y18)]) (st' := [.ref y18, .int 30, .int v3]) 3 rfl ?_
        refine l1_callS mt_X5_addEntries mt_X5_titleBytes rfl rfl (As := [.ref y18]) (rest := [.int 30, .int v3]) rfl rfl rfl (st1 := fun x25 => [.int x25, .int 30, .int v3]) (fun _ => rfl) (ok_X5_titleBytes hQ c24 y18 hy18) (fun x25 c26 => ?_)
        refine l1_many mt_X5_addEntries (pc' := 110) (L' := [some (.ref 36), some (.ref p1), some (.int v2), some (.int v3), some (.int v4), some (.ref y18)]) (st' := [.ref 36, .int (30 + x25), .int v3]) 2 rfl ?_
        refine l1_getR hQ mt_X5_addEntries rfl (o := 36) (ci := 4) (k := 0) (a := 1) (b := 2) rfl rfl rfl rfl rfl (q := 3) rfl ?_
        refine l1_many mt_X5_addEntries (pc' := 118) (L' := [some (.ref 36), some (.ref p1), some (.int v2), some (.int v3), some (.int v4), some (.ref y18)]) (st' := [.int 4, .int (v3 + 18), .ref 3, .int (30 + x25), .int v3]) 4 rfl ?_
        refine l1_callV hQ mt_X5_addEntries mt_X2_little rfl rfl (o := 3) (ci := 1) (As := [.int (v3 + 18), .int 4]) (rest := [.int (30 + x25), .int v3]) rfl rfl rfl rfl rfl rfl (st1 := fun x27 => [.long x27, .int (30 + x25), .int v3]) (fun _ => rfl) (ok_X2_little hQ N c26 3 (v3 + 18) 4 rfl) (fun x27 c28 => ?_)
        refine l1_many mt_X5_addEntries (pc' := 13) (L' := [some (.ref 36), some (.ref p1), some (.int v2), some (.int (v3 + ((30 + x25) + x27.toInt32))), some (.int (v4 + 1)), some (.ref y18)]) (st' := []) 6 rfl ?_
        refine l1_weak (m := [true, true, true, true, true, false]) (L' := [some (.ref 36), some (.ref p1), some (.int v2), some (.int (v3 + ((30 + x25) + x27.toInt32))), some (.int (v4 + 1))]) rfl ?_
        exact ih c28 v2 (v3 + ((30 + x25) + x27.toInt32)) (v4 + 1)
set_option maxRecDepth 100000 in
theorem en_X5_addEntries {Q : hS → am_H → Prop} (hQ : l1_em kc Q) (N : Nat) (c : hS) (p1 : Nat) (hp1 : kc p1 = 8) : l1_G (wN wV) Q am_i_X5_addEntries 0 [some (.ref 36), some (.ref p1)] [] c (f_X5_addEntries N c p1) := by
  rw [f_X5_addEntries]
  refine l1_many mt_X5_addEntries (pc' := 1) (L' := [some (.ref 36), some (.ref p1)]) (st' := [.ref 36]) 1 rfl ?_
  refine l1_getR hQ mt_X5_addEntries rfl (o := 36) (ci := 4) (k := 0) (a := 1) (b := 2) rfl rfl rfl rfl rfl (q := 3) rfl ?_
  refine l1_callV hQ mt_X5_addEntries mt_X2_size rfl rfl (o := 3) (ci := 1) (As := []) (rest := []) rfl rfl rfl rfl rfl rfl (st1 := fun x1 => [.int x1]) (fun _ => rfl) (ok_X2_size hQ c 3 rfl) (fun x1 c2 => ?_)
  refine l1_many mt_X5_addEntries (pc' := 13) (L' := [some (.ref 36), some (.ref p1), some (.int x1), some (.int 0), some (.int 0)]) (st' := []) 5 rfl ?_
  exact ok_X5_addEntries_13 hQ N p1 hp1 N c2 x1 0 0
theorem ok_X5_addEntries {Q : hS → am_H → Prop} (hQ : l1_em kc Q) (N : Nat) (c : hS) (p1 : Nat) (hp1 : kc p1 = 8) : l1_T wV Q am_i_X5_addEntries [.ref 36, .ref p1] c (f_X5_addEntries N c p1) := l1_of (en_X5_addEntries hQ N c p1 hp1) ⟨rfl, rfl, trivial⟩
