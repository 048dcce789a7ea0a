/-! THAT THE MACHINE FOLLOWS THEM, printed by gen_l1.py -/
set_option maxRecDepth 100000 in
theorem ok_X12_writeEntry_100 {Q : hS → am_H → Prop} (hQ : l1_em km Q) (N : Nat) (p1 : Int32) : ∀ n : Nat, ∀ (c : hS) (v2 : Int32), l1_G (wN wV) Q am_i_X12_writeEntry 100 [some (.ref 201), some (.int p1), some (.int v2)] [] c (f_X12_writeEntry_100 N p1 n c v2) := by
  intro n
  induction n with
  | zero => intro c v2; exact l1_none
  | succ n ih =>
    intro c v2
    rw [f_X12_writeEntry_100]
    refine l1_many mt_X12_writeEntry (pc' := bif am_cc .ge v2 4 then 116 else 105) (L' := [some (.ref 201), some (.int p1), some (.int v2)]) (st' := []) 3 rfl ?_
    refine l1_bif rfl ?_ ?_
    · refine l1_many mt_X12_writeEntry (pc' := 118) (L' := [some (.ref 201), some (.int p1), some (.int v2)]) (st' := [.int 0, .ref 201]) 2 rfl ?_
      refine l1_callV hQ mt_X12_writeEntry mt_X12_putFour rfl rfl (o := 201) (ci := 11) (As := [.int 0]) (rest := []) rfl rfl rfl rfl rfl rfl (st1 := fun _ => []) (fun _ => rfl) (ok_X12_putFour hQ c 0) (fun _ c1 => ?_)
      refine l1_many mt_X12_writeEntry (pc' := 123) (L' := [some (.ref 201), some (.int p1), some (.int v2)]) (st' := [.ref 201, .ref 201]) 2 rfl ?_
      refine l1_getR hQ mt_X12_writeEntry rfl (o := 201) (ci := 11) (k := 36) (a := 0) (b := 0) rfl rfl rfl rfl rfl (q := 216) rfl ?_
      refine l1_many mt_X12_writeEntry (pc' := 127) (L' := [some (.ref 201), some (.int p1), some (.int v2)]) (st' := [.int p1, .ref 216, .ref 201]) 1 rfl ?_
      refine l1_ck (fun hx => ?_)
      refine l1_ald hQ mt_X12_writeEntry rfl (o := 216) rfl hx ?_
      refine l1_callV hQ mt_X12_writeEntry mt_X12_putFour rfl rfl (o := 201) (ci := 11) (As := [.int (c1.1 216 p1.toNatClampNeg)]) (rest := []) rfl rfl rfl rfl rfl rfl (st1 := fun _ => []) (fun _ => rfl) (ok_X12_putFour hQ c1 (c1.1 216 p1.toNatClampNeg)) (fun _ c2 => ?_)
      refine l1_many mt_X12_writeEntry (pc' := 134) (L' := [some (.ref 201), some (.int p1), some (.int v2)]) (st' := [.int 1, .int p1, .ref 201]) 3 rfl ?_
      refine l1_callV hQ mt_X12_writeEntry mt_X12_putName rfl rfl (o := 201) (ci := 11) (As := [.int p1, .int 1]) (rest := []) rfl rfl rfl rfl rfl rfl (st1 := fun _ => []) (fun _ => rfl) (ok_X12_putName hQ N c2 p1 1) (fun _ c3 => ?_)
      exact l1_ret mt_X12_writeEntry rfl rfl rfl
    · refine l1_many mt_X12_writeEntry (pc' := 107) (L' := [some (.ref 201), some (.int p1), some (.int v2)]) (st' := [.int 0, .ref 201]) 2 rfl ?_
      refine l1_callV hQ mt_X12_writeEntry mt_X12_putTwo rfl rfl (o := 201) (ci := 11) (As := [.int 0]) (rest := []) rfl rfl rfl rfl rfl rfl (st1 := fun _ => []) (fun _ => rfl) (ok_X12_putTwo hQ c 0) (fun _ c4 => ?_)
      refine l1_many mt_X12_writeEntry (pc' := 100) (L' := [some (.ref 201), some (.int p1), some (.int (v2 + 1))]) (st' := []) 2 rfl ?_
      exact ih c4 (v2 + 1)
set_option maxRecDepth 100000 in
theorem en_X12_writeEntry {Q : hS → am_H → Prop} (hQ : l1_em km Q) (N : Nat) (c : hS) (p1 : Int32) : l1_G (wN wV) Q am_i_X12_writeEntry 0 [some (.ref 201), some (.int p1)] [] c (f_X12_writeEntry N c p1) := by
  rw [f_X12_writeEntry]
  refine l1_many mt_X12_writeEntry (pc' := 3) (L' := [some (.ref 201), some (.int p1)]) (st' := [.int 80, .ref 201]) 2 rfl ?_
  refine l1_callV hQ mt_X12_writeEntry mt_X12_put rfl rfl (o := 201) (ci := 11) (As := [.int 80]) (rest := []) rfl rfl rfl rfl rfl rfl (st1 := fun _ => []) (fun _ => rfl) (ok_X12_put hQ c 80) (fun _ c1 => ?_)
  refine l1_many mt_X12_writeEntry (pc' := 9) (L' := [some (.ref 201), some (.int p1)]) (st' := [.int 75, .ref 201]) 2 rfl ?_
  refine l1_callV hQ mt_X12_writeEntry mt_X12_put rfl rfl (o := 201) (ci := 11) (As := [.int 75]) (rest := []) rfl rfl rfl rfl rfl rfl (st1 := fun _ => []) (fun _ => rfl) (ok_X12_put hQ c1 75) (fun _ c2 => ?_)
  refine l1_many mt_X12_writeEntry (pc' := 14) (L' := [some (.ref 201), some (.int p1)]) (st' := [.int 1, .ref 201]) 2 rfl ?_
  refine l1_callV hQ mt_X12_writeEntry mt_X12_put rfl rfl (o := 201) (ci := 11) (As := [.int 1]) (rest := []) rfl rfl rfl rfl rfl rfl (st1 := fun _ => []) (fun _ => rfl) (ok_X12_put hQ c2 1) (fun _ c3 => ?_)
  refine l1_many mt_X12_writeEntry (pc' := 19) (L' := [some (.ref 201), some (.int p1)]) (st' := [.int 2, .ref 201]) 2 rfl ?_
  refine l1_callV hQ mt_X12_writeEntry mt_X12_put rfl rfl (o := 201) (ci := 11) (As := [.int 2]) (rest := []) rfl rfl rfl rfl rfl rfl (st1 := fun _ => []) (fun _ => rfl) (ok_X12_put hQ c3 2) (fun _ c4 => ?_)
  refine l1_many mt_X12_writeEntry (pc' := 25) (L' := [some (.ref 201), some (.int p1)]) (st' := [.int 20, .ref 201]) 2 rfl ?_
  refine l1_callV hQ mt_X12_writeEntry mt_X12_putTwo rfl rfl (o := 201) (ci := 11) (As := [.int 20]) (rest := []) rfl rfl rfl rfl rfl rfl (st1 := fun _ => []) (fun _ => rfl) (ok_X12_putTwo hQ c4 20) (fun _ c5 => ?_)
  refine l1_many mt_X12_writeEntry (pc' := 31) (L' := [some (.ref 201), some (.int p1)]) (st' := [.int 20, .ref 201]) 2 rfl ?_
  refine l1_callV hQ mt_X12_writeEntry mt_X12_putTwo rfl rfl (o := 201) (ci := 11) (As := [.int 20]) (rest := []) rfl rfl rfl rfl rfl rfl (st1 := fun _ => []) (fun _ => rfl) (ok_X12_putTwo hQ c5 20) (fun _ c6 => ?_)
  refine l1_many mt_X12_writeEntry (pc' := 36) (L' := [some (.ref 201), some (.int p1)]) (st' := [.int 0, .ref 201]) 2 rfl ?_
  refine l1_callV hQ mt_X12_writeEntry mt_X12_putTwo rfl rfl (o := 201) (ci := 11) (As := [.int 0]) (rest := []) rfl rfl rfl rfl rfl rfl (st1 := fun _ => []) (fun _ => rfl) (ok_X12_putTwo hQ c6 0) (fun _ c7 => ?_)
  refine l1_many mt_X12_writeEntry (pc' := 41) (L' := [some (.ref 201), some (.int p1)]) (st' := [.ref 201, .ref 201]) 2 rfl ?_
  refine l1_getR hQ mt_X12_writeEntry rfl (o := 201) (ci := 11) (k := 37) (a := 0) (b := 0) rfl rfl rfl rfl rfl (q := 217) rfl ?_
  refine l1_many mt_X12_writeEntry (pc' := 45) (L' := [some (.ref 201), some (.int p1)]) (st' := [.int p1, .ref 217, .ref 201]) 1 rfl ?_
  refine l1_ck (fun hx => ?_)
  refine l1_ald hQ mt_X12_writeEntry rfl (o := 217) rfl hx ?_
  refine l1_callV hQ mt_X12_writeEntry mt_X12_putTwo rfl rfl (o := 201) (ci := 11) (As := [.int (c7.1 217 p1.toNatClampNeg)]) (rest := []) rfl rfl rfl rfl rfl rfl (st1 := fun _ => []) (fun _ => rfl) (ok_X12_putTwo hQ c7 (c7.1 217 p1.toNatClampNeg)) (fun _ c8 => ?_)
  refine l1_many mt_X12_writeEntry (pc' := 51) (L' := [some (.ref 201), some (.int p1)]) (st' := [.int 0, .ref 201]) 2 rfl ?_
  refine l1_callV hQ mt_X12_writeEntry mt_X12_putTwo rfl rfl (o := 201) (ci := 11) (As := [.int 0]) (rest := []) rfl rfl rfl rfl rfl rfl (st1 := fun _ => []) (fun _ => rfl) (ok_X12_putTwo hQ c8 0) (fun _ c9 => ?_)
  refine l1_many mt_X12_writeEntry (pc' := 57) (L' := [some (.ref 201), some (.int p1)]) (st' := [.int 33, .ref 201]) 2 rfl ?_
  refine l1_callV hQ mt_X12_writeEntry mt_X12_putTwo rfl rfl (o := 201) (ci := 11) (As := [.int 33]) (rest := []) rfl rfl rfl rfl rfl rfl (st1 := fun _ => []) (fun _ => rfl) (ok_X12_putTwo hQ c9 33) (fun _ c10 => ?_)
  refine l1_many mt_X12_writeEntry (pc' := 63) (L' := [some (.ref 201), some (.int p1)]) (st' := [.int p1, .ref 201, .ref 201]) 3 rfl ?_
  refine l1_callV hQ mt_X12_writeEntry mt_X12_checkOf rfl rfl (o := 201) (ci := 11) (As := [.int p1]) (rest := [.ref 201]) rfl rfl rfl rfl rfl rfl (st1 := fun x11 => [.int x11, .ref 201]) (fun _ => rfl) (ok_X12_checkOf hQ N c10 p1) (fun x11 c12 => ?_)
  refine l1_callV hQ mt_X12_writeEntry mt_X12_putFour rfl rfl (o := 201) (ci := 11) (As := [.int x11]) (rest := []) rfl rfl rfl rfl rfl rfl (st1 := fun _ => []) (fun _ => rfl) (ok_X12_putFour hQ c12 x11) (fun _ c13 => ?_)
  refine l1_many mt_X12_writeEntry (pc' := 71) (L' := [some (.ref 201), some (.int p1)]) (st' := [.ref 201, .ref 201]) 2 rfl ?_
  refine l1_getR hQ mt_X12_writeEntry rfl (o := 201) (ci := 11) (k := 38) (a := 0) (b := 0) rfl rfl rfl rfl rfl (q := 218) rfl ?_
  refine l1_many mt_X12_writeEntry (pc' := 75) (L' := [some (.ref 201), some (.int p1)]) (st' := [.int p1, .ref 218, .ref 201]) 1 rfl ?_
  refine l1_ck (fun hx => ?_)
  refine l1_ald hQ mt_X12_writeEntry rfl (o := 218) rfl hx ?_
  refine l1_callV hQ mt_X12_writeEntry mt_X12_putFour rfl rfl (o := 201) (ci := 11) (As := [.int (c13.1 218 p1.toNatClampNeg)]) (rest := []) rfl rfl rfl rfl rfl rfl (st1 := fun _ => []) (fun _ => rfl) (ok_X12_putFour hQ c13 (c13.1 218 p1.toNatClampNeg)) (fun _ c14 => ?_)
  refine l1_many mt_X12_writeEntry (pc' := 81) (L' := [some (.ref 201), some (.int p1)]) (st' := [.ref 201, .ref 201]) 2 rfl ?_
  refine l1_getR hQ mt_X12_writeEntry rfl (o := 201) (ci := 11) (k := 11) (a := 0) (b := 0) rfl rfl rfl rfl rfl (q := 206) rfl ?_
  refine l1_many mt_X12_writeEntry (pc' := 85) (L' := [some (.ref 201), some (.int p1)]) (st' := [.int p1, .ref 206, .ref 201]) 1 rfl ?_
  refine l1_ck (fun hx => ?_)
  refine l1_ald hQ mt_X12_writeEntry rfl (o := 206) rfl hx ?_
  refine l1_callV hQ mt_X12_writeEntry mt_X12_putFour rfl rfl (o := 201) (ci := 11) (As := [.int (c14.1 206 p1.toNatClampNeg)]) (rest := []) rfl rfl rfl rfl rfl rfl (st1 := fun _ => []) (fun _ => rfl) (ok_X12_putFour hQ c14 (c14.1 206 p1.toNatClampNeg)) (fun _ c15 => ?_)
  refine l1_many mt_X12_writeEntry (pc' := 92) (L' := [some (.ref 201), some (.int p1)]) (st' := [.int p1, .ref 201, .ref 201]) 3 rfl ?_
  refine l1_callV hQ mt_X12_writeEntry mt_X12_namedSize rfl rfl (o := 201) (ci := 11) (As := [.int p1]) (rest := [.ref 201]) rfl rfl rfl rfl rfl rfl (st1 := fun x16 => [.int x16, .ref 201]) (fun _ => rfl) (ok_X12_namedSize hQ c15 p1) (fun x16 c17 => ?_)
  refine l1_callV hQ mt_X12_writeEntry mt_X12_putTwo rfl rfl (o := 201) (ci := 11) (As := [.int x16]) (rest := []) rfl rfl rfl rfl rfl rfl (st1 := fun _ => []) (fun _ => rfl) (ok_X12_putTwo hQ c17 x16) (fun _ c18 => ?_)
  refine l1_many mt_X12_writeEntry (pc' := 100) (L' := [some (.ref 201), some (.int p1), some (.int 0)]) (st' := []) 2 rfl ?_
  exact ok_X12_writeEntry_100 hQ N p1 N c18 0
theorem ok_X12_writeEntry {Q : hS → am_H → Prop} (hQ : l1_em km Q) (N : Nat) (c : hS) (p1 : Int32) : l1_T wV Q am_i_X12_writeEntry [.ref 201, .int p1] c (f_X12_writeEntry N c p1) := l1_of (en_X12_writeEntry hQ N c p1) ⟨rfl, rfl, trivial⟩
set_option maxRecDepth 100000 in
theorem ok_X12_writeDirectory_29 {Q : hS → am_H → Prop} (hQ : l1_em km Q) (N : Nat) (p1 : Int32) : ∀ n : Nat, ∀ (c : hS) (v2 : Int32) (v3 : Int32), l1_G (wN wV) Q am_i_X12_writeDirectory 29 [some (.ref 201), none, some (.int v2), some (.int v3)] [] c (f_X12_writeDirectory_29 N p1 n c v2 v3) := by
  intro n
  induction n with
  | zero => intro c v2 v3; exact l1_none
  | succ n ih =>
    intro c v2 v3
    rw [f_X12_writeDirectory_29]
    refine l1_many mt_X12_writeDirectory (pc' := 31) (L' := [some (.ref 201), none, some (.int v2), some (.int v3)]) (st' := [.ref 201, .int v3]) 2 rfl ?_
    refine l1_getI hQ mt_X12_writeDirectory rfl (o := 201) (ci := 11) (k := 7) (a := 0) (b := 0) rfl rfl rfl rfl rfl ?_
    refine l1_many mt_X12_writeDirectory (pc' := bif am_cc .ge v3 (c.1 201 7) then 48 else 37) (L' := [some (.ref 201), none, some (.int v2), some (.int v3)]) (st' := []) 1 rfl ?_
    refine l1_bif rfl ?_ ?_
    · refine l1_many mt_X12_writeDirectory (pc' := 49) (L' := [some (.ref 201), none, some (.int v2), some (.int v3)]) (st' := [.ref 201]) 1 rfl ?_
      refine l1_getI hQ mt_X12_writeDirectory rfl (o := 201) (ci := 11) (k := 4) (a := 0) (b := 0) rfl rfl rfl rfl rfl ?_
      refine l1_many mt_X12_writeDirectory (pc' := 58) (L' := [some (.ref 201), none, some (.int v2), some (.int ((c.1 201 4) - v2))]) (st' := [.int 80, .ref 201]) 5 rfl ?_
      refine l1_callV hQ mt_X12_writeDirectory mt_X12_put rfl rfl (o := 201) (ci := 11) (As := [.int 80]) (rest := []) rfl rfl rfl rfl rfl rfl (st1 := fun _ => []) (fun _ => rfl) (ok_X12_put hQ c 80) (fun _ c1 => ?_)
      refine l1_many mt_X12_writeDirectory (pc' := 64) (L' := [some (.ref 201), none, some (.int v2), some (.int ((c.1 201 4) - v2))]) (st' := [.int 75, .ref 201]) 2 rfl ?_
      refine l1_callV hQ mt_X12_writeDirectory mt_X12_put rfl rfl (o := 201) (ci := 11) (As := [.int 75]) (rest := []) rfl rfl rfl rfl rfl rfl (st1 := fun _ => []) (fun _ => rfl) (ok_X12_put hQ c1 75) (fun _ c2 => ?_)
      refine l1_many mt_X12_writeDirectory (pc' := 69) (L' := [some (.ref 201), none, some (.int v2), some (.int ((c.1 201 4) - v2))]) (st' := [.int 5, .ref 201]) 2 rfl ?_
      refine l1_callV hQ mt_X12_writeDirectory mt_X12_put rfl rfl (o := 201) (ci := 11) (As := [.int 5]) (rest := []) rfl rfl rfl rfl rfl rfl (st1 := fun _ => []) (fun _ => rfl) (ok_X12_put hQ c2 5) (fun _ c3 => ?_)
      refine l1_many mt_X12_writeDirectory (pc' := 75) (L' := [some (.ref 201), none, some (.int v2), some (.int ((c.1 201 4) - v2))]) (st' := [.int 6, .ref 201]) 2 rfl ?_
      refine l1_callV hQ mt_X12_writeDirectory mt_X12_put rfl rfl (o := 201) (ci := 11) (As := [.int 6]) (rest := []) rfl rfl rfl rfl rfl rfl (st1 := fun _ => []) (fun _ => rfl) (ok_X12_put hQ c3 6) (fun _ c4 => ?_)
      refine l1_many mt_X12_writeDirectory (pc' := 80) (L' := [some (.ref 201), none, some (.int v2), some (.int ((c.1 201 4) - v2))]) (st' := [.int 0, .ref 201]) 2 rfl ?_
      refine l1_callV hQ mt_X12_writeDirectory mt_X12_putTwo rfl rfl (o := 201) (ci := 11) (As := [.int 0]) (rest := []) rfl rfl rfl rfl rfl rfl (st1 := fun _ => []) (fun _ => rfl) (ok_X12_putTwo hQ c4 0) (fun _ c5 => ?_)
      refine l1_many mt_X12_writeDirectory (pc' := 85) (L' := [some (.ref 201), none, some (.int v2), some (.int ((c.1 201 4) - v2))]) (st' := [.int 0, .ref 201]) 2 rfl ?_
      refine l1_callV hQ mt_X12_writeDirectory mt_X12_putTwo rfl rfl (o := 201) (ci := 11) (As := [.int 0]) (rest := []) rfl rfl rfl rfl rfl rfl (st1 := fun _ => []) (fun _ => rfl) (ok_X12_putTwo hQ c5 0) (fun _ c6 => ?_)
      refine l1_many mt_X12_writeDirectory (pc' := 90) (L' := [some (.ref 201), none, some (.int v2), some (.int ((c.1 201 4) - v2))]) (st' := [.ref 201, .ref 201]) 2 rfl ?_
      refine l1_getI hQ mt_X12_writeDirectory rfl (o := 201) (ci := 11) (k := 7) (a := 0) (b := 0) rfl rfl rfl rfl rfl ?_
      refine l1_callV hQ mt_X12_writeDirectory mt_X12_putTwo rfl rfl (o := 201) (ci := 11) (As := [.int (c6.1 201 7)]) (rest := []) rfl rfl rfl rfl rfl rfl (st1 := fun _ => []) (fun _ => rfl) (ok_X12_putTwo hQ c6 (c6.1 201 7)) (fun _ c7 => ?_)
      refine l1_many mt_X12_writeDirectory (pc' := 98) (L' := [some (.ref 201), none, some (.int v2), some (.int ((c.1 201 4) - v2))]) (st' := [.ref 201, .ref 201]) 2 rfl ?_
      refine l1_getI hQ mt_X12_writeDirectory rfl (o := 201) (ci := 11) (k := 7) (a := 0) (b := 0) rfl rfl rfl rfl rfl ?_
      refine l1_callV hQ mt_X12_writeDirectory mt_X12_putTwo rfl rfl (o := 201) (ci := 11) (As := [.int (c7.1 201 7)]) (rest := []) rfl rfl rfl rfl rfl rfl (st1 := fun _ => []) (fun _ => rfl) (ok_X12_putTwo hQ c7 (c7.1 201 7)) (fun _ c8 => ?_)
      refine l1_many mt_X12_writeDirectory (pc' := 106) (L' := [some (.ref 201), none, some (.int v2), some (.int ((c.1 201 4) - v2))]) (st' := [.int ((c.1 201 4) - v2), .ref 201]) 2 rfl ?_
      refine l1_callV hQ mt_X12_writeDirectory mt_X12_putFour rfl rfl (o := 201) (ci := 11) (As := [.int ((c.1 201 4) - v2)]) (rest := []) rfl rfl rfl rfl rfl rfl (st1 := fun _ => []) (fun _ => rfl) (ok_X12_putFour hQ c8 ((c.1 201 4) - v2)) (fun _ c9 => ?_)
      refine l1_many mt_X12_writeDirectory (pc' := 111) (L' := [some (.ref 201), none, some (.int v2), some (.int ((c.1 201 4) - v2))]) (st' := [.int v2, .ref 201]) 2 rfl ?_
      refine l1_callV hQ mt_X12_writeDirectory mt_X12_putFour rfl rfl (o := 201) (ci := 11) (As := [.int v2]) (rest := []) rfl rfl rfl rfl rfl rfl (st1 := fun _ => []) (fun _ => rfl) (ok_X12_putFour hQ c9 v2) (fun _ c10 => ?_)
      refine l1_many mt_X12_writeDirectory (pc' := 116) (L' := [some (.ref 201), none, some (.int v2), some (.int ((c.1 201 4) - v2))]) (st' := [.int 0, .ref 201]) 2 rfl ?_
      refine l1_callV hQ mt_X12_writeDirectory mt_X12_putTwo rfl rfl (o := 201) (ci := 11) (As := [.int 0]) (rest := []) rfl rfl rfl rfl rfl rfl (st1 := fun _ => []) (fun _ => rfl) (ok_X12_putTwo hQ c10 0) (fun _ c11 => ?_)
      exact l1_ret mt_X12_writeDirectory rfl rfl rfl
    · refine l1_many mt_X12_writeDirectory (pc' := 39) (L' := [some (.ref 201), none, some (.int v2), some (.int v3)]) (st' := [.int v3, .ref 201]) 2 rfl ?_
      refine l1_callV hQ mt_X12_writeDirectory mt_X12_writeEntry rfl rfl (o := 201) (ci := 11) (As := [.int v3]) (rest := []) rfl rfl rfl rfl rfl rfl (st1 := fun _ => []) (fun _ => rfl) (ok_X12_writeEntry hQ N c v3) (fun _ c12 => ?_)
      refine l1_many mt_X12_writeDirectory (pc' := 29) (L' := [some (.ref 201), none, some (.int v2), some (.int (v3 + 1))]) (st' := []) 2 rfl ?_
      exact ih c12 v2 (v3 + 1)
set_option maxRecDepth 100000 in
theorem ok_X12_writeDirectory_2 {Q : hS → am_H → Prop} (hQ : l1_em km Q) (N : Nat) (p1 : Int32) : ∀ n : Nat, ∀ (c : hS) (v2 : Int32), l1_G (wN wV) Q am_i_X12_writeDirectory 2 [some (.ref 201), some (.int p1), some (.int v2)] [] c (f_X12_writeDirectory_2 N p1 n c v2) := by
  intro n
  induction n with
  | zero => intro c v2; exact l1_none
  | succ n ih =>
    intro c v2
    rw [f_X12_writeDirectory_2]
    refine l1_many mt_X12_writeDirectory (pc' := 4) (L' := [some (.ref 201), some (.int p1), some (.int v2)]) (st' := [.ref 201, .int v2]) 2 rfl ?_
    refine l1_getI hQ mt_X12_writeDirectory rfl (o := 201) (ci := 11) (k := 7) (a := 0) (b := 0) rfl rfl rfl rfl rfl ?_
    refine l1_many mt_X12_writeDirectory (pc' := bif am_cc .ge v2 (c.1 201 7) then 22 else 10) (L' := [some (.ref 201), some (.int p1), some (.int v2)]) (st' := []) 1 rfl ?_
    refine l1_bif rfl ?_ ?_
    · refine l1_many mt_X12_writeDirectory (pc' := 23) (L' := [some (.ref 201), some (.int p1), some (.int v2)]) (st' := [.ref 201]) 1 rfl ?_
      refine l1_getI hQ mt_X12_writeDirectory rfl (o := 201) (ci := 11) (k := 4) (a := 0) (b := 0) rfl rfl rfl rfl rfl ?_
      refine l1_many mt_X12_writeDirectory (pc' := 29) (L' := [some (.ref 201), some (.int p1), some (.int (c.1 201 4)), some (.int 0)]) (st' := []) 3 rfl ?_
      refine l1_weak (m := [true, false, true, true]) (L' := [some (.ref 201), none, some (.int (c.1 201 4)), some (.int 0)]) rfl ?_
      exact ok_X12_writeDirectory_29 hQ N p1 N c (c.1 201 4) 0
    · refine l1_many mt_X12_writeDirectory (pc' := 13) (L' := [some (.ref 201), some (.int p1), some (.int v2)]) (st' := [.int p1, .int v2, .ref 201]) 3 rfl ?_
      refine l1_callV hQ mt_X12_writeDirectory mt_X12_writeLocal rfl rfl (o := 201) (ci := 11) (As := [.int v2, .int p1]) (rest := []) rfl rfl rfl rfl rfl rfl (st1 := fun _ => []) (fun _ => rfl) (ok_X12_writeLocal hQ N c v2 p1) (fun _ c1 => ?_)
      refine l1_many mt_X12_writeDirectory (pc' := 2) (L' := [some (.ref 201), some (.int p1), some (.int (v2 + 1))]) (st' := []) 2 rfl ?_
      exact ih c1 (v2 + 1)
set_option maxRecDepth 100000 in
theorem en_X12_writeDirectory {Q : hS → am_H → Prop} (hQ : l1_em km Q) (N : Nat) (c : hS) (p1 : Int32) : l1_G (wN wV) Q am_i_X12_writeDirectory 0 [some (.ref 201), some (.int p1)] [] c (f_X12_writeDirectory N c p1) := by
  rw [f_X12_writeDirectory]
  refine l1_many mt_X12_writeDirectory (pc' := 2) (L' := [some (.ref 201), some (.int p1), some (.int 0)]) (st' := []) 2 rfl ?_
  exact ok_X12_writeDirectory_2 hQ N p1 N c 0
theorem ok_X12_writeDirectory {Q : hS → am_H → Prop} (hQ : l1_em km Q) (N : Nat) (c : hS) (p1 : Int32) : l1_T wV Q am_i_X12_writeDirectory [.ref 201, .int p1] c (f_X12_writeDirectory N c p1) := l1_of (en_X12_writeDirectory hQ N c p1) ⟨rfl, rfl, trivial⟩
set_option maxRecDepth 100000 in
theorem ok_X12_write_43 {Q : hS → am_H → Prop} (hQ : l1_em km Q) (N : Nat) (p1 : Int32) (p2 : Int32) : ∀ n : Nat, ∀ (c : hS) (v3 : Int32), l1_G (wN wI) Q am_i_X12_write 43 [some (.ref 201), none, none, some (.int v3)] [] c (f_X12_write_43 N p1 p2 n c v3) := by
  intro n
  induction n with
  | zero => intro c v3; exact l1_none
  | succ n ih =>
    intro c v3
    rw [f_X12_write_43]
    refine l1_many mt_X12_write (pc' := 45) (L' := [some (.ref 201), none, none, some (.int v3)]) (st' := [.ref 201, .int v3]) 2 rfl ?_
    refine l1_getI hQ mt_X12_write rfl (o := 201) (ci := 11) (k := 7) (a := 0) (b := 0) rfl rfl rfl rfl rfl ?_
    refine l1_many mt_X12_write (pc' := bif am_cc .ge v3 (c.1 201 7) then 62 else 51) (L' := [some (.ref 201), none, none, some (.int v3)]) (st' := []) 1 rfl ?_
    refine l1_bif rfl ?_ ?_
    · refine l1_many mt_X12_write (pc' := 64) (L' := [some (.ref 201), none, none, some (.int v3)]) (st' := [.ref 201, .ref 201]) 2 rfl ?_
      refine l1_getI hQ mt_X12_write rfl (o := 201) (ci := 11) (k := 4) (a := 0) (b := 0) rfl rfl rfl rfl rfl ?_
      refine l1_many mt_X12_write (pc' := 71) (L' := [some (.ref 201), none, none, some (.int v3)]) (st' := [.int ((c.1 201 4) + 1024), .ref 201]) 2 rfl ?_
      refine l1_callV hQ mt_X12_write mt_X12_putZeros rfl rfl (o := 201) (ci := 11) (As := [.int ((c.1 201 4) + 1024)]) (rest := []) rfl rfl rfl rfl rfl rfl (st1 := fun _ => []) (fun _ => rfl) (ok_X12_putZeros hQ N c ((c.1 201 4) + 1024)) (fun _ c1 => ?_)
      refine l1_many mt_X12_write (pc' := 95) (L' := [some (.ref 201), none, none, some (.int v3)]) (st' := [.ref 201]) 2 rfl ?_
      refine l1_getI hQ mt_X12_write rfl (o := 201) (ci := 11) (k := 4) (a := 0) (b := 0) rfl rfl rfl rfl rfl ?_
      exact l1_ret mt_X12_write rfl rfl rfl
    · refine l1_many mt_X12_write (pc' := 53) (L' := [some (.ref 201), none, none, some (.int v3)]) (st' := [.int v3, .ref 201]) 2 rfl ?_
      refine l1_callV hQ mt_X12_write mt_X12_writeBlock rfl rfl (o := 201) (ci := 11) (As := [.int v3]) (rest := []) rfl rfl rfl rfl rfl rfl (st1 := fun _ => []) (fun _ => rfl) (ok_X12_writeBlock hQ N c v3) (fun _ c2 => ?_)
      refine l1_many mt_X12_write (pc' := 43) (L' := [some (.ref 201), none, none, some (.int (v3 + 1))]) (st' := []) 2 rfl ?_
      exact ih c2 (v3 + 1)
set_option maxRecDepth 100000 in
theorem ok_X12_write_23 {Q : hS → am_H → Prop} (hQ : l1_em km Q) (N : Nat) (p1 : Int32) (p2 : Int32) : ∀ (c : hS) (w0 : Int32), l1_G (wN wI) Q am_i_X12_write 23 [some (.ref 201), some (.int p1), some (.int p2)] [.int w0, .ref 201] c (f_X12_write_23 N p1 p2 c w0) := by
  intro c w0
  rw [f_X12_write_23]
  refine l1_many mt_X12_write (pc' := 24) (L' := [some (.ref 201), some (.int p1), some (.int p2)]) (st' := [.int 1, .int w0, .ref 201]) 1 rfl ?_
  refine l1_callV hQ mt_X12_write mt_X12_refuses rfl rfl (o := 201) (ci := 11) (As := [.int w0, .int 1]) (rest := []) rfl rfl rfl rfl rfl rfl (st1 := fun x1 => [.int x1]) (fun _ => rfl) (ok_X12_refuses hQ c w0 1) (fun x1 c2 => ?_)
  refine l1_many mt_X12_write (pc' := bif am_cc .eq x1 0 then 32 else 30) (L' := [some (.ref 201), some (.int p1), some (.int p2)]) (st' := []) 1 rfl ?_
  refine l1_bif rfl ?_ ?_
  · refine l1_many mt_X12_write (pc' := 34) (L' := [some (.ref 201), some (.int p1), some (.int p2)]) (st' := [.int 0, .ref 201]) 2 rfl ?_
    refine l1_putI hQ mt_X12_write rfl (o := 201) (ci := 11) (k := 4) (a := 0) rfl rfl rfl rfl rfl rfl (fun c3 => ?_)
    refine l1_many mt_X12_write (pc' := bif am_cc .ne p1 0 then 77 else 41) (L' := [some (.ref 201), some (.int p1), some (.int p2)]) (st' := []) 2 rfl ?_
    refine l1_bin rfl ?_ ?_
    · refine l1_many mt_X12_write (pc' := 43) (L' := [some (.ref 201), some (.int p1), some (.int p2), some (.int 0)]) (st' := []) 2 rfl ?_
      refine l1_weak (m := [true, false, false, true]) (L' := [some (.ref 201), none, none, some (.int 0)]) rfl ?_
      exact ok_X12_write_43 hQ N p1 p2 N c3 0
    · refine l1_many mt_X12_write (pc' := bif am_cc .ne p1 1 then 89 else 82) (L' := [some (.ref 201), some (.int p1), some (.int p2)]) (st' := []) 3 rfl ?_
      refine l1_bin rfl ?_ ?_
      · refine l1_many mt_X12_write (pc' := 83) (L' := [some (.ref 201), some (.int p1), some (.int p2)]) (st' := [.ref 201]) 1 rfl ?_
        refine l1_callV hQ mt_X12_write mt_X12_writeDigits rfl rfl (o := 201) (ci := 11) (As := []) (rest := []) rfl rfl rfl rfl rfl rfl (st1 := fun _ => []) (fun _ => rfl) (ok_X12_writeDigits hQ N c3) (fun _ c5 => ?_)
        refine l1_many mt_X12_write (pc' := 95) (L' := [some (.ref 201), some (.int p1), some (.int p2)]) (st' := [.ref 201]) 2 rfl ?_
        refine l1_getI hQ mt_X12_write rfl (o := 201) (ci := 11) (k := 4) (a := 0) (b := 0) rfl rfl rfl rfl rfl ?_
        exact l1_ret mt_X12_write rfl rfl rfl
      · refine l1_many mt_X12_write (pc' := 91) (L' := [some (.ref 201), some (.int p1), some (.int p2)]) (st' := [.int p2, .ref 201]) 2 rfl ?_
        refine l1_callV hQ mt_X12_write mt_X12_writeDirectory rfl rfl (o := 201) (ci := 11) (As := [.int p2]) (rest := []) rfl rfl rfl rfl rfl rfl (st1 := fun _ => []) (fun _ => rfl) (ok_X12_writeDirectory hQ N c3 p2) (fun _ c4 => ?_)
        refine l1_many mt_X12_write (pc' := 95) (L' := [some (.ref 201), some (.int p1), some (.int p2)]) (st' := [.ref 201]) 1 rfl ?_
        refine l1_getI hQ mt_X12_write rfl (o := 201) (ci := 11) (k := 4) (a := 0) (b := 0) rfl rfl rfl rfl rfl ?_
        exact l1_ret mt_X12_write rfl rfl rfl
  · refine l1_many mt_X12_write (pc' := 31) (L' := [some (.ref 201), some (.int p1), some (.int p2)]) (st' := [.int 0]) 1 rfl ?_
    exact l1_ret mt_X12_write rfl rfl rfl
set_option maxRecDepth 100000 in
theorem en_X12_write {Q : hS → am_H → Prop} (hQ : l1_em km Q) (N : Nat) (c : hS) (p1 : Int32) (p2 : Int32) : l1_G (wN wI) Q am_i_X12_write 0 [some (.ref 201), some (.int p1), some (.int p2)] [] c (f_X12_write N c p1 p2) := by
  rw [f_X12_write]
  refine l1_many mt_X12_write (pc' := 2) (L' := [some (.ref 201), some (.int p1), some (.int p2)]) (st' := [.int 0, .ref 201]) 2 rfl ?_
  refine l1_putI hQ mt_X12_write rfl (o := 201) (ci := 11) (k := 0) (a := 0) rfl rfl rfl rfl rfl rfl (fun c1 => ?_)
  refine l1_many mt_X12_write (pc' := 12) (L' := [some (.ref 201), some (.int p1), some (.int p2)]) (st' := [.long 2, .long 0, .long p1.toInt64, .ref 201]) 5 rfl ?_
  refine l1_callS mt_X12_write mt_X12_in rfl rfl (As := [.long p1.toInt64, .long 0, .long 2]) (rest := [.ref 201]) rfl rfl rfl (st1 := fun x2 => [.int x2, .ref 201]) (fun _ => rfl) (ok_X12_in hQ c1 p1.toInt64 0 2) (fun x2 c3 => ?_)
  refine l1_many mt_X12_write (pc' := bif am_cc .ne x2 0 then 22 else 18) (L' := [some (.ref 201), some (.int p1), some (.int p2)]) (st' := [.ref 201]) 1 rfl ?_
  refine l1_bin rfl ?_ ?_
  · refine l1_many mt_X12_write (pc' := 23) (L' := [some (.ref 201), some (.int p1), some (.int p2)]) (st' := [.int 1, .ref 201]) 2 rfl ?_
    exact ok_X12_write_23 hQ N p1 p2 c3 1
  · refine l1_many mt_X12_write (pc' := 23) (L' := [some (.ref 201), some (.int p1), some (.int p2)]) (st' := [.int 0, .ref 201]) 1 rfl ?_
    exact ok_X12_write_23 hQ N p1 p2 c3 0
theorem ok_X12_write {Q : hS → am_H → Prop} (hQ : l1_em km Q) (N : Nat) (c : hS) (p1 : Int32) (p2 : Int32) : l1_T wI Q am_i_X12_write [.ref 201, .int p1, .int p2] c (f_X12_write N c p1 p2) := l1_of (en_X12_write hQ N c p1 p2) ⟨rfl, rfl, rfl, trivial⟩
