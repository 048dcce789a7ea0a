/-! THAT THE MACHINE FOLLOWS THEM, printed by gen_l1.py -/
set_option maxRecDepth 100000 in
theorem ok_X12_putName_2 {Q : hS → am_H → Prop} (hQ : l1_em km Q) (N : Nat) (p1 : Int32) (p2 : Int32) : ∀ n : Nat, ∀ (c : hS) (v3 : Int32), l1_G (wN wV) Q am_i_X12_putName 2 [some (.ref 201), some (.int p1), some (.int p2), some (.int v3)] [] c (f_X12_putName_2 N p1 p2 n c v3) := by
  intro n
  induction n with
  | zero => intro c v3; exact l1_none
  | succ n ih =>
    intro c v3
    rw [f_X12_putName_2]
    refine l1_many mt_X12_putName (pc' := 4) (L' := [some (.ref 201), some (.int p1), some (.int p2), some (.int v3)]) (st' := [.ref 201, .int v3]) 2 rfl ?_
    refine l1_getR hQ mt_X12_putName rfl (o := 201) (ci := 11) (k := 9) (a := 0) (b := 0) rfl rfl rfl rfl rfl (q := 204) rfl ?_
    refine l1_many mt_X12_putName (pc' := 8) (L' := [some (.ref 201), some (.int p1), some (.int p2), some (.int v3)]) (st' := [.int p1, .ref 204, .int v3]) 1 rfl ?_
    refine l1_ck (fun hx => ?_)
    refine l1_ald hQ mt_X12_putName rfl (o := 204) rfl hx ?_
    refine l1_many mt_X12_putName (pc' := bif am_cc .ge v3 (c.1 204 p1.toNatClampNeg) then 28 else 12) (L' := [some (.ref 201), some (.int p1), some (.int p2), some (.int v3)]) (st' := []) 1 rfl ?_
    refine l1_bif rfl ?_ ?_
    · refine l1_many mt_X12_putName (pc' := bif am_cc .eq p2 0 then 47 else 32) (L' := [some (.ref 201), some (.int p1), some (.int p2), some (.int v3)]) (st' := []) 2 rfl ?_
      refine l1_bif rfl ?_ ?_
      · exact l1_ret mt_X12_putName rfl rfl rfl
      · refine l1_many mt_X12_putName (pc' := 33) (L' := [some (.ref 201), some (.int p1), some (.int p2), some (.int v3)]) (st' := [.ref 201]) 1 rfl ?_
        refine l1_getR hQ mt_X12_putName rfl (o := 201) (ci := 11) (k := 13) (a := 0) (b := 0) rfl rfl rfl rfl rfl (q := 208) rfl ?_
        refine l1_many mt_X12_putName (pc' := 37) (L' := [some (.ref 201), some (.int p1), some (.int p2), some (.int v3)]) (st' := [.int p1, .ref 208]) 1 rfl ?_
        refine l1_ck (fun hx => ?_)
        refine l1_bld hQ mt_X12_putName rfl (o := 208) rfl hx ?_
        refine l1_many mt_X12_putName (pc' := bif am_cc .eq (c.1 208 p1.toNatClampNeg) 0 then 47 else 41) (L' := [some (.ref 201), some (.int p1), some (.int p2), some (.int v3)]) (st' := []) 1 rfl ?_
        refine l1_bif rfl ?_ ?_
        · exact l1_ret mt_X12_putName rfl rfl rfl
        · refine l1_many mt_X12_putName (pc' := 44) (L' := [some (.ref 201), some (.int p1), some (.int p2), some (.int v3)]) (st' := [.int 47, .ref 201]) 2 rfl ?_
          refine l1_callV hQ mt_X12_putName mt_X12_put rfl rfl (o := 201) (ci := 11) (As := [.int 47]) (rest := []) rfl rfl rfl rfl rfl rfl (st1 := fun _ => []) (fun _ => rfl) (ok_X12_put hQ c 47) (fun _ c1 => ?_)
          exact l1_ret mt_X12_putName rfl rfl rfl
    · refine l1_many mt_X12_putName (pc' := 16) (L' := [some (.ref 201), some (.int p1), some (.int p2), some (.int v3)]) (st' := [.int v3, .int p1, .ref 201, .ref 201]) 4 rfl ?_
      refine l1_callV hQ mt_X12_putName mt_X12_nameAt rfl rfl (o := 201) (ci := 11) (As := [.int p1, .int v3]) (rest := [.ref 201]) rfl rfl rfl rfl rfl rfl (st1 := fun x2 => [.int x2, .ref 201]) (fun _ => rfl) (ok_X12_nameAt hQ c p1 v3) (fun x2 c3 => ?_)
      refine l1_callV hQ mt_X12_putName mt_X12_put rfl rfl (o := 201) (ci := 11) (As := [.int x2]) (rest := []) rfl rfl rfl rfl rfl rfl (st1 := fun _ => []) (fun _ => rfl) (ok_X12_put hQ c3 x2) (fun _ c4 => ?_)
      refine l1_many mt_X12_putName (pc' := 2) (L' := [some (.ref 201), some (.int p1), some (.int p2), some (.int (v3 + 1))]) (st' := []) 2 rfl ?_
      exact ih c4 (v3 + 1)
set_option maxRecDepth 100000 in
theorem en_X12_putName {Q : hS → am_H → Prop} (hQ : l1_em km Q) (N : Nat) (c : hS) (p1 : Int32) (p2 : Int32) : l1_G (wN wV) Q am_i_X12_putName 0 [some (.ref 201), some (.int p1), some (.int p2)] [] c (f_X12_putName N c p1 p2) := by
  rw [f_X12_putName]
  refine l1_many mt_X12_putName (pc' := 2) (L' := [some (.ref 201), some (.int p1), some (.int p2), some (.int 0)]) (st' := []) 2 rfl ?_
  exact ok_X12_putName_2 hQ N p1 p2 N c 0
theorem ok_X12_putName {Q : hS → am_H → Prop} (hQ : l1_em km Q) (N : Nat) (c : hS) (p1 : Int32) (p2 : Int32) : l1_T wV Q am_i_X12_putName [.ref 201, .int p1, .int p2] c (f_X12_putName N c p1 p2) := l1_of (en_X12_putName hQ N c p1 p2) ⟨rfl, rfl, rfl, trivial⟩
set_option maxRecDepth 100000 in
theorem ok_X12_putBytes_2 {Q : hS → am_H → Prop} (hQ : l1_em km Q) (N : Nat) (p1 : Int32) : ∀ n : Nat, ∀ (c : hS) (v2 : Int32), l1_G (wN wV) Q am_i_X12_putBytes 2 [some (.ref 201), some (.int p1), some (.int v2)] [] c (f_X12_putBytes_2 N p1 n c v2) := by
  intro n
  induction n with
  | zero => intro c v2; exact l1_none
  | succ n ih =>
    intro c v2
    rw [f_X12_putBytes_2]
    refine l1_many mt_X12_putBytes (pc' := 4) (L' := [some (.ref 201), some (.int p1), some (.int v2)]) (st' := [.ref 201, .int v2]) 2 rfl ?_
    refine l1_getR hQ mt_X12_putBytes rfl (o := 201) (ci := 11) (k := 11) (a := 0) (b := 0) rfl rfl rfl rfl rfl (q := 206) rfl ?_
    refine l1_many mt_X12_putBytes (pc' := 8) (L' := [some (.ref 201), some (.int p1), some (.int v2)]) (st' := [.int p1, .ref 206, .int v2]) 1 rfl ?_
    refine l1_ck (fun hx => ?_)
    refine l1_ald hQ mt_X12_putBytes rfl (o := 206) rfl hx ?_
    refine l1_many mt_X12_putBytes (pc' := bif am_cc .ge v2 (c.1 206 p1.toNatClampNeg) then 34 else 12) (L' := [some (.ref 201), some (.int p1), some (.int v2)]) (st' := []) 1 rfl ?_
    refine l1_bif rfl ?_ ?_
    · exact l1_ret mt_X12_putBytes rfl rfl rfl
    · refine l1_many mt_X12_putBytes (pc' := 14) (L' := [some (.ref 201), some (.int p1), some (.int v2)]) (st' := [.ref 201, .ref 201]) 2 rfl ?_
      refine l1_getR hQ mt_X12_putBytes rfl (o := 201) (ci := 11) (k := 12) (a := 0) (b := 0) rfl rfl rfl rfl rfl (q := 207) rfl ?_
      refine l1_many mt_X12_putBytes (pc' := 24) (L' := [some (.ref 201), some (.int p1), some (.int v2)]) (st' := [.int ((400 * p1) + v2), .ref 207, .ref 201]) 5 rfl ?_
      refine l1_ck (fun hx => ?_)
      refine l1_ald hQ mt_X12_putBytes rfl (o := 207) rfl hx ?_
      refine l1_callV hQ mt_X12_putBytes mt_X12_put rfl rfl (o := 201) (ci := 11) (As := [.int (c.1 207 ((400 * p1) + v2).toNatClampNeg)]) (rest := []) rfl rfl rfl rfl rfl rfl (st1 := fun _ => []) (fun _ => rfl) (ok_X12_put hQ c (c.1 207 ((400 * p1) + v2).toNatClampNeg)) (fun _ c1 => ?_)
      refine l1_many mt_X12_putBytes (pc' := 2) (L' := [some (.ref 201), some (.int p1), some (.int (v2 + 1))]) (st' := []) 2 rfl ?_
      exact ih c1 (v2 + 1)
set_option maxRecDepth 100000 in
theorem en_X12_putBytes {Q : hS → am_H → Prop} (hQ : l1_em km Q) (N : Nat) (c : hS) (p1 : Int32) : l1_G (wN wV) Q am_i_X12_putBytes 0 [some (.ref 201), some (.int p1)] [] c (f_X12_putBytes N c p1) := by
  rw [f_X12_putBytes]
  refine l1_many mt_X12_putBytes (pc' := 2) (L' := [some (.ref 201), some (.int p1), some (.int 0)]) (st' := []) 2 rfl ?_
  exact ok_X12_putBytes_2 hQ N p1 N c 0
theorem ok_X12_putBytes {Q : hS → am_H → Prop} (hQ : l1_em km Q) (N : Nat) (c : hS) (p1 : Int32) : l1_T wV Q am_i_X12_putBytes [.ref 201, .int p1] c (f_X12_putBytes N c p1) := l1_of (en_X12_putBytes hQ N c p1) ⟨rfl, rfl, trivial⟩
set_option maxRecDepth 100000 in
theorem ok_X12_octalAt_3 {Q : hS → am_H → Prop} (hQ : l1_em km Q) (N : Nat) (p1 : Int32) (p2 : Int32) (p3 : Int32) : ∀ n : Nat, ∀ (c : hS) (v4 : Int32), l1_G (wN wV) Q am_i_X12_octalAt 3 [some (.ref 201), some (.int p1), some (.int p2), some (.int p3), some (.int v4)] [] c (f_X12_octalAt_3 N p1 p2 p3 n c v4) := by
  intro n
  induction n with
  | zero => intro c v4; exact l1_none
  | succ n ih =>
    intro c v4
    rw [f_X12_octalAt_3]
    refine l1_many mt_X12_octalAt (pc' := bif am_cc .ge v4 p3 then 55 else 9) (L' := [some (.ref 201), some (.int p1), some (.int p2), some (.int p3), some (.int v4)]) (st' := []) 3 rfl ?_
    refine l1_bif rfl ?_ ?_
    · exact l1_ret mt_X12_octalAt rfl rfl rfl
    · refine l1_many mt_X12_octalAt (pc' := 20) (L' := [some (.ref 201), some (.int p1), some (.int p2), some (.int p3), some (.int v4), some (.int (3 * ((p3 - 1) - v4)))]) (st' := [.ref 201]) 9 rfl ?_
      refine l1_getR hQ mt_X12_octalAt rfl (o := 201) (ci := 11) (k := 3) (a := 0) (b := 0) rfl rfl rfl rfl rfl (q := 203) rfl ?_
      refine l1_many mt_X12_octalAt (pc' := bif am_cc .le (3 * ((p3 - 1) - v4)) 30 then 40 else 36) (L' := [some (.ref 201), some (.int p1), some (.int p2), some (.int p3), some (.int v4), some (.int (3 * ((p3 - 1) - v4)))]) (st' := [.int 48, .int (p1 + v4), .ref 203]) 7 rfl ?_
      refine l1_bif rfl ?_ ?_
      · refine l1_many mt_X12_octalAt (pc' := 48) (L' := [some (.ref 201), some (.int p1), some (.int p2), some (.int p3), some (.int v4), some (.int (3 * ((p3 - 1) - v4)))]) (st' := [.int (48 + ((j_shr p2 (3 * ((p3 - 1) - v4))) &&& 7)), .int (p1 + v4), .ref 203]) 6 rfl ?_
        refine l1_ck (fun hx => ?_)
        refine l1_ast hQ mt_X12_octalAt rfl (o := 203) rfl hx (fun c1 => ?_)
        refine l1_many mt_X12_octalAt (pc' := 3) (L' := [some (.ref 201), some (.int p1), some (.int p2), some (.int p3), some (.int (v4 + 1)), some (.int (3 * ((p3 - 1) - v4)))]) (st' := []) 2 rfl ?_
        refine l1_weak (m := [true, true, true, true, true, false]) (L' := [some (.ref 201), some (.int p1), some (.int p2), some (.int p3), some (.int (v4 + 1))]) rfl ?_
        exact ih c1 (v4 + 1)
      · refine l1_many mt_X12_octalAt (pc' := 48) (L' := [some (.ref 201), some (.int p1), some (.int p2), some (.int p3), some (.int v4), some (.int (3 * ((p3 - 1) - v4)))]) (st' := [.int (48 + 0), .int (p1 + v4), .ref 203]) 3 rfl ?_
        refine l1_ck (fun hx => ?_)
        refine l1_ast hQ mt_X12_octalAt rfl (o := 203) rfl hx (fun c2 => ?_)
        refine l1_many mt_X12_octalAt (pc' := 3) (L' := [some (.ref 201), some (.int p1), some (.int p2), some (.int p3), some (.int (v4 + 1)), some (.int (3 * ((p3 - 1) - v4)))]) (st' := []) 2 rfl ?_
        refine l1_weak (m := [true, true, true, true, true, false]) (L' := [some (.ref 201), some (.int p1), some (.int p2), some (.int p3), some (.int (v4 + 1))]) rfl ?_
        exact ih c2 (v4 + 1)
set_option maxRecDepth 100000 in
theorem en_X12_octalAt {Q : hS → am_H → Prop} (hQ : l1_em km Q) (N : Nat) (c : hS) (p1 : Int32) (p2 : Int32) (p3 : Int32) : l1_G (wN wV) Q am_i_X12_octalAt 0 [some (.ref 201), some (.int p1), some (.int p2), some (.int p3)] [] c (f_X12_octalAt N c p1 p2 p3) := by
  rw [f_X12_octalAt]
  refine l1_many mt_X12_octalAt (pc' := 3) (L' := [some (.ref 201), some (.int p1), some (.int p2), some (.int p3), some (.int 0)]) (st' := []) 2 rfl ?_
  exact ok_X12_octalAt_3 hQ N p1 p2 p3 N c 0
theorem ok_X12_octalAt {Q : hS → am_H → Prop} (hQ : l1_em km Q) (N : Nat) (c : hS) (p1 : Int32) (p2 : Int32) (p3 : Int32) : l1_T wV Q am_i_X12_octalAt [.ref 201, .int p1, .int p2, .int p3] c (f_X12_octalAt N c p1 p2 p3) := l1_of (en_X12_octalAt hQ N c p1 p2 p3) ⟨rfl, rfl, rfl, rfl, trivial⟩
set_option maxRecDepth 100000 in
theorem ok_X12_writeBlock_241 {Q : hS → am_H → Prop} (hQ : l1_em km Q) (N : Nat) (p1 : Int32) : ∀ n : Nat, ∀ (c : hS) (v2 : Int32) (v3 : Int32) (v4 : Int32), l1_G (wN wV) Q am_i_X12_writeBlock 241 [some (.ref 201), some (.int p1), some (.int v2), some (.int v3), some (.int v4)] [] c (f_X12_writeBlock_241 N p1 n c v2 v3 v4) := by
  intro n
  induction n with
  | zero => intro c v2 v3 v4; exact l1_none
  | succ n ih =>
    intro c v2 v3 v4
    rw [f_X12_writeBlock_241]
    refine l1_many mt_X12_writeBlock (pc' := bif am_cc .ge v4 512 then 267 else 249) (L' := [some (.ref 201), some (.int p1), some (.int v2), some (.int v3), some (.int v4)]) (st' := []) 3 rfl ?_
    refine l1_bif rfl ?_ ?_
    · refine l1_many mt_X12_writeBlock (pc' := 276) (L' := [some (.ref 201), some (.int p1), some (.int v2), some (.int v3), some (.int v4)]) (st' := [.int 6, .int v3, .int (v2 + 148), .ref 201]) 6 rfl ?_
      refine l1_callV hQ mt_X12_writeBlock mt_X12_octalAt rfl rfl (o := 201) (ci := 11) (As := [.int (v2 + 148), .int v3, .int 6]) (rest := []) rfl rfl rfl rfl rfl rfl (st1 := fun _ => []) (fun _ => rfl) (ok_X12_octalAt hQ N c (v2 + 148) v3 6) (fun _ c1 => ?_)
      refine l1_many mt_X12_writeBlock (pc' := 280) (L' := [some (.ref 201), some (.int p1), some (.int v2), some (.int v3), some (.int v4)]) (st' := [.ref 201]) 1 rfl ?_
      refine l1_getR hQ mt_X12_writeBlock rfl (o := 201) (ci := 11) (k := 3) (a := 0) (b := 0) rfl rfl rfl rfl rfl (q := 203) rfl ?_
      refine l1_many mt_X12_writeBlock (pc' := 289) (L' := [some (.ref 201), some (.int p1), some (.int v2), some (.int v3), some (.int v4)]) (st' := [.int 0, .int (v2 + 154), .ref 203]) 4 rfl ?_
      refine l1_ck (fun hx => ?_)
      refine l1_ast hQ mt_X12_writeBlock rfl (o := 203) rfl hx (fun c2 => ?_)
      refine l1_many mt_X12_writeBlock (pc' := 291) (L' := [some (.ref 201), some (.int p1), some (.int v2), some (.int v3), some (.int v4)]) (st' := [.ref 201]) 1 rfl ?_
      refine l1_getR hQ mt_X12_writeBlock rfl (o := 201) (ci := 11) (k := 3) (a := 0) (b := 0) rfl rfl rfl rfl rfl (q := 203) rfl ?_
      refine l1_many mt_X12_writeBlock (pc' := 301) (L' := [some (.ref 201), some (.int p1), some (.int v2), some (.int v3), some (.int v4)]) (st' := [.int 32, .int (v2 + 155), .ref 203]) 4 rfl ?_
      refine l1_ck (fun hx => ?_)
      refine l1_ast hQ mt_X12_writeBlock rfl (o := 203) rfl hx (fun c3 => ?_)
      refine l1_many mt_X12_writeBlock (pc' := 304) (L' := [some (.ref 201), some (.int p1), some (.int v2), some (.int v3), some (.int v4)]) (st' := [.int p1, .ref 201]) 2 rfl ?_
      refine l1_callV hQ mt_X12_writeBlock mt_X12_putBytes rfl rfl (o := 201) (ci := 11) (As := [.int p1]) (rest := []) rfl rfl rfl rfl rfl rfl (st1 := fun _ => []) (fun _ => rfl) (ok_X12_putBytes hQ N c3 p1) (fun _ c4 => ?_)
      refine l1_many mt_X12_writeBlock (pc' := 309) (L' := [some (.ref 201), some (.int p1), some (.int v2), some (.int v3), some (.int v4)]) (st' := [.ref 201, .ref 201]) 2 rfl ?_
      refine l1_getI hQ mt_X12_writeBlock rfl (o := 201) (ci := 11) (k := 4) (a := 0) (b := 0) rfl rfl rfl rfl rfl ?_
      refine l1_many mt_X12_writeBlock (pc' := 324) (L' := [some (.ref 201), some (.int p1), some (.int v2), some (.int v3), some (.int v4)]) (st' := [.int ((((c4.1 201 4) + 511) / 512) * 512), .ref 201]) 6 rfl ?_
      refine l1_callV hQ mt_X12_writeBlock mt_X12_putZeros rfl rfl (o := 201) (ci := 11) (As := [.int ((((c4.1 201 4) + 511) / 512) * 512)]) (rest := []) rfl rfl rfl rfl rfl rfl (st1 := fun _ => []) (fun _ => rfl) (ok_X12_putZeros hQ N c4 ((((c4.1 201 4) + 511) / 512) * 512)) (fun _ c5 => ?_)
      exact l1_ret mt_X12_writeBlock rfl rfl rfl
    · refine l1_many mt_X12_writeBlock (pc' := 251) (L' := [some (.ref 201), some (.int p1), some (.int v2), some (.int v3), some (.int v4)]) (st' := [.ref 201, .int v3]) 2 rfl ?_
      refine l1_getR hQ mt_X12_writeBlock rfl (o := 201) (ci := 11) (k := 3) (a := 0) (b := 0) rfl rfl rfl rfl rfl (q := 203) rfl ?_
      refine l1_many mt_X12_writeBlock (pc' := 258) (L' := [some (.ref 201), some (.int p1), some (.int v2), some (.int v3), some (.int v4)]) (st' := [.int (v2 + v4), .ref 203, .int v3]) 3 rfl ?_
      refine l1_ck (fun hx => ?_)
      refine l1_ald hQ mt_X12_writeBlock rfl (o := 203) rfl hx ?_
      refine l1_many mt_X12_writeBlock (pc' := 241) (L' := [some (.ref 201), some (.int p1), some (.int v2), some (.int (v3 + (c.1 203 (v2 + v4).toNatClampNeg))), some (.int (v4 + 1))]) (st' := []) 4 rfl ?_
      exact ih c v2 (v3 + (c.1 203 (v2 + v4).toNatClampNeg)) (v4 + 1)
set_option maxRecDepth 100000 in
theorem ok_X12_writeBlock_126 {Q : hS → am_H → Prop} (hQ : l1_em km Q) (N : Nat) (p1 : Int32) : ∀ n : Nat, ∀ (c : hS) (v2 : Int32) (v3 : Int32), l1_G (wN wV) Q am_i_X12_writeBlock 126 [some (.ref 201), some (.int p1), some (.int v2), some (.int v3)] [] c (f_X12_writeBlock_126 N p1 n c v2 v3) := by
  intro n
  induction n with
  | zero => intro c v2 v3; exact l1_none
  | succ n ih =>
    intro c v2 v3
    rw [f_X12_writeBlock_126]
    refine l1_many mt_X12_writeBlock (pc' := bif am_cc .ge v3 8 then 210 else 132) (L' := [some (.ref 201), some (.int p1), some (.int v2), some (.int v3)]) (st' := []) 3 rfl ?_
    refine l1_bif rfl ?_ ?_
    · refine l1_many mt_X12_writeBlock (pc' := 219) (L' := [some (.ref 201), some (.int p1), some (.int v2), some (.int v3)]) (st' := [.int 7, .int 0, .int (v2 + 329), .ref 201]) 6 rfl ?_
      refine l1_callV hQ mt_X12_writeBlock mt_X12_octalAt rfl rfl (o := 201) (ci := 11) (As := [.int (v2 + 329), .int 0, .int 7]) (rest := []) rfl rfl rfl rfl rfl rfl (st1 := fun _ => []) (fun _ => rfl) (ok_X12_octalAt hQ N c (v2 + 329) 0 7) (fun _ c1 => ?_)
      refine l1_many mt_X12_writeBlock (pc' := 231) (L' := [some (.ref 201), some (.int p1), some (.int v2), some (.int v3)]) (st' := [.int 7, .int 0, .int (v2 + 337), .ref 201]) 6 rfl ?_
      refine l1_callV hQ mt_X12_writeBlock mt_X12_octalAt rfl rfl (o := 201) (ci := 11) (As := [.int (v2 + 337), .int 0, .int 7]) (rest := []) rfl rfl rfl rfl rfl rfl (st1 := fun _ => []) (fun _ => rfl) (ok_X12_octalAt hQ N c1 (v2 + 337) 0 7) (fun _ c2 => ?_)
      refine l1_many mt_X12_writeBlock (pc' := 241) (L' := [some (.ref 201), some (.int p1), some (.int v2), some (.int 256), some (.int 0)]) (st' := []) 4 rfl ?_
      exact ok_X12_writeBlock_241 hQ N p1 N c2 v2 256 0
    · refine l1_many mt_X12_writeBlock (pc' := 133) (L' := [some (.ref 201), some (.int p1), some (.int v2), some (.int v3)]) (st' := [.ref 201]) 1 rfl ?_
      refine l1_getR hQ mt_X12_writeBlock rfl (o := 201) (ci := 11) (k := 3) (a := 0) (b := 0) rfl rfl rfl rfl rfl (q := 203) rfl ?_
      refine l1_many mt_X12_writeBlock (pc' := bif am_cc .ne v3 0 then 152 else 147) (L' := [some (.ref 201), some (.int p1), some (.int v2), some (.int v3)]) (st' := [.int ((v2 + 257) + v3), .ref 203]) 7 rfl ?_
      refine l1_bin rfl ?_ ?_
      · refine l1_many mt_X12_writeBlock (pc' := 203) (L' := [some (.ref 201), some (.int p1), some (.int v2), some (.int v3)]) (st' := [.int 117, .int ((v2 + 257) + v3), .ref 203]) 2 rfl ?_
        refine l1_ck (fun hx => ?_)
        refine l1_ast hQ mt_X12_writeBlock rfl (o := 203) rfl hx (fun c9 => ?_)
        refine l1_many mt_X12_writeBlock (pc' := 126) (L' := [some (.ref 201), some (.int p1), some (.int v2), some (.int (v3 + 1))]) (st' := []) 2 rfl ?_
        exact ih c9 v2 (v3 + 1)
      · refine l1_many mt_X12_writeBlock (pc' := bif am_cc .ne v3 1 then 162 else 157) (L' := [some (.ref 201), some (.int p1), some (.int v2), some (.int v3)]) (st' := [.int ((v2 + 257) + v3), .ref 203]) 3 rfl ?_
        refine l1_bin rfl ?_ ?_
        · refine l1_many mt_X12_writeBlock (pc' := 203) (L' := [some (.ref 201), some (.int p1), some (.int v2), some (.int v3)]) (st' := [.int 115, .int ((v2 + 257) + v3), .ref 203]) 2 rfl ?_
          refine l1_ck (fun hx => ?_)
          refine l1_ast hQ mt_X12_writeBlock rfl (o := 203) rfl hx (fun c8 => ?_)
          refine l1_many mt_X12_writeBlock (pc' := 126) (L' := [some (.ref 201), some (.int p1), some (.int v2), some (.int (v3 + 1))]) (st' := []) 2 rfl ?_
          exact ih c8 v2 (v3 + 1)
        · refine l1_many mt_X12_writeBlock (pc' := bif am_cc .ne v3 2 then 172 else 167) (L' := [some (.ref 201), some (.int p1), some (.int v2), some (.int v3)]) (st' := [.int ((v2 + 257) + v3), .ref 203]) 3 rfl ?_
          refine l1_bin rfl ?_ ?_
          · refine l1_many mt_X12_writeBlock (pc' := 203) (L' := [some (.ref 201), some (.int p1), some (.int v2), some (.int v3)]) (st' := [.int 116, .int ((v2 + 257) + v3), .ref 203]) 2 rfl ?_
            refine l1_ck (fun hx => ?_)
            refine l1_ast hQ mt_X12_writeBlock rfl (o := 203) rfl hx (fun c7 => ?_)
            refine l1_many mt_X12_writeBlock (pc' := 126) (L' := [some (.ref 201), some (.int p1), some (.int v2), some (.int (v3 + 1))]) (st' := []) 2 rfl ?_
            exact ih c7 v2 (v3 + 1)
          · refine l1_many mt_X12_writeBlock (pc' := bif am_cc .ne v3 3 then 182 else 177) (L' := [some (.ref 201), some (.int p1), some (.int v2), some (.int v3)]) (st' := [.int ((v2 + 257) + v3), .ref 203]) 3 rfl ?_
            refine l1_bin rfl ?_ ?_
            · refine l1_many mt_X12_writeBlock (pc' := 203) (L' := [some (.ref 201), some (.int p1), some (.int v2), some (.int v3)]) (st' := [.int 97, .int ((v2 + 257) + v3), .ref 203]) 2 rfl ?_
              refine l1_ck (fun hx => ?_)
              refine l1_ast hQ mt_X12_writeBlock rfl (o := 203) rfl hx (fun c6 => ?_)
              refine l1_many mt_X12_writeBlock (pc' := 126) (L' := [some (.ref 201), some (.int p1), some (.int v2), some (.int (v3 + 1))]) (st' := []) 2 rfl ?_
              exact ih c6 v2 (v3 + 1)
            · refine l1_many mt_X12_writeBlock (pc' := bif am_cc .ne v3 4 then 192 else 187) (L' := [some (.ref 201), some (.int p1), some (.int v2), some (.int v3)]) (st' := [.int ((v2 + 257) + v3), .ref 203]) 3 rfl ?_
              refine l1_bin rfl ?_ ?_
              · refine l1_many mt_X12_writeBlock (pc' := 203) (L' := [some (.ref 201), some (.int p1), some (.int v2), some (.int v3)]) (st' := [.int 114, .int ((v2 + 257) + v3), .ref 203]) 2 rfl ?_
                refine l1_ck (fun hx => ?_)
                refine l1_ast hQ mt_X12_writeBlock rfl (o := 203) rfl hx (fun c5 => ?_)
                refine l1_many mt_X12_writeBlock (pc' := 126) (L' := [some (.ref 201), some (.int p1), some (.int v2), some (.int (v3 + 1))]) (st' := []) 2 rfl ?_
                exact ih c5 v2 (v3 + 1)
              · refine l1_many mt_X12_writeBlock (pc' := bif am_cc .ne v3 5 then 201 else 197) (L' := [some (.ref 201), some (.int p1), some (.int v2), some (.int v3)]) (st' := [.int ((v2 + 257) + v3), .ref 203]) 3 rfl ?_
                refine l1_bin rfl ?_ ?_
                · refine l1_many mt_X12_writeBlock (pc' := 203) (L' := [some (.ref 201), some (.int p1), some (.int v2), some (.int v3)]) (st' := [.int 0, .int ((v2 + 257) + v3), .ref 203]) 2 rfl ?_
                  refine l1_ck (fun hx => ?_)
                  refine l1_ast hQ mt_X12_writeBlock rfl (o := 203) rfl hx (fun c4 => ?_)
                  refine l1_many mt_X12_writeBlock (pc' := 126) (L' := [some (.ref 201), some (.int p1), some (.int v2), some (.int (v3 + 1))]) (st' := []) 2 rfl ?_
                  exact ih c4 v2 (v3 + 1)
                · refine l1_many mt_X12_writeBlock (pc' := 203) (L' := [some (.ref 201), some (.int p1), some (.int v2), some (.int v3)]) (st' := [.int 48, .int ((v2 + 257) + v3), .ref 203]) 1 rfl ?_
                  refine l1_ck (fun hx => ?_)
                  refine l1_ast hQ mt_X12_writeBlock rfl (o := 203) rfl hx (fun c3 => ?_)
                  refine l1_many mt_X12_writeBlock (pc' := 126) (L' := [some (.ref 201), some (.int p1), some (.int v2), some (.int (v3 + 1))]) (st' := []) 2 rfl ?_
                  exact ih c3 v2 (v3 + 1)
set_option maxRecDepth 100000 in
theorem ok_X12_writeBlock_43 {Q : hS → am_H → Prop} (hQ : l1_em km Q) (N : Nat) (p1 : Int32) : ∀ (c : hS) (v2 : Int32) (w0 : Int32) (w1 : Int32), l1_G (wN wV) Q am_i_X12_writeBlock 43 [some (.ref 201), some (.int p1), some (.int v2)] [.int w0, .int w1, .ref 201] c (f_X12_writeBlock_43 N p1 c v2 w0 w1) := by
  intro c v2 w0 w1
  rw [f_X12_writeBlock_43]
  refine l1_many mt_X12_writeBlock (pc' := 45) (L' := [some (.ref 201), some (.int p1), some (.int v2)]) (st' := [.int 7, .int w0, .int w1, .ref 201]) 1 rfl ?_
  refine l1_callV hQ mt_X12_writeBlock mt_X12_octalAt rfl rfl (o := 201) (ci := 11) (As := [.int w1, .int w0, .int 7]) (rest := []) rfl rfl rfl rfl rfl rfl (st1 := fun _ => []) (fun _ => rfl) (ok_X12_octalAt hQ N c w1 w0 7) (fun _ c1 => ?_)
  refine l1_many mt_X12_writeBlock (pc' := 56) (L' := [some (.ref 201), some (.int p1), some (.int v2)]) (st' := [.int 7, .int 0, .int (v2 + 108), .ref 201]) 6 rfl ?_
  refine l1_callV hQ mt_X12_writeBlock mt_X12_octalAt rfl rfl (o := 201) (ci := 11) (As := [.int (v2 + 108), .int 0, .int 7]) (rest := []) rfl rfl rfl rfl rfl rfl (st1 := fun _ => []) (fun _ => rfl) (ok_X12_octalAt hQ N c1 (v2 + 108) 0 7) (fun _ c2 => ?_)
  refine l1_many mt_X12_writeBlock (pc' := 67) (L' := [some (.ref 201), some (.int p1), some (.int v2)]) (st' := [.int 7, .int 0, .int (v2 + 116), .ref 201]) 6 rfl ?_
  refine l1_callV hQ mt_X12_writeBlock mt_X12_octalAt rfl rfl (o := 201) (ci := 11) (As := [.int (v2 + 116), .int 0, .int 7]) (rest := []) rfl rfl rfl rfl rfl rfl (st1 := fun _ => []) (fun _ => rfl) (ok_X12_octalAt hQ N c2 (v2 + 116) 0 7) (fun _ c3 => ?_)
  refine l1_many mt_X12_writeBlock (pc' := 76) (L' := [some (.ref 201), some (.int p1), some (.int v2)]) (st' := [.ref 201, .int (v2 + 124), .ref 201]) 5 rfl ?_
  refine l1_getR hQ mt_X12_writeBlock rfl (o := 201) (ci := 11) (k := 11) (a := 0) (b := 0) rfl rfl rfl rfl rfl (q := 206) rfl ?_
  refine l1_many mt_X12_writeBlock (pc' := 80) (L' := [some (.ref 201), some (.int p1), some (.int v2)]) (st' := [.int p1, .ref 206, .int (v2 + 124), .ref 201]) 1 rfl ?_
  refine l1_ck (fun hx => ?_)
  refine l1_ald hQ mt_X12_writeBlock rfl (o := 206) rfl hx ?_
  refine l1_many mt_X12_writeBlock (pc' := 83) (L' := [some (.ref 201), some (.int p1), some (.int v2)]) (st' := [.int 11, .int (c3.1 206 p1.toNatClampNeg), .int (v2 + 124), .ref 201]) 1 rfl ?_
  refine l1_callV hQ mt_X12_writeBlock mt_X12_octalAt rfl rfl (o := 201) (ci := 11) (As := [.int (v2 + 124), .int (c3.1 206 p1.toNatClampNeg), .int 11]) (rest := []) rfl rfl rfl rfl rfl rfl (st1 := fun _ => []) (fun _ => rfl) (ok_X12_octalAt hQ N c3 (v2 + 124) (c3.1 206 p1.toNatClampNeg) 11) (fun _ c4 => ?_)
  refine l1_many mt_X12_writeBlock (pc' := 95) (L' := [some (.ref 201), some (.int p1), some (.int v2)]) (st' := [.int 11, .int 0, .int (v2 + 136), .ref 201]) 6 rfl ?_
  refine l1_callV hQ mt_X12_writeBlock mt_X12_octalAt rfl rfl (o := 201) (ci := 11) (As := [.int (v2 + 136), .int 0, .int 11]) (rest := []) rfl rfl rfl rfl rfl rfl (st1 := fun _ => []) (fun _ => rfl) (ok_X12_octalAt hQ N c4 (v2 + 136) 0 11) (fun _ c5 => ?_)
  refine l1_many mt_X12_writeBlock (pc' := 99) (L' := [some (.ref 201), some (.int p1), some (.int v2)]) (st' := [.ref 201]) 1 rfl ?_
  refine l1_getR hQ mt_X12_writeBlock rfl (o := 201) (ci := 11) (k := 3) (a := 0) (b := 0) rfl rfl rfl rfl rfl (q := 203) rfl ?_
  refine l1_many mt_X12_writeBlock (pc' := 108) (L' := [some (.ref 201), some (.int p1), some (.int v2)]) (st' := [.ref 201, .int (v2 + 156), .ref 203]) 4 rfl ?_
  refine l1_getR hQ mt_X12_writeBlock rfl (o := 201) (ci := 11) (k := 13) (a := 0) (b := 0) rfl rfl rfl rfl rfl (q := 208) rfl ?_
  refine l1_many mt_X12_writeBlock (pc' := 112) (L' := [some (.ref 201), some (.int p1), some (.int v2)]) (st' := [.int p1, .ref 208, .int (v2 + 156), .ref 203]) 1 rfl ?_
  refine l1_ck (fun hx => ?_)
  refine l1_bld hQ mt_X12_writeBlock rfl (o := 208) rfl hx ?_
  refine l1_many mt_X12_writeBlock (pc' := bif am_cc .eq (c5.1 208 p1.toNatClampNeg) 0 then 121 else 116) (L' := [some (.ref 201), some (.int p1), some (.int v2)]) (st' := [.int (v2 + 156), .ref 203]) 1 rfl ?_
  refine l1_bif rfl ?_ ?_
  · refine l1_many mt_X12_writeBlock (pc' := 123) (L' := [some (.ref 201), some (.int p1), some (.int v2)]) (st' := [.int 48, .int (v2 + 156), .ref 203]) 1 rfl ?_
    refine l1_ck (fun hx => ?_)
    refine l1_ast hQ mt_X12_writeBlock rfl (o := 203) rfl hx (fun c6 => ?_)
    refine l1_many mt_X12_writeBlock (pc' := 126) (L' := [some (.ref 201), some (.int p1), some (.int v2), some (.int 0)]) (st' := []) 2 rfl ?_
    exact ok_X12_writeBlock_126 hQ N p1 N c6 v2 0
  · refine l1_many mt_X12_writeBlock (pc' := 123) (L' := [some (.ref 201), some (.int p1), some (.int v2)]) (st' := [.int 53, .int (v2 + 156), .ref 203]) 2 rfl ?_
    refine l1_ck (fun hx => ?_)
    refine l1_ast hQ mt_X12_writeBlock rfl (o := 203) rfl hx (fun c7 => ?_)
    refine l1_many mt_X12_writeBlock (pc' := 126) (L' := [some (.ref 201), some (.int p1), some (.int v2), some (.int 0)]) (st' := []) 2 rfl ?_
    exact ok_X12_writeBlock_126 hQ N p1 N c7 v2 0
set_option maxRecDepth 100000 in
theorem en_X12_writeBlock {Q : hS → am_H → Prop} (hQ : l1_em km Q) (N : Nat) (c : hS) (p1 : Int32) : l1_G (wN wV) Q am_i_X12_writeBlock 0 [some (.ref 201), some (.int p1)] [] c (f_X12_writeBlock N c p1) := by
  rw [f_X12_writeBlock]
  refine l1_many mt_X12_writeBlock (pc' := 1) (L' := [some (.ref 201), some (.int p1)]) (st' := [.ref 201]) 1 rfl ?_
  refine l1_getI hQ mt_X12_writeBlock rfl (o := 201) (ci := 11) (k := 4) (a := 0) (b := 0) rfl rfl rfl rfl rfl ?_
  refine l1_many mt_X12_writeBlock (pc' := 8) (L' := [some (.ref 201), some (.int p1), some (.int (c.1 201 4))]) (st' := [.int 1, .int p1, .ref 201]) 4 rfl ?_
  refine l1_callV hQ mt_X12_writeBlock mt_X12_putName rfl rfl (o := 201) (ci := 11) (As := [.int p1, .int 1]) (rest := []) rfl rfl rfl rfl rfl rfl (st1 := fun _ => []) (fun _ => rfl) (ok_X12_putName hQ N c p1 1) (fun _ c1 => ?_)
  refine l1_many mt_X12_writeBlock (pc' := 17) (L' := [some (.ref 201), some (.int p1), some (.int (c.1 201 4))]) (st' := [.int ((c.1 201 4) + 512), .ref 201]) 4 rfl ?_
  refine l1_callV hQ mt_X12_writeBlock mt_X12_putZeros rfl rfl (o := 201) (ci := 11) (As := [.int ((c.1 201 4) + 512)]) (rest := []) rfl rfl rfl rfl rfl rfl (st1 := fun _ => []) (fun _ => rfl) (ok_X12_putZeros hQ N c1 ((c.1 201 4) + 512)) (fun _ c2 => ?_)
  refine l1_many mt_X12_writeBlock (pc' := 26) (L' := [some (.ref 201), some (.int p1), some (.int (c.1 201 4))]) (st' := [.ref 201, .int ((c.1 201 4) + 100), .ref 201]) 5 rfl ?_
  refine l1_getR hQ mt_X12_writeBlock rfl (o := 201) (ci := 11) (k := 13) (a := 0) (b := 0) rfl rfl rfl rfl rfl (q := 208) rfl ?_
  refine l1_many mt_X12_writeBlock (pc' := 30) (L' := [some (.ref 201), some (.int p1), some (.int (c.1 201 4))]) (st' := [.int p1, .ref 208, .int ((c.1 201 4) + 100), .ref 201]) 1 rfl ?_
  refine l1_ck (fun hx => ?_)
  refine l1_bld hQ mt_X12_writeBlock rfl (o := 208) rfl hx ?_
  refine l1_many mt_X12_writeBlock (pc' := bif am_cc .eq (c2.1 208 p1.toNatClampNeg) 0 then 40 else 34) (L' := [some (.ref 201), some (.int p1), some (.int (c.1 201 4))]) (st' := [.int ((c.1 201 4) + 100), .ref 201]) 1 rfl ?_
  refine l1_bif rfl ?_ ?_
  · refine l1_many mt_X12_writeBlock (pc' := 43) (L' := [some (.ref 201), some (.int p1), some (.int (c.1 201 4))]) (st' := [.int 420, .int ((c.1 201 4) + 100), .ref 201]) 1 rfl ?_
    exact ok_X12_writeBlock_43 hQ N p1 c2 (c.1 201 4) 420 ((c.1 201 4) + 100)
  · refine l1_many mt_X12_writeBlock (pc' := 43) (L' := [some (.ref 201), some (.int p1), some (.int (c.1 201 4))]) (st' := [.int 493, .int ((c.1 201 4) + 100), .ref 201]) 2 rfl ?_
    exact ok_X12_writeBlock_43 hQ N p1 c2 (c.1 201 4) 493 ((c.1 201 4) + 100)
theorem ok_X12_writeBlock {Q : hS → am_H → Prop} (hQ : l1_em km Q) (N : Nat) (c : hS) (p1 : Int32) : l1_T wV Q am_i_X12_writeBlock [.ref 201, .int p1] c (f_X12_writeBlock N c p1) := l1_of (en_X12_writeBlock hQ N c p1) ⟨rfl, rfl, trivial⟩
set_option maxRecDepth 100000 in
theorem ok_X12_putHex_3 {Q : hS → am_H → Prop} (hQ : l1_em km Q) (N : Nat) (p1 : Int32) : ∀ n : Nat, ∀ (c : hS) (v2 : Int32), l1_G (wN wV) Q am_i_X12_putHex 3 [some (.ref 201), some (.int p1), some (.int v2)] [] c (f_X12_putHex_3 N p1 n c v2) := by
  intro n
  induction n with
  | zero => intro c v2; exact l1_none
  | succ n ih =>
    intro c v2
    rw [f_X12_putHex_3]
    refine l1_many mt_X12_putHex (pc' := bif am_cc .lt v2 0 then 41 else 7) (L' := [some (.ref 201), some (.int p1), some (.int v2)]) (st' := []) 2 rfl ?_
    refine l1_bif rfl ?_ ?_
    · exact l1_ret mt_X12_putHex rfl rfl rfl
    · refine l1_many mt_X12_putHex (pc' := bif am_cc .ge ((j_shr p1 v2) &&& 15) 10 then 28 else 21) (L' := [some (.ref 201), some (.int p1), some (.int v2), some (.int ((j_shr p1 v2) &&& 15))]) (st' := [.ref 201]) 10 rfl ?_
      refine l1_bif rfl ?_ ?_
      · refine l1_many mt_X12_putHex (pc' := 32) (L' := [some (.ref 201), some (.int p1), some (.int v2), some (.int ((j_shr p1 v2) &&& 15))]) (st' := [.int (87 + ((j_shr p1 v2) &&& 15)), .ref 201]) 3 rfl ?_
        refine l1_callV hQ mt_X12_putHex mt_X12_put rfl rfl (o := 201) (ci := 11) (As := [.int (87 + ((j_shr p1 v2) &&& 15))]) (rest := []) rfl rfl rfl rfl rfl rfl (st1 := fun _ => []) (fun _ => rfl) (ok_X12_put hQ c (87 + ((j_shr p1 v2) &&& 15))) (fun _ c1 => ?_)
        refine l1_many mt_X12_putHex (pc' := 3) (L' := [some (.ref 201), some (.int p1), some (.int (v2 + (-4))), some (.int ((j_shr p1 v2) &&& 15))]) (st' := []) 2 rfl ?_
        refine l1_weak (m := [true, true, true, false]) (L' := [some (.ref 201), some (.int p1), some (.int (v2 + (-4)))]) rfl ?_
        exact ih c1 (v2 + (-4))
      · refine l1_many mt_X12_putHex (pc' := 32) (L' := [some (.ref 201), some (.int p1), some (.int v2), some (.int ((j_shr p1 v2) &&& 15))]) (st' := [.int (48 + ((j_shr p1 v2) &&& 15)), .ref 201]) 4 rfl ?_
        refine l1_callV hQ mt_X12_putHex mt_X12_put rfl rfl (o := 201) (ci := 11) (As := [.int (48 + ((j_shr p1 v2) &&& 15))]) (rest := []) rfl rfl rfl rfl rfl rfl (st1 := fun _ => []) (fun _ => rfl) (ok_X12_put hQ c (48 + ((j_shr p1 v2) &&& 15))) (fun _ c2 => ?_)
        refine l1_many mt_X12_putHex (pc' := 3) (L' := [some (.ref 201), some (.int p1), some (.int (v2 + (-4))), some (.int ((j_shr p1 v2) &&& 15))]) (st' := []) 2 rfl ?_
        refine l1_weak (m := [true, true, true, false]) (L' := [some (.ref 201), some (.int p1), some (.int (v2 + (-4)))]) rfl ?_
        exact ih c2 (v2 + (-4))
set_option maxRecDepth 100000 in
theorem en_X12_putHex {Q : hS → am_H → Prop} (hQ : l1_em km Q) (N : Nat) (c : hS) (p1 : Int32) : l1_G (wN wV) Q am_i_X12_putHex 0 [some (.ref 201), some (.int p1)] [] c (f_X12_putHex N c p1) := by
  rw [f_X12_putHex]
  refine l1_many mt_X12_putHex (pc' := 3) (L' := [some (.ref 201), some (.int p1), some (.int 28)]) (st' := []) 2 rfl ?_
  exact ok_X12_putHex_3 hQ N p1 N c 28
theorem ok_X12_putHex {Q : hS → am_H → Prop} (hQ : l1_em km Q) (N : Nat) (c : hS) (p1 : Int32) : l1_T wV Q am_i_X12_putHex [.ref 201, .int p1] c (f_X12_putHex N c p1) := l1_of (en_X12_putHex hQ N c p1) ⟨rfl, rfl, trivial⟩
set_option maxRecDepth 100000 in
theorem ok_X12_putDigitsHead_93 {Q : hS → am_H → Prop} (hQ : l1_em km Q) (N : Nat) (p1 : Int32) (p2 : Int32) (p3 : Int32) (p4 : Int32) : ∀ n : Nat, ∀ (c : hS) (v5 : Int32), l1_G (wN wV) Q am_i_X12_putDigitsHead 93 [some (.ref 201), none, none, none, some (.int p4), some (.int v5)] [] c (f_X12_putDigitsHead_93 N p1 p2 p3 p4 n c v5) := by
  intro n
  induction n with
  | zero => intro c v5; exact l1_none
  | succ n ih =>
    intro c v5
    rw [f_X12_putDigitsHead_93]
    refine l1_many mt_X12_putDigitsHead (pc' := bif am_cc .ge v5 4 then 110 else 99) (L' := [some (.ref 201), none, none, none, some (.int p4), some (.int v5)]) (st' := []) 3 rfl ?_
    refine l1_bif rfl ?_ ?_
    · refine l1_many mt_X12_putDigitsHead (pc' := 113) (L' := [some (.ref 201), none, none, none, some (.int p4), some (.int v5)]) (st' := [.int p4, .ref 201]) 2 rfl ?_
      refine l1_callV hQ mt_X12_putDigitsHead mt_X12_putHex rfl rfl (o := 201) (ci := 11) (As := [.int p4]) (rest := []) rfl rfl rfl rfl rfl rfl (st1 := fun _ => []) (fun _ => rfl) (ok_X12_putHex hQ N c p4) (fun _ c1 => ?_)
      refine l1_many mt_X12_putDigitsHead (pc' := 118) (L' := [some (.ref 201), none, none, none, some (.int p4), some (.int v5)]) (st' := [.int 0, .ref 201]) 2 rfl ?_
      refine l1_callV hQ mt_X12_putDigitsHead mt_X12_putHex rfl rfl (o := 201) (ci := 11) (As := [.int 0]) (rest := []) rfl rfl rfl rfl rfl rfl (st1 := fun _ => []) (fun _ => rfl) (ok_X12_putHex hQ N c1 0) (fun _ c2 => ?_)
      exact l1_ret mt_X12_putDigitsHead rfl rfl rfl
    · refine l1_many mt_X12_putDigitsHead (pc' := 101) (L' := [some (.ref 201), none, none, none, some (.int p4), some (.int v5)]) (st' := [.int 0, .ref 201]) 2 rfl ?_
      refine l1_callV hQ mt_X12_putDigitsHead mt_X12_putHex rfl rfl (o := 201) (ci := 11) (As := [.int 0]) (rest := []) rfl rfl rfl rfl rfl rfl (st1 := fun _ => []) (fun _ => rfl) (ok_X12_putHex hQ N c 0) (fun _ c3 => ?_)
      refine l1_many mt_X12_putDigitsHead (pc' := 93) (L' := [some (.ref 201), none, none, none, some (.int p4), some (.int (v5 + 1))]) (st' := []) 2 rfl ?_
      exact ih c3 (v5 + 1)
set_option maxRecDepth 100000 in
theorem ok_X12_putDigitsHead_68 {Q : hS → am_H → Prop} (hQ : l1_em km Q) (N : Nat) (p1 : Int32) (p2 : Int32) (p3 : Int32) (p4 : Int32) : ∀ n : Nat, ∀ (c : hS) (v5 : Int32), l1_G (wN wV) Q am_i_X12_putDigitsHead 68 [some (.ref 201), none, none, some (.int p3), some (.int p4), some (.int v5)] [] c (f_X12_putDigitsHead_68 N p1 p2 p3 p4 n c v5) := by
  intro n
  induction n with
  | zero => intro c v5; exact l1_none
  | succ n ih =>
    intro c v5
    rw [f_X12_putDigitsHead_68]
    refine l1_many mt_X12_putDigitsHead (pc' := bif am_cc .ge v5 3 then 85 else 74) (L' := [some (.ref 201), none, none, some (.int p3), some (.int p4), some (.int v5)]) (st' := []) 3 rfl ?_
    refine l1_bif rfl ?_ ?_
    · refine l1_many mt_X12_putDigitsHead (pc' := 87) (L' := [some (.ref 201), none, none, some (.int p3), some (.int p4), some (.int v5)]) (st' := [.int p3, .ref 201]) 2 rfl ?_
      refine l1_callV hQ mt_X12_putDigitsHead mt_X12_putHex rfl rfl (o := 201) (ci := 11) (As := [.int p3]) (rest := []) rfl rfl rfl rfl rfl rfl (st1 := fun _ => []) (fun _ => rfl) (ok_X12_putHex hQ N c p3) (fun _ c1 => ?_)
      refine l1_many mt_X12_putDigitsHead (pc' := 93) (L' := [some (.ref 201), none, none, some (.int p3), some (.int p4), some (.int 0)]) (st' := []) 2 rfl ?_
      refine l1_weak (m := [true, false, false, false, true, true]) (L' := [some (.ref 201), none, none, none, some (.int p4), some (.int 0)]) rfl ?_
      exact ok_X12_putDigitsHead_93 hQ N p1 p2 p3 p4 N c1 0
    · refine l1_many mt_X12_putDigitsHead (pc' := 76) (L' := [some (.ref 201), none, none, some (.int p3), some (.int p4), some (.int v5)]) (st' := [.int 0, .ref 201]) 2 rfl ?_
      refine l1_callV hQ mt_X12_putDigitsHead mt_X12_putHex rfl rfl (o := 201) (ci := 11) (As := [.int 0]) (rest := []) rfl rfl rfl rfl rfl rfl (st1 := fun _ => []) (fun _ => rfl) (ok_X12_putHex hQ N c 0) (fun _ c2 => ?_)
      refine l1_many mt_X12_putDigitsHead (pc' := 68) (L' := [some (.ref 201), none, none, some (.int p3), some (.int p4), some (.int (v5 + 1))]) (st' := []) 2 rfl ?_
      exact ih c2 (v5 + 1)
set_option maxRecDepth 100000 in
theorem ok_X12_putDigitsHead_3 {Q : hS → am_H → Prop} (hQ : l1_em km Q) (N : Nat) (p1 : Int32) (p2 : Int32) (p3 : Int32) (p4 : Int32) : ∀ n : Nat, ∀ (c : hS) (v5 : Int32), l1_G (wN wV) Q am_i_X12_putDigitsHead 3 [some (.ref 201), some (.int p1), some (.int p2), some (.int p3), some (.int p4), some (.int v5)] [] c (f_X12_putDigitsHead_3 N p1 p2 p3 p4 n c v5) := by
  intro n
  induction n with
  | zero => intro c v5; exact l1_none
  | succ n ih =>
    intro c v5
    rw [f_X12_putDigitsHead_3]
    refine l1_many mt_X12_putDigitsHead (pc' := bif am_cc .ge v5 6 then 50 else 10) (L' := [some (.ref 201), some (.int p1), some (.int p2), some (.int p3), some (.int p4), some (.int v5)]) (st' := []) 3 rfl ?_
    refine l1_bif rfl ?_ ?_
    · refine l1_many mt_X12_putDigitsHead (pc' := 52) (L' := [some (.ref 201), some (.int p1), some (.int p2), some (.int p3), some (.int p4), some (.int v5)]) (st' := [.int p1, .ref 201]) 2 rfl ?_
      refine l1_callV hQ mt_X12_putDigitsHead mt_X12_putHex rfl rfl (o := 201) (ci := 11) (As := [.int p1]) (rest := []) rfl rfl rfl rfl rfl rfl (st1 := fun _ => []) (fun _ => rfl) (ok_X12_putHex hQ N c p1) (fun _ c1 => ?_)
      refine l1_many mt_X12_putDigitsHead (pc' := 57) (L' := [some (.ref 201), some (.int p1), some (.int p2), some (.int p3), some (.int p4), some (.int v5)]) (st' := [.int p2, .ref 201]) 2 rfl ?_
      refine l1_callV hQ mt_X12_putDigitsHead mt_X12_putHex rfl rfl (o := 201) (ci := 11) (As := [.int p2]) (rest := []) rfl rfl rfl rfl rfl rfl (st1 := fun _ => []) (fun _ => rfl) (ok_X12_putHex hQ N c1 p2) (fun _ c2 => ?_)
      refine l1_many mt_X12_putDigitsHead (pc' := 62) (L' := [some (.ref 201), some (.int p1), some (.int p2), some (.int p3), some (.int p4), some (.int v5)]) (st' := [.int 1, .ref 201]) 2 rfl ?_
      refine l1_callV hQ mt_X12_putDigitsHead mt_X12_putHex rfl rfl (o := 201) (ci := 11) (As := [.int 1]) (rest := []) rfl rfl rfl rfl rfl rfl (st1 := fun _ => []) (fun _ => rfl) (ok_X12_putHex hQ N c2 1) (fun _ c3 => ?_)
      refine l1_many mt_X12_putDigitsHead (pc' := 68) (L' := [some (.ref 201), some (.int p1), some (.int p2), some (.int p3), some (.int p4), some (.int 0)]) (st' := []) 2 rfl ?_
      refine l1_weak (m := [true, false, false, true, true, true]) (L' := [some (.ref 201), none, none, some (.int p3), some (.int p4), some (.int 0)]) rfl ?_
      exact ok_X12_putDigitsHead_68 hQ N p1 p2 p3 p4 N c3 0
    · refine l1_many mt_X12_putDigitsHead (pc' := bif am_cc .eq v5 1 then 23 else 17) (L' := [some (.ref 201), some (.int p1), some (.int p2), some (.int p3), some (.int p4), some (.int v5)]) (st' := [.ref 201]) 4 rfl ?_
      refine l1_bif rfl ?_ ?_
      · refine l1_many mt_X12_putDigitsHead (pc' := 41) (L' := [some (.ref 201), some (.int p1), some (.int p2), some (.int p3), some (.int p4), some (.int v5)]) (st' := [.int 55, .ref 201]) 2 rfl ?_
        refine l1_callV hQ mt_X12_putDigitsHead mt_X12_put rfl rfl (o := 201) (ci := 11) (As := [.int 55]) (rest := []) rfl rfl rfl rfl rfl rfl (st1 := fun _ => []) (fun _ => rfl) (ok_X12_put hQ c 55) (fun _ c4 => ?_)
        refine l1_many mt_X12_putDigitsHead (pc' := 3) (L' := [some (.ref 201), some (.int p1), some (.int p2), some (.int p3), some (.int p4), some (.int (v5 + 1))]) (st' := []) 2 rfl ?_
        exact ih c4 (v5 + 1)
      · refine l1_many mt_X12_putDigitsHead (pc' := bif am_cc .ne v5 3 then 28 else 23) (L' := [some (.ref 201), some (.int p1), some (.int p2), some (.int p3), some (.int p4), some (.int v5)]) (st' := [.ref 201]) 3 rfl ?_
        refine l1_bin rfl ?_ ?_
        · refine l1_many mt_X12_putDigitsHead (pc' := 41) (L' := [some (.ref 201), some (.int p1), some (.int p2), some (.int p3), some (.int p4), some (.int v5)]) (st' := [.int 55, .ref 201]) 2 rfl ?_
          refine l1_callV hQ mt_X12_putDigitsHead mt_X12_put rfl rfl (o := 201) (ci := 11) (As := [.int 55]) (rest := []) rfl rfl rfl rfl rfl rfl (st1 := fun _ => []) (fun _ => rfl) (ok_X12_put hQ c 55) (fun _ c7 => ?_)
          refine l1_many mt_X12_putDigitsHead (pc' := 3) (L' := [some (.ref 201), some (.int p1), some (.int p2), some (.int p3), some (.int p4), some (.int (v5 + 1))]) (st' := []) 2 rfl ?_
          exact ih c7 (v5 + 1)
        · refine l1_many mt_X12_putDigitsHead (pc' := bif am_cc .ne v5 5 then 39 else 34) (L' := [some (.ref 201), some (.int p1), some (.int p2), some (.int p3), some (.int p4), some (.int v5)]) (st' := [.ref 201]) 3 rfl ?_
          refine l1_bin rfl ?_ ?_
          · refine l1_many mt_X12_putDigitsHead (pc' := 41) (L' := [some (.ref 201), some (.int p1), some (.int p2), some (.int p3), some (.int p4), some (.int v5)]) (st' := [.int 49, .ref 201]) 2 rfl ?_
            refine l1_callV hQ mt_X12_putDigitsHead mt_X12_put rfl rfl (o := 201) (ci := 11) (As := [.int 49]) (rest := []) rfl rfl rfl rfl rfl rfl (st1 := fun _ => []) (fun _ => rfl) (ok_X12_put hQ c 49) (fun _ c6 => ?_)
            refine l1_many mt_X12_putDigitsHead (pc' := 3) (L' := [some (.ref 201), some (.int p1), some (.int p2), some (.int p3), some (.int p4), some (.int (v5 + 1))]) (st' := []) 2 rfl ?_
            exact ih c6 (v5 + 1)
          · refine l1_many mt_X12_putDigitsHead (pc' := 41) (L' := [some (.ref 201), some (.int p1), some (.int p2), some (.int p3), some (.int p4), some (.int v5)]) (st' := [.int 48, .ref 201]) 1 rfl ?_
            refine l1_callV hQ mt_X12_putDigitsHead mt_X12_put rfl rfl (o := 201) (ci := 11) (As := [.int 48]) (rest := []) rfl rfl rfl rfl rfl rfl (st1 := fun _ => []) (fun _ => rfl) (ok_X12_put hQ c 48) (fun _ c5 => ?_)
            refine l1_many mt_X12_putDigitsHead (pc' := 3) (L' := [some (.ref 201), some (.int p1), some (.int p2), some (.int p3), some (.int p4), some (.int (v5 + 1))]) (st' := []) 2 rfl ?_
            exact ih c5 (v5 + 1)
set_option maxRecDepth 100000 in
theorem en_X12_putDigitsHead {Q : hS → am_H → Prop} (hQ : l1_em km Q) (N : Nat) (c : hS) (p1 : Int32) (p2 : Int32) (p3 : Int32) (p4 : Int32) : l1_G (wN wV) Q am_i_X12_putDigitsHead 0 [some (.ref 201), some (.int p1), some (.int p2), some (.int p3), some (.int p4)] [] c (f_X12_putDigitsHead N c p1 p2 p3 p4) := by
  rw [f_X12_putDigitsHead]
  refine l1_many mt_X12_putDigitsHead (pc' := 3) (L' := [some (.ref 201), some (.int p1), some (.int p2), some (.int p3), some (.int p4), some (.int 0)]) (st' := []) 2 rfl ?_
  exact ok_X12_putDigitsHead_3 hQ N p1 p2 p3 p4 N c 0
theorem ok_X12_putDigitsHead {Q : hS → am_H → Prop} (hQ : l1_em km Q) (N : Nat) (c : hS) (p1 : Int32) (p2 : Int32) (p3 : Int32) (p4 : Int32) : l1_T wV Q am_i_X12_putDigitsHead [.ref 201, .int p1, .int p2, .int p3, .int p4] c (f_X12_putDigitsHead N c p1 p2 p3 p4) := l1_of (en_X12_putDigitsHead hQ N c p1 p2 p3 p4) ⟨rfl, rfl, rfl, rfl, rfl, trivial⟩
set_option maxRecDepth 100000 in
theorem ok_X12_writeDigits_32 {Q : hS → am_H → Prop} (hQ : l1_em km Q) (N : Nat) {k2 : hS → Int32 → Option (Unit × hS)} (hk2 : ∀ c v1, l1_G (wN wV) Q am_i_X12_writeDigits 2 [some (.ref 201), some (.int v1)] [] c (k2 c v1)) : ∀ (c : hS) (v1 : Int32) (w0 : Int32) (w1 : Int32), l1_G (wN wV) Q am_i_X12_writeDigits 32 [some (.ref 201), some (.int v1)] [.int w0, .int w1, .ref 201] c (f_X12_writeDigits_32 N k2 c v1 w0 w1) := by
  intro c v1 w0 w1
  rw [f_X12_writeDigits_32]
  refine l1_many mt_X12_writeDigits (pc' := 33) (L' := [some (.ref 201), some (.int v1)]) (st' := [.ref 201, .int w0, .int w1, .ref 201]) 1 rfl ?_
  refine l1_getR hQ mt_X12_writeDigits rfl (o := 201) (ci := 11) (k := 11) (a := 0) (b := 0) rfl rfl rfl rfl rfl (q := 206) rfl ?_
  refine l1_many mt_X12_writeDigits (pc' := 37) (L' := [some (.ref 201), some (.int v1)]) (st' := [.int v1, .ref 206, .int w0, .int w1, .ref 201]) 1 rfl ?_
  refine l1_ck (fun hx => ?_)
  refine l1_ald hQ mt_X12_writeDigits rfl (o := 206) rfl hx ?_
  refine l1_many mt_X12_writeDigits (pc' := 39) (L' := [some (.ref 201), some (.int v1)]) (st' := [.ref 201, .int (c.1 206 v1.toNatClampNeg), .int w0, .int w1, .ref 201]) 1 rfl ?_
  refine l1_getR hQ mt_X12_writeDigits rfl (o := 201) (ci := 11) (k := 9) (a := 0) (b := 0) rfl rfl rfl rfl rfl (q := 204) rfl ?_
  refine l1_many mt_X12_writeDigits (pc' := 43) (L' := [some (.ref 201), some (.int v1)]) (st' := [.int v1, .ref 204, .int (c.1 206 v1.toNatClampNeg), .int w0, .int w1, .ref 201]) 1 rfl ?_
  refine l1_ck (fun hx => ?_)
  refine l1_ald hQ mt_X12_writeDigits rfl (o := 204) rfl hx ?_
  refine l1_many mt_X12_writeDigits (pc' := 46) (L' := [some (.ref 201), some (.int v1)]) (st' := [.int ((c.1 204 v1.toNatClampNeg) + 1), .int (c.1 206 v1.toNatClampNeg), .int w0, .int w1, .ref 201]) 2 rfl ?_
  refine l1_callV hQ mt_X12_writeDigits mt_X12_putDigitsHead rfl rfl (o := 201) (ci := 11) (As := [.int w1, .int w0, .int (c.1 206 v1.toNatClampNeg), .int ((c.1 204 v1.toNatClampNeg) + 1)]) (rest := []) rfl rfl rfl rfl rfl rfl (st1 := fun _ => []) (fun _ => rfl) (ok_X12_putDigitsHead hQ N c w1 w0 (c.1 206 v1.toNatClampNeg) ((c.1 204 v1.toNatClampNeg) + 1)) (fun _ c1 => ?_)
  refine l1_many mt_X12_writeDigits (pc' := 52) (L' := [some (.ref 201), some (.int v1)]) (st' := [.int 0, .int v1, .ref 201]) 3 rfl ?_
  refine l1_callV hQ mt_X12_writeDigits mt_X12_putName rfl rfl (o := 201) (ci := 11) (As := [.int v1, .int 0]) (rest := []) rfl rfl rfl rfl rfl rfl (st1 := fun _ => []) (fun _ => rfl) (ok_X12_putName hQ N c1 v1 0) (fun _ c2 => ?_)
  refine l1_many mt_X12_writeDigits (pc' := 57) (L' := [some (.ref 201), some (.int v1)]) (st' := [.int 0, .ref 201]) 2 rfl ?_
  refine l1_callV hQ mt_X12_writeDigits mt_X12_put rfl rfl (o := 201) (ci := 11) (As := [.int 0]) (rest := []) rfl rfl rfl rfl rfl rfl (st1 := fun _ => []) (fun _ => rfl) (ok_X12_put hQ c2 0) (fun _ c3 => ?_)
  refine l1_many mt_X12_writeDigits (pc' := 62) (L' := [some (.ref 201), some (.int v1)]) (st' := [.ref 201, .ref 201]) 2 rfl ?_
  refine l1_getI hQ mt_X12_writeDigits rfl (o := 201) (ci := 11) (k := 4) (a := 0) (b := 0) rfl rfl rfl rfl rfl ?_
  refine l1_callS mt_X12_writeDigits mt_X12_upToFour rfl rfl (As := [.int (c3.1 201 4)]) (rest := [.ref 201]) rfl rfl rfl (st1 := fun x4 => [.int x4, .ref 201]) (fun _ => rfl) (ok_X12_upToFour hQ c3 (c3.1 201 4)) (fun x4 c5 => ?_)
  refine l1_callV hQ mt_X12_writeDigits mt_X12_putZeros rfl rfl (o := 201) (ci := 11) (As := [.int x4]) (rest := []) rfl rfl rfl rfl rfl rfl (st1 := fun _ => []) (fun _ => rfl) (ok_X12_putZeros hQ N c5 x4) (fun _ c6 => ?_)
  refine l1_many mt_X12_writeDigits (pc' := 73) (L' := [some (.ref 201), some (.int v1)]) (st' := [.int v1, .ref 201]) 2 rfl ?_
  refine l1_callV hQ mt_X12_writeDigits mt_X12_putBytes rfl rfl (o := 201) (ci := 11) (As := [.int v1]) (rest := []) rfl rfl rfl rfl rfl rfl (st1 := fun _ => []) (fun _ => rfl) (ok_X12_putBytes hQ N c6 v1) (fun _ c7 => ?_)
  refine l1_many mt_X12_writeDigits (pc' := 78) (L' := [some (.ref 201), some (.int v1)]) (st' := [.ref 201, .ref 201]) 2 rfl ?_
  refine l1_getI hQ mt_X12_writeDigits rfl (o := 201) (ci := 11) (k := 4) (a := 0) (b := 0) rfl rfl rfl rfl rfl ?_
  refine l1_callS mt_X12_writeDigits mt_X12_upToFour rfl rfl (As := [.int (c7.1 201 4)]) (rest := [.ref 201]) rfl rfl rfl (st1 := fun x8 => [.int x8, .ref 201]) (fun _ => rfl) (ok_X12_upToFour hQ c7 (c7.1 201 4)) (fun x8 c9 => ?_)
  refine l1_callV hQ mt_X12_writeDigits mt_X12_putZeros rfl rfl (o := 201) (ci := 11) (As := [.int x8]) (rest := []) rfl rfl rfl rfl rfl rfl (st1 := fun _ => []) (fun _ => rfl) (ok_X12_putZeros hQ N c9 x8) (fun _ c10 => ?_)
  refine l1_many mt_X12_writeDigits (pc' := 2) (L' := [some (.ref 201), some (.int (v1 + 1))]) (st' := []) 2 rfl ?_
  exact hk2 c10 (v1 + 1)
set_option maxRecDepth 100000 in
theorem ok_X12_writeDigits_104 {Q : hS → am_H → Prop} (hQ : l1_em km Q) (N : Nat) : ∀ n : Nat, ∀ (c : hS) (v1 : Int32), l1_G (wN wV) Q am_i_X12_writeDigits 104 [some (.ref 201), some (.int v1)] [] c (f_X12_writeDigits_104 N n c v1) := by
  intro n
  induction n with
  | zero => intro c v1; exact l1_none
  | succ n ih =>
    intro c v1
    rw [f_X12_writeDigits_104]
    refine l1_many mt_X12_writeDigits (pc' := bif am_cc .ge v1 10 then 124 else 110) (L' := [some (.ref 201), some (.int v1)]) (st' := []) 3 rfl ?_
    refine l1_bif rfl ?_ ?_
    · refine l1_many mt_X12_writeDigits (pc' := 126) (L' := [some (.ref 201), some (.int v1)]) (st' := [.int 0, .ref 201]) 2 rfl ?_
      refine l1_callV hQ mt_X12_writeDigits mt_X12_put rfl rfl (o := 201) (ci := 11) (As := [.int 0]) (rest := []) rfl rfl rfl rfl rfl rfl (st1 := fun _ => []) (fun _ => rfl) (ok_X12_put hQ c 0) (fun _ c1 => ?_)
      refine l1_many mt_X12_writeDigits (pc' := 131) (L' := [some (.ref 201), some (.int v1)]) (st' := [.ref 201, .ref 201]) 2 rfl ?_
      refine l1_getI hQ mt_X12_writeDigits rfl (o := 201) (ci := 11) (k := 4) (a := 0) (b := 0) rfl rfl rfl rfl rfl ?_
      refine l1_callS mt_X12_writeDigits mt_X12_upToFour rfl rfl (As := [.int (c1.1 201 4)]) (rest := [.ref 201]) rfl rfl rfl (st1 := fun x2 => [.int x2, .ref 201]) (fun _ => rfl) (ok_X12_upToFour hQ c1 (c1.1 201 4)) (fun x2 c3 => ?_)
      refine l1_callV hQ mt_X12_writeDigits mt_X12_putZeros rfl rfl (o := 201) (ci := 11) (As := [.int x2]) (rest := []) rfl rfl rfl rfl rfl rfl (st1 := fun _ => []) (fun _ => rfl) (ok_X12_putZeros hQ N c3 x2) (fun _ c4 => ?_)
      exact l1_ret mt_X12_writeDigits rfl rfl rfl
    · refine l1_many mt_X12_writeDigits (pc' := 112) (L' := [some (.ref 201), some (.int v1)]) (st' := [.int v1, .ref 201]) 2 rfl ?_
      refine l1_callS mt_X12_writeDigits mt_X12_trailerAt rfl rfl (As := [.int v1]) (rest := [.ref 201]) rfl rfl rfl (st1 := fun x5 => [.int x5, .ref 201]) (fun _ => rfl) (ok_X12_trailerAt hQ c v1) (fun x5 c6 => ?_)
      refine l1_callV hQ mt_X12_writeDigits mt_X12_put rfl rfl (o := 201) (ci := 11) (As := [.int x5]) (rest := []) rfl rfl rfl rfl rfl rfl (st1 := fun _ => []) (fun _ => rfl) (ok_X12_put hQ c6 x5) (fun _ c7 => ?_)
      refine l1_many mt_X12_writeDigits (pc' := 104) (L' := [some (.ref 201), some (.int (v1 + 1))]) (st' := []) 2 rfl ?_
      exact ih c7 (v1 + 1)
set_option maxRecDepth 100000 in
theorem ok_X12_writeDigits_2 {Q : hS → am_H → Prop} (hQ : l1_em km Q) (N : Nat) : ∀ n : Nat, ∀ (c : hS) (v1 : Int32), l1_G (wN wV) Q am_i_X12_writeDigits 2 [some (.ref 201), some (.int v1)] [] c (f_X12_writeDigits_2 N n c v1) := by
  intro n
  induction n with
  | zero => intro c v1; exact l1_none
  | succ n ih =>
    intro c v1
    rw [f_X12_writeDigits_2]
    refine l1_many mt_X12_writeDigits (pc' := 4) (L' := [some (.ref 201), some (.int v1)]) (st' := [.ref 201, .int v1]) 2 rfl ?_
    refine l1_getI hQ mt_X12_writeDigits rfl (o := 201) (ci := 11) (k := 7) (a := 0) (b := 0) rfl rfl rfl rfl rfl ?_
    refine l1_many mt_X12_writeDigits (pc' := bif am_cc .ge v1 (c.1 201 7) then 93 else 10) (L' := [some (.ref 201), some (.int v1)]) (st' := []) 1 rfl ?_
    refine l1_bif rfl ?_ ?_
    · refine l1_many mt_X12_writeDigits (pc' := 99) (L' := [some (.ref 201), some (.int v1)]) (st' := [.int 11, .int 0, .int 0, .int 0, .ref 201]) 5 rfl ?_
      refine l1_callV hQ mt_X12_writeDigits mt_X12_putDigitsHead rfl rfl (o := 201) (ci := 11) (As := [.int 0, .int 0, .int 0, .int 11]) (rest := []) rfl rfl rfl rfl rfl rfl (st1 := fun _ => []) (fun _ => rfl) (ok_X12_putDigitsHead hQ N c 0 0 0 11) (fun _ c1 => ?_)
      refine l1_many mt_X12_writeDigits (pc' := 104) (L' := [some (.ref 201), some (.int 0)]) (st' := []) 2 rfl ?_
      exact ok_X12_writeDigits_104 hQ N N c1 0
    · refine l1_many mt_X12_writeDigits (pc' := 15) (L' := [some (.ref 201), some (.int v1)]) (st' := [.ref 201, .int (v1 + 1), .ref 201]) 5 rfl ?_
      refine l1_getR hQ mt_X12_writeDigits rfl (o := 201) (ci := 11) (k := 13) (a := 0) (b := 0) rfl rfl rfl rfl rfl (q := 208) rfl ?_
      refine l1_many mt_X12_writeDigits (pc' := 19) (L' := [some (.ref 201), some (.int v1)]) (st' := [.int v1, .ref 208, .int (v1 + 1), .ref 201]) 1 rfl ?_
      refine l1_ck (fun hx => ?_)
      refine l1_bld hQ mt_X12_writeDigits rfl (o := 208) rfl hx ?_
      refine l1_many mt_X12_writeDigits (pc' := bif am_cc .eq (c.1 208 v1.toNatClampNeg) 0 then 29 else 23) (L' := [some (.ref 201), some (.int v1)]) (st' := [.int (v1 + 1), .ref 201]) 1 rfl ?_
      refine l1_bif rfl ?_ ?_
      · refine l1_many mt_X12_writeDigits (pc' := 32) (L' := [some (.ref 201), some (.int v1)]) (st' := [.int 33188, .int (v1 + 1), .ref 201]) 1 rfl ?_
        exact ok_X12_writeDigits_32 hQ N ih c v1 33188 (v1 + 1)
      · refine l1_many mt_X12_writeDigits (pc' := 32) (L' := [some (.ref 201), some (.int v1)]) (st' := [.int 16877, .int (v1 + 1), .ref 201]) 2 rfl ?_
        exact ok_X12_writeDigits_32 hQ N ih c v1 16877 (v1 + 1)
set_option maxRecDepth 100000 in
theorem en_X12_writeDigits {Q : hS → am_H → Prop} (hQ : l1_em km Q) (N : Nat) (c : hS) : l1_G (wN wV) Q am_i_X12_writeDigits 0 [some (.ref 201)] [] c (f_X12_writeDigits N c) := by
  rw [f_X12_writeDigits]
  refine l1_many mt_X12_writeDigits (pc' := 2) (L' := [some (.ref 201), some (.int 0)]) (st' := []) 2 rfl ?_
  exact ok_X12_writeDigits_2 hQ N N c 0
theorem ok_X12_writeDigits {Q : hS → am_H → Prop} (hQ : l1_em km Q) (N : Nat) (c : hS) : l1_T wV Q am_i_X12_writeDigits [.ref 201] c (f_X12_writeDigits N c) := l1_of (en_X12_writeDigits hQ N c) ⟨rfl, trivial⟩
set_option maxRecDepth 100000 in
theorem en_X12_putTwo {Q : hS → am_H → Prop} (hQ : l1_em km Q) (c : hS) (p1 : Int32) : l1_G (wN wV) Q am_i_X12_putTwo 0 [some (.ref 201), some (.int p1)] [] c (f_X12_putTwo c p1) := by
  rw [f_X12_putTwo]
  refine l1_many mt_X12_putTwo (pc' := 2) (L' := [some (.ref 201), some (.int p1)]) (st' := [.int p1, .ref 201]) 2 rfl ?_
  refine l1_callV hQ mt_X12_putTwo mt_X12_put rfl rfl (o := 201) (ci := 11) (As := [.int p1]) (rest := []) rfl rfl rfl rfl rfl rfl (st1 := fun _ => []) (fun _ => rfl) (ok_X12_put hQ c p1) (fun _ c1 => ?_)
  refine l1_many mt_X12_putTwo (pc' := 10) (L' := [some (.ref 201), some (.int p1)]) (st' := [.int (j_shr p1 8), .ref 201]) 4 rfl ?_
  refine l1_callV hQ mt_X12_putTwo mt_X12_put rfl rfl (o := 201) (ci := 11) (As := [.int (j_shr p1 8)]) (rest := []) rfl rfl rfl rfl rfl rfl (st1 := fun _ => []) (fun _ => rfl) (ok_X12_put hQ c1 (j_shr p1 8)) (fun _ c2 => ?_)
  exact l1_ret mt_X12_putTwo rfl rfl rfl
theorem ok_X12_putTwo {Q : hS → am_H → Prop} (hQ : l1_em km Q) (c : hS) (p1 : Int32) : l1_T wV Q am_i_X12_putTwo [.ref 201, .int p1] c (f_X12_putTwo c p1) := l1_of (en_X12_putTwo hQ c p1) ⟨rfl, rfl, trivial⟩
set_option maxRecDepth 100000 in
theorem en_X12_putFour {Q : hS → am_H → Prop} (hQ : l1_em km Q) (c : hS) (p1 : Int32) : l1_G (wN wV) Q am_i_X12_putFour 0 [some (.ref 201), some (.int p1)] [] c (f_X12_putFour c p1) := by
  rw [f_X12_putFour]
  refine l1_many mt_X12_putFour (pc' := 2) (L' := [some (.ref 201), some (.int p1)]) (st' := [.int p1, .ref 201]) 2 rfl ?_
  refine l1_callV hQ mt_X12_putFour mt_X12_putTwo rfl rfl (o := 201) (ci := 11) (As := [.int p1]) (rest := []) rfl rfl rfl rfl rfl rfl (st1 := fun _ => []) (fun _ => rfl) (ok_X12_putTwo hQ c p1) (fun _ c1 => ?_)
  refine l1_many mt_X12_putFour (pc' := 10) (L' := [some (.ref 201), some (.int p1)]) (st' := [.int (j_shr p1 16), .ref 201]) 4 rfl ?_
  refine l1_callV hQ mt_X12_putFour mt_X12_putTwo rfl rfl (o := 201) (ci := 11) (As := [.int (j_shr p1 16)]) (rest := []) rfl rfl rfl rfl rfl rfl (st1 := fun _ => []) (fun _ => rfl) (ok_X12_putTwo hQ c1 (j_shr p1 16)) (fun _ c2 => ?_)
  exact l1_ret mt_X12_putFour rfl rfl rfl
theorem ok_X12_putFour {Q : hS → am_H → Prop} (hQ : l1_em km Q) (c : hS) (p1 : Int32) : l1_T wV Q am_i_X12_putFour [.ref 201, .int p1] c (f_X12_putFour c p1) := l1_of (en_X12_putFour hQ c p1) ⟨rfl, rfl, trivial⟩
set_option maxRecDepth 100000 in
theorem ok_X12_checkOf_4 {Q : hS → am_H → Prop} (hQ : l1_em km Q) (N : Nat) (p1 : Int32) : ∀ n : Nat, ∀ (c : hS) (v2 : Int32) (v3 : Int32), l1_G (wN wI) Q am_i_X12_checkOf 4 [some (.ref 201), some (.int p1), some (.int v2), some (.int v3)] [] c (f_X12_checkOf_4 N p1 n c v2 v3) := by
  intro n
  induction n with
  | zero => intro c v2 v3; exact l1_none
  | succ n ih =>
    intro c v2 v3
    rw [f_X12_checkOf_4]
    refine l1_many mt_X12_checkOf (pc' := 6) (L' := [some (.ref 201), some (.int p1), some (.int v2), some (.int v3)]) (st' := [.ref 201, .int v3]) 2 rfl ?_
    refine l1_getR hQ mt_X12_checkOf rfl (o := 201) (ci := 11) (k := 11) (a := 0) (b := 0) rfl rfl rfl rfl rfl (q := 206) rfl ?_
    refine l1_many mt_X12_checkOf (pc' := 10) (L' := [some (.ref 201), some (.int p1), some (.int v2), some (.int v3)]) (st' := [.int p1, .ref 206, .int v3]) 1 rfl ?_
    refine l1_ck (fun hx => ?_)
    refine l1_ald hQ mt_X12_checkOf rfl (o := 206) rfl hx ?_
    refine l1_many mt_X12_checkOf (pc' := bif am_cc .ge v3 (c.1 206 p1.toNatClampNeg) then 37 else 14) (L' := [some (.ref 201), some (.int p1), some (.int v2), some (.int v3)]) (st' := []) 1 rfl ?_
    refine l1_bif rfl ?_ ?_
    · refine l1_many mt_X12_checkOf (pc' := 40) (L' := [some (.ref 201), some (.int p1), some (.int v2), some (.int v3)]) (st' := [.int (v2 ^^^ (-1))]) 3 rfl ?_
      exact l1_ret mt_X12_checkOf rfl rfl rfl
    · refine l1_many mt_X12_checkOf (pc' := 16) (L' := [some (.ref 201), some (.int p1), some (.int v2), some (.int v3)]) (st' := [.ref 201, .int v2]) 2 rfl ?_
      refine l1_getR hQ mt_X12_checkOf rfl (o := 201) (ci := 11) (k := 12) (a := 0) (b := 0) rfl rfl rfl rfl rfl (q := 207) rfl ?_
      refine l1_many mt_X12_checkOf (pc' := 26) (L' := [some (.ref 201), some (.int p1), some (.int v2), some (.int v3)]) (st' := [.int ((400 * p1) + v3), .ref 207, .int v2]) 5 rfl ?_
      refine l1_ck (fun hx => ?_)
      refine l1_ald hQ mt_X12_checkOf rfl (o := 207) rfl hx ?_
      refine l1_callS mt_X12_checkOf mt_X12_checkMore rfl rfl (As := [.int v2, .int (c.1 207 ((400 * p1) + v3).toNatClampNeg)]) (rest := []) rfl rfl rfl (st1 := fun x1 => [.int x1]) (fun _ => rfl) (ok_X12_checkMore hQ N c v2 (c.1 207 ((400 * p1) + v3).toNatClampNeg)) (fun x1 c2 => ?_)
      refine l1_many mt_X12_checkOf (pc' := 4) (L' := [some (.ref 201), some (.int p1), some (.int x1), some (.int (v3 + 1))]) (st' := []) 3 rfl ?_
      exact ih c2 x1 (v3 + 1)
set_option maxRecDepth 100000 in
theorem en_X12_checkOf {Q : hS → am_H → Prop} (hQ : l1_em km Q) (N : Nat) (c : hS) (p1 : Int32) : l1_G (wN wI) Q am_i_X12_checkOf 0 [some (.ref 201), some (.int p1)] [] c (f_X12_checkOf N c p1) := by
  rw [f_X12_checkOf]
  refine l1_many mt_X12_checkOf (pc' := 4) (L' := [some (.ref 201), some (.int p1), some (.int (-1)), some (.int 0)]) (st' := []) 4 rfl ?_
  exact ok_X12_checkOf_4 hQ N p1 N c (-1) 0
theorem ok_X12_checkOf {Q : hS → am_H → Prop} (hQ : l1_em km Q) (N : Nat) (c : hS) (p1 : Int32) : l1_T wI Q am_i_X12_checkOf [.ref 201, .int p1] c (f_X12_checkOf N c p1) := l1_of (en_X12_checkOf hQ N c p1) ⟨rfl, rfl, trivial⟩
set_option maxRecDepth 100000 in
theorem en_X12_namedSize {Q : hS → am_H → Prop} (hQ : l1_em km Q) (c : hS) (p1 : Int32) : l1_G (wN wI) Q am_i_X12_namedSize 0 [some (.ref 201), some (.int p1)] [] c (f_X12_namedSize c p1) := by
  rw [f_X12_namedSize]
  refine l1_many mt_X12_namedSize (pc' := 1) (L' := [some (.ref 201), some (.int p1)]) (st' := [.ref 201]) 1 rfl ?_
  refine l1_getR hQ mt_X12_namedSize rfl (o := 201) (ci := 11) (k := 9) (a := 0) (b := 0) rfl rfl rfl rfl rfl (q := 204) rfl ?_
  refine l1_many mt_X12_namedSize (pc' := 5) (L' := [some (.ref 201), some (.int p1)]) (st' := [.int p1, .ref 204]) 1 rfl ?_
  refine l1_ck (fun hx => ?_)
  refine l1_ald hQ mt_X12_namedSize rfl (o := 204) rfl hx ?_
  refine l1_many mt_X12_namedSize (pc' := 7) (L' := [some (.ref 201), some (.int p1)]) (st' := [.ref 201, .int (c.1 204 p1.toNatClampNeg)]) 1 rfl ?_
  refine l1_getR hQ mt_X12_namedSize rfl (o := 201) (ci := 11) (k := 13) (a := 0) (b := 0) rfl rfl rfl rfl rfl (q := 208) rfl ?_
  refine l1_many mt_X12_namedSize (pc' := 11) (L' := [some (.ref 201), some (.int p1)]) (st' := [.int p1, .ref 208, .int (c.1 204 p1.toNatClampNeg)]) 1 rfl ?_
  refine l1_ck (fun hx => ?_)
  refine l1_bld hQ mt_X12_namedSize rfl (o := 208) rfl hx ?_
  refine l1_many mt_X12_namedSize (pc' := bif am_cc .eq (c.1 208 p1.toNatClampNeg) 0 then 19 else 15) (L' := [some (.ref 201), some (.int p1)]) (st' := [.int (c.1 204 p1.toNatClampNeg)]) 1 rfl ?_
  refine l1_bif rfl ?_ ?_
  · refine l1_many mt_X12_namedSize (pc' := 21) (L' := [some (.ref 201), some (.int p1)]) (st' := [.int ((c.1 204 p1.toNatClampNeg) + 0)]) 2 rfl ?_
    exact l1_ret mt_X12_namedSize rfl rfl rfl
  · refine l1_many mt_X12_namedSize (pc' := 21) (L' := [some (.ref 201), some (.int p1)]) (st' := [.int ((c.1 204 p1.toNatClampNeg) + 1)]) 3 rfl ?_
    exact l1_ret mt_X12_namedSize rfl rfl rfl
theorem ok_X12_namedSize {Q : hS → am_H → Prop} (hQ : l1_em km Q) (c : hS) (p1 : Int32) : l1_T wI Q am_i_X12_namedSize [.ref 201, .int p1] c (f_X12_namedSize c p1) := l1_of (en_X12_namedSize hQ c p1) ⟨rfl, rfl, trivial⟩
set_option maxRecDepth 100000 in
theorem ok_X12_fourInto_2 {Q : hS → am_H → Prop} (hQ : l1_em km Q) (N : Nat) (p1 : Int32) (p2 : Int32) : ∀ n : Nat, ∀ (c : hS) (v3 : Int32), l1_G (wN wV) Q am_i_X12_fourInto 2 [some (.ref 201), some (.int p1), some (.int p2), some (.int v3)] [] c (f_X12_fourInto_2 N p1 p2 n c v3) := by
  intro n
  induction n with
  | zero => intro c v3; exact l1_none
  | succ n ih =>
    intro c v3
    rw [f_X12_fourInto_2]
    refine l1_many mt_X12_fourInto (pc' := bif am_cc .ge v3 4 then 31 else 7) (L' := [some (.ref 201), some (.int p1), some (.int p2), some (.int v3)]) (st' := []) 3 rfl ?_
    refine l1_bif rfl ?_ ?_
    · exact l1_ret mt_X12_fourInto rfl rfl rfl
    · refine l1_many mt_X12_fourInto (pc' := 8) (L' := [some (.ref 201), some (.int p1), some (.int p2), some (.int v3)]) (st' := [.ref 201]) 1 rfl ?_
      refine l1_getR hQ mt_X12_fourInto rfl (o := 201) (ci := 11) (k := 3) (a := 0) (b := 0) rfl rfl rfl rfl rfl (q := 203) rfl ?_
      refine l1_many mt_X12_fourInto (pc' := 24) (L' := [some (.ref 201), some (.int p1), some (.int p2), some (.int v3)]) (st' := [.int ((j_shr p2 (8 * v3)) &&& 255), .int (p1 + v3), .ref 203]) 10 rfl ?_
      refine l1_ck (fun hx => ?_)
      refine l1_ast hQ mt_X12_fourInto rfl (o := 203) rfl hx (fun c1 => ?_)
      refine l1_many mt_X12_fourInto (pc' := 2) (L' := [some (.ref 201), some (.int p1), some (.int p2), some (.int (v3 + 1))]) (st' := []) 2 rfl ?_
      exact ih c1 (v3 + 1)
set_option maxRecDepth 100000 in
theorem en_X12_fourInto {Q : hS → am_H → Prop} (hQ : l1_em km Q) (N : Nat) (c : hS) (p1 : Int32) (p2 : Int32) : l1_G (wN wV) Q am_i_X12_fourInto 0 [some (.ref 201), some (.int p1), some (.int p2)] [] c (f_X12_fourInto N c p1 p2) := by
  rw [f_X12_fourInto]
  refine l1_many mt_X12_fourInto (pc' := 2) (L' := [some (.ref 201), some (.int p1), some (.int p2), some (.int 0)]) (st' := []) 2 rfl ?_
  exact ok_X12_fourInto_2 hQ N p1 p2 N c 0
theorem ok_X12_fourInto {Q : hS → am_H → Prop} (hQ : l1_em km Q) (N : Nat) (c : hS) (p1 : Int32) (p2 : Int32) : l1_T wV Q am_i_X12_fourInto [.ref 201, .int p1, .int p2] c (f_X12_fourInto N c p1 p2) := l1_of (en_X12_fourInto hQ N c p1 p2) ⟨rfl, rfl, rfl, trivial⟩
set_option maxRecDepth 100000 in
theorem ok_X12_writeLocal_212 {Q : hS → am_H → Prop} (hQ : l1_em km Q) (N : Nat) (p1 : Int32) (p2 : Int32) : ∀ (c : hS) (v3 : Int32) (v4 : Int32), l1_G (wN wV) Q am_i_X12_writeLocal 212 [some (.ref 201), some (.int p1), none, some (.int v3), some (.int v4)] [] c (f_X12_writeLocal_212 N p1 p2 c v3 v4) := by
  intro c v3 v4
  rw [f_X12_writeLocal_212]
  refine l1_many mt_X12_writeLocal (pc' := 213) (L' := [some (.ref 201), some (.int p1), none, some (.int v3), some (.int v4)]) (st' := [.ref 201]) 1 rfl ?_
  refine l1_getR hQ mt_X12_writeLocal rfl (o := 201) (ci := 11) (k := 38) (a := 0) (b := 0) rfl rfl rfl rfl rfl (q := 218) rfl ?_
  refine l1_many mt_X12_writeLocal (pc' := 218) (L' := [some (.ref 201), some (.int p1), none, some (.int v3), some (.int v4)]) (st' := [.ref 201, .int p1, .ref 218]) 2 rfl ?_
  refine l1_getI hQ mt_X12_writeLocal rfl (o := 201) (ci := 11) (k := 4) (a := 0) (b := 0) rfl rfl rfl rfl rfl ?_
  refine l1_many mt_X12_writeLocal (pc' := 224) (L' := [some (.ref 201), some (.int p1), none, some (.int v3), some (.int v4)]) (st' := [.int ((c.1 201 4) - v4), .int p1, .ref 218]) 2 rfl ?_
  refine l1_ck (fun hx => ?_)
  refine l1_ast hQ mt_X12_writeLocal rfl (o := 218) rfl hx (fun c1 => ?_)
  refine l1_many mt_X12_writeLocal (pc' := 231) (L' := [some (.ref 201), some (.int p1), none, some (.int v3), some (.int v4)]) (st' := [.ref 201, .int (v3 + 18), .ref 201]) 5 rfl ?_
  refine l1_getR hQ mt_X12_writeLocal rfl (o := 201) (ci := 11) (k := 38) (a := 0) (b := 0) rfl rfl rfl rfl rfl (q := 218) rfl ?_
  refine l1_many mt_X12_writeLocal (pc' := 235) (L' := [some (.ref 201), some (.int p1), none, some (.int v3), some (.int v4)]) (st' := [.int p1, .ref 218, .int (v3 + 18), .ref 201]) 1 rfl ?_
  refine l1_ck (fun hx => ?_)
  refine l1_ald hQ mt_X12_writeLocal rfl (o := 218) rfl hx ?_
  refine l1_callV hQ mt_X12_writeLocal mt_X12_fourInto rfl rfl (o := 201) (ci := 11) (As := [.int (v3 + 18), .int (c1.1 218 p1.toNatClampNeg)]) (rest := []) rfl rfl rfl rfl rfl rfl (st1 := fun _ => []) (fun _ => rfl) (ok_X12_fourInto hQ N c1 (v3 + 18) (c1.1 218 p1.toNatClampNeg)) (fun _ c2 => ?_)
  exact l1_ret mt_X12_writeLocal rfl rfl rfl
set_option maxRecDepth 100000 in
theorem ok_X12_writeLocal_165 {Q : hS → am_H → Prop} (hQ : l1_em km Q) (N : Nat) (p1 : Int32) (p2 : Int32) : ∀ n : Nat, ∀ (c : hS) (v3 : Int32) (v4 : Int32) (v5 : Int32), l1_G (wN wV) Q am_i_X12_writeLocal 165 [some (.ref 201), some (.int p1), none, some (.int v3), some (.int v4), some (.int v5)] [] c (f_X12_writeLocal_165 N p1 p2 n c v3 v4 v5) := by
  intro n
  induction n with
  | zero => intro c v3 v4 v5; exact l1_none
  | succ n ih =>
    intro c v3 v4 v5
    rw [f_X12_writeLocal_165]
    refine l1_many mt_X12_writeLocal (pc' := 168) (L' := [some (.ref 201), some (.int p1), none, some (.int v3), some (.int v4), some (.int v5)]) (st' := [.ref 201, .int v5]) 2 rfl ?_
    refine l1_getI hQ mt_X12_writeLocal rfl (o := 201) (ci := 11) (k := 32) (a := 0) (b := 0) rfl rfl rfl rfl rfl ?_
    refine l1_many mt_X12_writeLocal (pc' := bif am_cc .ge v5 (c.1 201 32) then 200 else 174) (L' := [some (.ref 201), some (.int p1), none, some (.int v3), some (.int v4), some (.int v5)]) (st' := []) 1 rfl ?_
    refine l1_bif rfl ?_ ?_
    · refine l1_many mt_X12_writeLocal (pc' := 201) (L' := [some (.ref 201), some (.int p1), none, some (.int v3), some (.int v4), some (.int v5)]) (st' := [.ref 201]) 1 rfl ?_
      refine l1_callV hQ mt_X12_writeLocal mt_X12_putPacked rfl rfl (o := 201) (ci := 11) (As := []) (rest := []) rfl rfl rfl rfl rfl rfl (st1 := fun _ => []) (fun _ => rfl) (ok_X12_putPacked hQ N c) (fun _ c1 => ?_)
      refine l1_many mt_X12_writeLocal (pc' := 212) (L' := [some (.ref 201), some (.int p1), none, some (.int v3), some (.int v4), some (.int v5)]) (st' := []) 1 rfl ?_
      refine l1_weak (m := [true, true, false, true, true, false]) (L' := [some (.ref 201), some (.int p1), none, some (.int v3), some (.int v4)]) rfl ?_
      exact ok_X12_writeLocal_212 hQ N p1 p2 c1 v3 v4
    · refine l1_many mt_X12_writeLocal (pc' := 175) (L' := [some (.ref 201), some (.int p1), none, some (.int v3), some (.int v4), some (.int v5)]) (st' := [.ref 201]) 1 rfl ?_
      refine l1_getR hQ mt_X12_writeLocal rfl (o := 201) (ci := 11) (k := 31) (a := 0) (b := 0) rfl rfl rfl rfl rfl (q := 215) rfl ?_
      refine l1_many mt_X12_writeLocal (pc' := 181) (L' := [some (.ref 201), some (.int p1), none, some (.int v3), some (.int v4), some (.int v5)]) (st' := [.ref 201, .int v5, .ref 215]) 2 rfl ?_
      refine l1_getR hQ mt_X12_writeLocal rfl (o := 201) (ci := 11) (k := 12) (a := 0) (b := 0) rfl rfl rfl rfl rfl (q := 207) rfl ?_
      refine l1_many mt_X12_writeLocal (pc' := 192) (L' := [some (.ref 201), some (.int p1), none, some (.int v3), some (.int v4), some (.int v5)]) (st' := [.int ((400 * p1) + v5), .ref 207, .int v5, .ref 215]) 5 rfl ?_
      refine l1_ck (fun hx => ?_)
      refine l1_ald hQ mt_X12_writeLocal rfl (o := 207) rfl hx ?_
      refine l1_ck (fun hx => ?_)
      refine l1_ast hQ mt_X12_writeLocal rfl (o := 215) rfl hx (fun c2 => ?_)
      refine l1_many mt_X12_writeLocal (pc' := 165) (L' := [some (.ref 201), some (.int p1), none, some (.int v3), some (.int v4), some (.int (v5 + 1))]) (st' := []) 2 rfl ?_
      exact ih c2 v3 v4 (v5 + 1)
set_option maxRecDepth 100000 in
theorem ok_X12_writeLocal_36 {Q : hS → am_H → Prop} (hQ : l1_em km Q) (N : Nat) (p1 : Int32) (p2 : Int32) : ∀ (c : hS) (v3 : Int32) (w0 : Int32) (w1 : Int32), l1_G (wN wV) Q am_i_X12_writeLocal 36 [some (.ref 201), some (.int p1), none, some (.int v3)] [.int w0, .int w1, .ref 217] c (f_X12_writeLocal_36 N p1 p2 c v3 w0 w1) := by
  intro c v3 w0 w1
  rw [f_X12_writeLocal_36]
  refine l1_ck (fun hx => ?_)
  refine l1_ast hQ mt_X12_writeLocal rfl (o := 217) rfl hx (fun c1 => ?_)
  refine l1_many mt_X12_writeLocal (pc' := 40) (L' := [some (.ref 201), some (.int p1), none, some (.int v3)]) (st' := [.int 80, .ref 201]) 2 rfl ?_
  refine l1_callV hQ mt_X12_writeLocal mt_X12_put rfl rfl (o := 201) (ci := 11) (As := [.int 80]) (rest := []) rfl rfl rfl rfl rfl rfl (st1 := fun _ => []) (fun _ => rfl) (ok_X12_put hQ c1 80) (fun _ c2 => ?_)
  refine l1_many mt_X12_writeLocal (pc' := 46) (L' := [some (.ref 201), some (.int p1), none, some (.int v3)]) (st' := [.int 75, .ref 201]) 2 rfl ?_
  refine l1_callV hQ mt_X12_writeLocal mt_X12_put rfl rfl (o := 201) (ci := 11) (As := [.int 75]) (rest := []) rfl rfl rfl rfl rfl rfl (st1 := fun _ => []) (fun _ => rfl) (ok_X12_put hQ c2 75) (fun _ c3 => ?_)
  refine l1_many mt_X12_writeLocal (pc' := 51) (L' := [some (.ref 201), some (.int p1), none, some (.int v3)]) (st' := [.int 3, .ref 201]) 2 rfl ?_
  refine l1_callV hQ mt_X12_writeLocal mt_X12_put rfl rfl (o := 201) (ci := 11) (As := [.int 3]) (rest := []) rfl rfl rfl rfl rfl rfl (st1 := fun _ => []) (fun _ => rfl) (ok_X12_put hQ c3 3) (fun _ c4 => ?_)
  refine l1_many mt_X12_writeLocal (pc' := 56) (L' := [some (.ref 201), some (.int p1), none, some (.int v3)]) (st' := [.int 4, .ref 201]) 2 rfl ?_
  refine l1_callV hQ mt_X12_writeLocal mt_X12_put rfl rfl (o := 201) (ci := 11) (As := [.int 4]) (rest := []) rfl rfl rfl rfl rfl rfl (st1 := fun _ => []) (fun _ => rfl) (ok_X12_put hQ c4 4) (fun _ c5 => ?_)
  refine l1_many mt_X12_writeLocal (pc' := 62) (L' := [some (.ref 201), some (.int p1), none, some (.int v3)]) (st' := [.int 20, .ref 201]) 2 rfl ?_
  refine l1_callV hQ mt_X12_writeLocal mt_X12_putTwo rfl rfl (o := 201) (ci := 11) (As := [.int 20]) (rest := []) rfl rfl rfl rfl rfl rfl (st1 := fun _ => []) (fun _ => rfl) (ok_X12_putTwo hQ c5 20) (fun _ c6 => ?_)
  refine l1_many mt_X12_writeLocal (pc' := 67) (L' := [some (.ref 201), some (.int p1), none, some (.int v3)]) (st' := [.int 0, .ref 201]) 2 rfl ?_
  refine l1_callV hQ mt_X12_writeLocal mt_X12_putTwo rfl rfl (o := 201) (ci := 11) (As := [.int 0]) (rest := []) rfl rfl rfl rfl rfl rfl (st1 := fun _ => []) (fun _ => rfl) (ok_X12_putTwo hQ c6 0) (fun _ c7 => ?_)
  refine l1_many mt_X12_writeLocal (pc' := 72) (L' := [some (.ref 201), some (.int p1), none, some (.int v3)]) (st' := [.ref 201, .ref 201]) 2 rfl ?_
  refine l1_getR hQ mt_X12_writeLocal rfl (o := 201) (ci := 11) (k := 37) (a := 0) (b := 0) rfl rfl rfl rfl rfl (q := 217) rfl ?_
  refine l1_many mt_X12_writeLocal (pc' := 76) (L' := [some (.ref 201), some (.int p1), none, some (.int v3)]) (st' := [.int p1, .ref 217, .ref 201]) 1 rfl ?_
  refine l1_ck (fun hx => ?_)
  refine l1_ald hQ mt_X12_writeLocal rfl (o := 217) rfl hx ?_
  refine l1_callV hQ mt_X12_writeLocal mt_X12_putTwo rfl rfl (o := 201) (ci := 11) (As := [.int (c7.1 217 p1.toNatClampNeg)]) (rest := []) rfl rfl rfl rfl rfl rfl (st1 := fun _ => []) (fun _ => rfl) (ok_X12_putTwo hQ c7 (c7.1 217 p1.toNatClampNeg)) (fun _ c8 => ?_)
  refine l1_many mt_X12_writeLocal (pc' := 82) (L' := [some (.ref 201), some (.int p1), none, some (.int v3)]) (st' := [.int 0, .ref 201]) 2 rfl ?_
  refine l1_callV hQ mt_X12_writeLocal mt_X12_putTwo rfl rfl (o := 201) (ci := 11) (As := [.int 0]) (rest := []) rfl rfl rfl rfl rfl rfl (st1 := fun _ => []) (fun _ => rfl) (ok_X12_putTwo hQ c8 0) (fun _ c9 => ?_)
  refine l1_many mt_X12_writeLocal (pc' := 88) (L' := [some (.ref 201), some (.int p1), none, some (.int v3)]) (st' := [.int 33, .ref 201]) 2 rfl ?_
  refine l1_callV hQ mt_X12_writeLocal mt_X12_putTwo rfl rfl (o := 201) (ci := 11) (As := [.int 33]) (rest := []) rfl rfl rfl rfl rfl rfl (st1 := fun _ => []) (fun _ => rfl) (ok_X12_putTwo hQ c9 33) (fun _ c10 => ?_)
  refine l1_many mt_X12_writeLocal (pc' := 94) (L' := [some (.ref 201), some (.int p1), none, some (.int v3)]) (st' := [.int p1, .ref 201, .ref 201]) 3 rfl ?_
  refine l1_callV hQ mt_X12_writeLocal mt_X12_checkOf rfl rfl (o := 201) (ci := 11) (As := [.int p1]) (rest := [.ref 201]) rfl rfl rfl rfl rfl rfl (st1 := fun x11 => [.int x11, .ref 201]) (fun _ => rfl) (ok_X12_checkOf hQ N c10 p1) (fun x11 c12 => ?_)
  refine l1_callV hQ mt_X12_writeLocal mt_X12_putFour rfl rfl (o := 201) (ci := 11) (As := [.int x11]) (rest := []) rfl rfl rfl rfl rfl rfl (st1 := fun _ => []) (fun _ => rfl) (ok_X12_putFour hQ c12 x11) (fun _ c13 => ?_)
  refine l1_many mt_X12_writeLocal (pc' := 102) (L' := [some (.ref 201), some (.int p1), none, some (.int v3)]) (st' := [.int 0, .ref 201]) 2 rfl ?_
  refine l1_callV hQ mt_X12_writeLocal mt_X12_putFour rfl rfl (o := 201) (ci := 11) (As := [.int 0]) (rest := []) rfl rfl rfl rfl rfl rfl (st1 := fun _ => []) (fun _ => rfl) (ok_X12_putFour hQ c13 0) (fun _ c14 => ?_)
  refine l1_many mt_X12_writeLocal (pc' := 107) (L' := [some (.ref 201), some (.int p1), none, some (.int v3)]) (st' := [.ref 201, .ref 201]) 2 rfl ?_
  refine l1_getR hQ mt_X12_writeLocal rfl (o := 201) (ci := 11) (k := 11) (a := 0) (b := 0) rfl rfl rfl rfl rfl (q := 206) rfl ?_
  refine l1_many mt_X12_writeLocal (pc' := 111) (L' := [some (.ref 201), some (.int p1), none, some (.int v3)]) (st' := [.int p1, .ref 206, .ref 201]) 1 rfl ?_
  refine l1_ck (fun hx => ?_)
  refine l1_ald hQ mt_X12_writeLocal rfl (o := 206) rfl hx ?_
  refine l1_callV hQ mt_X12_writeLocal mt_X12_putFour rfl rfl (o := 201) (ci := 11) (As := [.int (c14.1 206 p1.toNatClampNeg)]) (rest := []) rfl rfl rfl rfl rfl rfl (st1 := fun _ => []) (fun _ => rfl) (ok_X12_putFour hQ c14 (c14.1 206 p1.toNatClampNeg)) (fun _ c15 => ?_)
  refine l1_many mt_X12_writeLocal (pc' := 118) (L' := [some (.ref 201), some (.int p1), none, some (.int v3)]) (st' := [.int p1, .ref 201, .ref 201]) 3 rfl ?_
  refine l1_callV hQ mt_X12_writeLocal mt_X12_namedSize rfl rfl (o := 201) (ci := 11) (As := [.int p1]) (rest := [.ref 201]) rfl rfl rfl rfl rfl rfl (st1 := fun x16 => [.int x16, .ref 201]) (fun _ => rfl) (ok_X12_namedSize hQ c15 p1) (fun x16 c17 => ?_)
  refine l1_callV hQ mt_X12_writeLocal mt_X12_putTwo rfl rfl (o := 201) (ci := 11) (As := [.int x16]) (rest := []) rfl rfl rfl rfl rfl rfl (st1 := fun _ => []) (fun _ => rfl) (ok_X12_putTwo hQ c17 x16) (fun _ c18 => ?_)
  refine l1_many mt_X12_writeLocal (pc' := 126) (L' := [some (.ref 201), some (.int p1), none, some (.int v3)]) (st' := [.int 0, .ref 201]) 2 rfl ?_
  refine l1_callV hQ mt_X12_writeLocal mt_X12_putTwo rfl rfl (o := 201) (ci := 11) (As := [.int 0]) (rest := []) rfl rfl rfl rfl rfl rfl (st1 := fun _ => []) (fun _ => rfl) (ok_X12_putTwo hQ c18 0) (fun _ c19 => ?_)
  refine l1_many mt_X12_writeLocal (pc' := 132) (L' := [some (.ref 201), some (.int p1), none, some (.int v3)]) (st' := [.int 1, .int p1, .ref 201]) 3 rfl ?_
  refine l1_callV hQ mt_X12_writeLocal mt_X12_putName rfl rfl (o := 201) (ci := 11) (As := [.int p1, .int 1]) (rest := []) rfl rfl rfl rfl rfl rfl (st1 := fun _ => []) (fun _ => rfl) (ok_X12_putName hQ N c19 p1 1) (fun _ c20 => ?_)
  refine l1_many mt_X12_writeLocal (pc' := 136) (L' := [some (.ref 201), some (.int p1), none, some (.int v3)]) (st' := [.ref 201]) 1 rfl ?_
  refine l1_getI hQ mt_X12_writeLocal rfl (o := 201) (ci := 11) (k := 4) (a := 0) (b := 0) rfl rfl rfl rfl rfl ?_
  refine l1_many mt_X12_writeLocal (pc' := 142) (L' := [some (.ref 201), some (.int p1), none, some (.int v3), some (.int (c20.1 201 4))]) (st' := [.ref 201]) 2 rfl ?_
  refine l1_getR hQ mt_X12_writeLocal rfl (o := 201) (ci := 11) (k := 37) (a := 0) (b := 0) rfl rfl rfl rfl rfl (q := 217) rfl ?_
  refine l1_many mt_X12_writeLocal (pc' := 146) (L' := [some (.ref 201), some (.int p1), none, some (.int v3), some (.int (c20.1 201 4))]) (st' := [.int p1, .ref 217]) 1 rfl ?_
  refine l1_ck (fun hx => ?_)
  refine l1_ald hQ mt_X12_writeLocal rfl (o := 217) rfl hx ?_
  refine l1_many mt_X12_writeLocal (pc' := bif am_cc .ne (c20.1 217 p1.toNatClampNeg) 8 then 207 else 152) (L' := [some (.ref 201), some (.int p1), none, some (.int v3), some (.int (c20.1 201 4))]) (st' := []) 2 rfl ?_
  refine l1_bin rfl ?_ ?_
  · refine l1_many mt_X12_writeLocal (pc' := 154) (L' := [some (.ref 201), some (.int p1), none, some (.int v3), some (.int (c20.1 201 4))]) (st' := [.ref 201, .ref 201]) 2 rfl ?_
    refine l1_getR hQ mt_X12_writeLocal rfl (o := 201) (ci := 11) (k := 11) (a := 0) (b := 0) rfl rfl rfl rfl rfl (q := 206) rfl ?_
    refine l1_many mt_X12_writeLocal (pc' := 158) (L' := [some (.ref 201), some (.int p1), none, some (.int v3), some (.int (c20.1 201 4))]) (st' := [.int p1, .ref 206, .ref 201]) 1 rfl ?_
    refine l1_ck (fun hx => ?_)
    refine l1_ald hQ mt_X12_writeLocal rfl (o := 206) rfl hx ?_
    refine l1_putI hQ mt_X12_writeLocal rfl (o := 201) (ci := 11) (k := 32) (a := 0) rfl rfl rfl rfl rfl rfl (fun c22 => ?_)
    refine l1_many mt_X12_writeLocal (pc' := 165) (L' := [some (.ref 201), some (.int p1), none, some (.int v3), some (.int (c20.1 201 4)), some (.int 0)]) (st' := []) 2 rfl ?_
    exact ok_X12_writeLocal_165 hQ N p1 p2 N c22 v3 (c20.1 201 4) 0
  · refine l1_many mt_X12_writeLocal (pc' := 209) (L' := [some (.ref 201), some (.int p1), none, some (.int v3), some (.int (c20.1 201 4))]) (st' := [.int p1, .ref 201]) 2 rfl ?_
    refine l1_callV hQ mt_X12_writeLocal mt_X12_putBytes rfl rfl (o := 201) (ci := 11) (As := [.int p1]) (rest := []) rfl rfl rfl rfl rfl rfl (st1 := fun _ => []) (fun _ => rfl) (ok_X12_putBytes hQ N c20 p1) (fun _ c21 => ?_)
    exact ok_X12_writeLocal_212 hQ N p1 p2 c21 v3 (c20.1 201 4)
set_option maxRecDepth 100000 in
theorem ok_X12_writeLocal_35 {Q : hS → am_H → Prop} (hQ : l1_em km Q) (N : Nat) (p1 : Int32) (p2 : Int32) : ∀ (c : hS) (v3 : Int32) (w0 : Int32), l1_G (wN wV) Q am_i_X12_writeLocal 35 [some (.ref 201), some (.int p1), none, some (.int v3)] [.int w0, .ref 217] c (f_X12_writeLocal_35 N p1 p2 c v3 w0) := by
  intro c v3 w0
  rw [f_X12_writeLocal_35]
  refine l1_many mt_X12_writeLocal (pc' := 36) (L' := [some (.ref 201), some (.int p1), none, some (.int v3)]) (st' := [.int 0, .int w0, .ref 217]) 1 rfl ?_
  exact ok_X12_writeLocal_36 hQ N p1 p2 c v3 0 w0
set_option maxRecDepth 100000 in
theorem en_X12_writeLocal {Q : hS → am_H → Prop} (hQ : l1_em km Q) (N : Nat) (c : hS) (p1 : Int32) (p2 : Int32) : l1_G (wN wV) Q am_i_X12_writeLocal 0 [some (.ref 201), some (.int p1), some (.int p2)] [] c (f_X12_writeLocal N c p1 p2) := by
  rw [f_X12_writeLocal]
  refine l1_many mt_X12_writeLocal (pc' := 1) (L' := [some (.ref 201), some (.int p1), some (.int p2)]) (st' := [.ref 201]) 1 rfl ?_
  refine l1_getI hQ mt_X12_writeLocal rfl (o := 201) (ci := 11) (k := 4) (a := 0) (b := 0) rfl rfl rfl rfl rfl ?_
  refine l1_many mt_X12_writeLocal (pc' := 6) (L' := [some (.ref 201), some (.int p1), some (.int p2), some (.int (c.1 201 4))]) (st' := [.ref 201]) 2 rfl ?_
  refine l1_getR hQ mt_X12_writeLocal rfl (o := 201) (ci := 11) (k := 36) (a := 0) (b := 0) rfl rfl rfl rfl rfl (q := 216) rfl ?_
  refine l1_many mt_X12_writeLocal (pc' := 11) (L' := [some (.ref 201), some (.int p1), some (.int p2), some (.int (c.1 201 4))]) (st' := [.int (c.1 201 4), .int p1, .ref 216]) 2 rfl ?_
  refine l1_ck (fun hx => ?_)
  refine l1_ast hQ mt_X12_writeLocal rfl (o := 216) rfl hx (fun c1 => ?_)
  refine l1_many mt_X12_writeLocal (pc' := 13) (L' := [some (.ref 201), some (.int p1), some (.int p2), some (.int (c.1 201 4))]) (st' := [.ref 201]) 1 rfl ?_
  refine l1_getR hQ mt_X12_writeLocal rfl (o := 201) (ci := 11) (k := 37) (a := 0) (b := 0) rfl rfl rfl rfl rfl (q := 217) rfl ?_
  refine l1_many mt_X12_writeLocal (pc' := bif am_cc .eq p2 0 then 35 else 21) (L' := [some (.ref 201), some (.int p1), some (.int p2), some (.int (c.1 201 4))]) (st' := [.int p1, .ref 217]) 3 rfl ?_
  refine l1_bif rfl ?_ ?_
  · refine l1_weak (m := [true, true, false, true, false, false]) (L' := [some (.ref 201), some (.int p1), none, some (.int (c.1 201 4))]) rfl ?_
    exact ok_X12_writeLocal_35 hQ N p1 p2 c1 (c.1 201 4) p1
  · refine l1_many mt_X12_writeLocal (pc' := 22) (L' := [some (.ref 201), some (.int p1), some (.int p2), some (.int (c.1 201 4))]) (st' := [.ref 201, .int p1, .ref 217]) 1 rfl ?_
    refine l1_getR hQ mt_X12_writeLocal rfl (o := 201) (ci := 11) (k := 11) (a := 0) (b := 0) rfl rfl rfl rfl rfl (q := 206) rfl ?_
    refine l1_many mt_X12_writeLocal (pc' := 26) (L' := [some (.ref 201), some (.int p1), some (.int p2), some (.int (c.1 201 4))]) (st' := [.int p1, .ref 206, .int p1, .ref 217]) 1 rfl ?_
    refine l1_ck (fun hx => ?_)
    refine l1_ald hQ mt_X12_writeLocal rfl (o := 206) rfl hx ?_
    refine l1_many mt_X12_writeLocal (pc' := bif am_cc .le (c1.1 206 p1.toNatClampNeg) 0 then 35 else 30) (L' := [some (.ref 201), some (.int p1), some (.int p2), some (.int (c.1 201 4))]) (st' := [.int p1, .ref 217]) 1 rfl ?_
    refine l1_bif rfl ?_ ?_
    · refine l1_weak (m := [true, true, false, true, false, false]) (L' := [some (.ref 201), some (.int p1), none, some (.int (c.1 201 4))]) rfl ?_
      exact ok_X12_writeLocal_35 hQ N p1 p2 c1 (c.1 201 4) p1
    · refine l1_many mt_X12_writeLocal (pc' := 36) (L' := [some (.ref 201), some (.int p1), some (.int p2), some (.int (c.1 201 4))]) (st' := [.int 8, .int p1, .ref 217]) 2 rfl ?_
      refine l1_weak (m := [true, true, false, true, false, false]) (L' := [some (.ref 201), some (.int p1), none, some (.int (c.1 201 4))]) rfl ?_
      exact ok_X12_writeLocal_36 hQ N p1 p2 c1 (c.1 201 4) 8 p1
theorem ok_X12_writeLocal {Q : hS → am_H → Prop} (hQ : l1_em km Q) (N : Nat) (c : hS) (p1 : Int32) (p2 : Int32) : l1_T wV Q am_i_X12_writeLocal [.ref 201, .int p1, .int p2] c (f_X12_writeLocal N c p1 p2) := l1_of (en_X12_writeLocal hQ N c p1 p2) ⟨rfl, rfl, rfl, trivial⟩
