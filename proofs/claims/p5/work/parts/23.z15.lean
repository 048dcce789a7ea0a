/-! THAT THE MACHINE FOLLOWS THEM, printed by gen_l1.py -/
set_option maxRecDepth 100000 in
theorem ok_X12_readContent_112 {Q : hS → am_H → Prop} (hQ : l1_em km Q) (N : Nat) (p1 : Int32) (p2 : Int32) (p3 : Int32) : ∀ n : Nat, ∀ (c : hS) (v5 : Int32) (v6 : Int32), l1_G (wN wI) Q am_i_X12_readContent 112 [some (.ref 201), some (.int p1), none, none, none, some (.int v5), some (.int v6)] [] c (f_X12_readContent_112 N p1 p2 p3 n c v5 v6) := by
  intro n
  induction n with
  | zero => intro c v5 v6; exact l1_none
  | succ n ih =>
    intro c v5 v6
    rw [f_X12_readContent_112]
    refine l1_many mt_X12_readContent (pc' := 115) (L' := [some (.ref 201), some (.int p1), none, none, none, some (.int v5), some (.int v6)]) (st' := [.ref 201, .int v6]) 2 rfl ?_
    refine l1_getI hQ mt_X12_readContent rfl (o := 201) (ci := 11) (k := 16) (a := 0) (b := 0) rfl rfl rfl rfl rfl ?_
    refine l1_many mt_X12_readContent (pc' := bif am_cc .ge v6 (c.1 201 16) then 141 else 121) (L' := [some (.ref 201), some (.int p1), none, none, none, some (.int v5), some (.int v6)]) (st' := []) 1 rfl ?_
    refine l1_bif rfl ?_ ?_
    · refine l1_many mt_X12_readContent (pc' := 150) (L' := [some (.ref 201), some (.int p1), none, none, none, some (.int v5), some (.int v6)]) (st' := [.int (p1 + 16), .ref 201, .int (v5 ^^^ (-1))]) 7 rfl ?_
      refine l1_callV hQ mt_X12_readContent mt_X12_fourAt rfl rfl (o := 201) (ci := 11) (As := [.int (p1 + 16)]) (rest := [.int (v5 ^^^ (-1))]) rfl rfl rfl rfl rfl rfl (st1 := fun x1 => [.long x1, .int (v5 ^^^ (-1))]) (fun _ => rfl) (ok_X12_fourAt hQ c (p1 + 16)) (fun x1 c2 => ?_)
      refine l1_many mt_X12_readContent (pc' := bif am_cc .eq (v5 ^^^ (-1)) x1.toInt32 then 169 else 157) (L' := [some (.ref 201), some (.int p1), none, none, none, some (.int v5), some (.int v6)]) (st' := []) 2 rfl ?_
      refine l1_bif rfl ?_ ?_
      · refine l1_many mt_X12_readContent (pc' := 174) (L' := [some (.ref 201), some (.int p1), none, none, none, some (.int v5), some (.int v6)]) (st' := [.int 1]) 2 rfl ?_
        exact l1_ret mt_X12_readContent rfl rfl rfl
      · refine l1_many mt_X12_readContent (pc' := 163) (L' := [some (.ref 201), some (.int p1), none, none, none, some (.int v5), some (.int v6)]) (st' := [.int (p1 + 16), .int 4, .ref 201]) 5 rfl ?_
        refine l1_callV hQ mt_X12_readContent mt_X12_fails rfl rfl (o := 201) (ci := 11) (As := [.int 4, .int (p1 + 16)]) (rest := []) rfl rfl rfl rfl rfl rfl (st1 := fun x3 => [.int x3]) (fun _ => rfl) (ok_X12_fails hQ c2 4 (p1 + 16)) (fun x3 c4 => ?_)
        refine l1_many mt_X12_readContent (pc' := bif am_cc .eq x3 0 then 173 else 169) (L' := [some (.ref 201), some (.int p1), none, none, none, some (.int v5), some (.int v6)]) (st' := []) 1 rfl ?_
        refine l1_bif rfl ?_ ?_
        · refine l1_many mt_X12_readContent (pc' := 174) (L' := [some (.ref 201), some (.int p1), none, none, none, some (.int v5), some (.int v6)]) (st' := [.int 0]) 1 rfl ?_
          exact l1_ret mt_X12_readContent rfl rfl rfl
        · refine l1_many mt_X12_readContent (pc' := 174) (L' := [some (.ref 201), some (.int p1), none, none, none, some (.int v5), some (.int v6)]) (st' := [.int 1]) 2 rfl ?_
          exact l1_ret mt_X12_readContent rfl rfl rfl
    · refine l1_many mt_X12_readContent (pc' := 124) (L' := [some (.ref 201), some (.int p1), none, none, none, some (.int v5), some (.int v6)]) (st' := [.ref 201, .int v5]) 2 rfl ?_
      refine l1_getR hQ mt_X12_readContent rfl (o := 201) (ci := 11) (k := 17) (a := 0) (b := 0) rfl rfl rfl rfl rfl (q := 210) rfl ?_
      refine l1_many mt_X12_readContent (pc' := 129) (L' := [some (.ref 201), some (.int p1), none, none, none, some (.int v5), some (.int v6)]) (st' := [.int v6, .ref 210, .int v5]) 1 rfl ?_
      refine l1_ck (fun hx => ?_)
      refine l1_ald hQ mt_X12_readContent rfl (o := 210) rfl hx ?_
      refine l1_callS mt_X12_readContent mt_X12_checkMore rfl rfl (As := [.int v5, .int (c.1 210 v6.toNatClampNeg)]) (rest := []) rfl rfl rfl (st1 := fun x5 => [.int x5]) (fun _ => rfl) (ok_X12_checkMore hQ N c v5 (c.1 210 v6.toNatClampNeg)) (fun x5 c6 => ?_)
      refine l1_many mt_X12_readContent (pc' := 112) (L' := [some (.ref 201), some (.int p1), none, none, none, some (.int x5), some (.int (v6 + 1))]) (st' := []) 3 rfl ?_
      exact ih c6 x5 (v6 + 1)
set_option maxRecDepth 100000 in
theorem ok_X12_readContent_77 {Q : hS → am_H → Prop} (hQ : l1_em km Q) (N : Nat) (p1 : Int32) (p2 : Int32) (p3 : Int32) : ∀ n : Nat, ∀ (c : hS) (v5 : Int32), l1_G (wN wI) Q am_i_X12_readContent 77 [some (.ref 201), some (.int p1), none, none, none, some (.int v5)] [] c (f_X12_readContent_77 N p1 p2 p3 n c v5) := by
  intro n
  induction n with
  | zero => intro c v5; exact l1_none
  | succ n ih =>
    intro c v5
    rw [f_X12_readContent_77]
    refine l1_many mt_X12_readContent (pc' := 80) (L' := [some (.ref 201), some (.int p1), none, none, none, some (.int v5)]) (st' := [.ref 201, .int v5]) 2 rfl ?_
    refine l1_getI hQ mt_X12_readContent rfl (o := 201) (ci := 11) (k := 23) (a := 0) (b := 0) rfl rfl rfl rfl rfl ?_
    refine l1_many mt_X12_readContent (pc' := bif am_cc .ge v5 (c.1 201 23) then 106 else 86) (L' := [some (.ref 201), some (.int p1), none, none, none, some (.int v5)]) (st' := []) 1 rfl ?_
    refine l1_bif rfl ?_ ?_
    · refine l1_many mt_X12_readContent (pc' := 112) (L' := [some (.ref 201), some (.int p1), none, none, none, some (.int (-1)), some (.int 0)]) (st' := []) 4 rfl ?_
      exact ok_X12_readContent_112 hQ N p1 p2 p3 N c (-1) 0
    · refine l1_many mt_X12_readContent (pc' := 87) (L' := [some (.ref 201), some (.int p1), none, none, none, some (.int v5)]) (st' := [.ref 201]) 1 rfl ?_
      refine l1_getR hQ mt_X12_readContent rfl (o := 201) (ci := 11) (k := 17) (a := 0) (b := 0) rfl rfl rfl rfl rfl (q := 210) rfl ?_
      refine l1_many mt_X12_readContent (pc' := 93) (L' := [some (.ref 201), some (.int p1), none, none, none, some (.int v5)]) (st' := [.ref 201, .int v5, .ref 210]) 2 rfl ?_
      refine l1_getR hQ mt_X12_readContent rfl (o := 201) (ci := 11) (k := 22) (a := 0) (b := 0) rfl rfl rfl rfl rfl (q := 211) rfl ?_
      refine l1_many mt_X12_readContent (pc' := 98) (L' := [some (.ref 201), some (.int p1), none, none, none, some (.int v5)]) (st' := [.int v5, .ref 211, .int v5, .ref 210]) 1 rfl ?_
      refine l1_ck (fun hx => ?_)
      refine l1_ald hQ mt_X12_readContent rfl (o := 211) rfl hx ?_
      refine l1_ck (fun hx => ?_)
      refine l1_ast hQ mt_X12_readContent rfl (o := 210) rfl hx (fun c1 => ?_)
      refine l1_many mt_X12_readContent (pc' := 77) (L' := [some (.ref 201), some (.int p1), none, none, none, some (.int (v5 + 1))]) (st' := []) 2 rfl ?_
      exact ih c1 (v5 + 1)
set_option maxRecDepth 100000 in
theorem en_X12_readContent {Q : hS → am_H → Prop} (hQ : l1_em km Q) (N : Nat) (c : hS) (p1 : Int32) (p2 : Int32) (p3 : Int32) : l1_G (wN wI) Q am_i_X12_readContent 0 [some (.ref 201), some (.int p1), some (.int p2), some (.int p3)] [] c (f_X12_readContent N c p1 p2 p3) := by
  rw [f_X12_readContent]
  refine l1_many mt_X12_readContent (pc' := 5) (L' := [some (.ref 201), some (.int p1), some (.int p2), some (.int p3)]) (st' := [.int (p1 + 24), .ref 201]) 4 rfl ?_
  refine l1_callV hQ mt_X12_readContent mt_X12_fourAt rfl rfl (o := 201) (ci := 11) (As := [.int (p1 + 24)]) (rest := []) rfl rfl rfl rfl rfl rfl (st1 := fun x1 => [.long x1]) (fun _ => rfl) (ok_X12_fourAt hQ c (p1 + 24)) (fun x1 c2 => ?_)
  refine l1_many mt_X12_readContent (pc' := 16) (L' := [some (.ref 201), some (.int p1), some (.int p2), some (.int p3), some (.int x1.toInt32)]) (st' := [.int (p1 + 10), .ref 201]) 6 rfl ?_
  refine l1_callV hQ mt_X12_readContent mt_X12_twoAt rfl rfl (o := 201) (ci := 11) (As := [.int (p1 + 10)]) (rest := []) rfl rfl rfl rfl rfl rfl (st1 := fun x3 => [.int x3]) (fun _ => rfl) (ok_X12_twoAt hQ c2 (p1 + 10)) (fun x3 c4 => ?_)
  refine l1_many mt_X12_readContent (pc' := bif am_cc .ne x3 0 then 31 else 22) (L' := [some (.ref 201), some (.int p1), some (.int p2), some (.int p3), some (.int x1.toInt32)]) (st' := []) 1 rfl ?_
  refine l1_bin rfl ?_ ?_
  · refine l1_many mt_X12_readContent (pc' := 25) (L' := [some (.ref 201), some (.int p1), some (.int p2), some (.int p3), some (.int x1.toInt32)]) (st' := [.int p3, .int p2, .ref 201]) 3 rfl ?_
    refine l1_callV hQ mt_X12_readContent mt_X12_takeBytes rfl rfl (o := 201) (ci := 11) (As := [.int p2, .int p3]) (rest := []) rfl rfl rfl rfl rfl rfl (st1 := fun _ => []) (fun _ => rfl) (ok_X12_takeBytes hQ N c4 p2 p3) (fun _ c10 => ?_)
    refine l1_many mt_X12_readContent (pc' := 112) (L' := [some (.ref 201), some (.int p1), some (.int p2), some (.int p3), some (.int x1.toInt32), some (.int (-1)), some (.int 0)]) (st' := []) 5 rfl ?_
    refine l1_weak (m := [true, true, false, false, false, true, true]) (L' := [some (.ref 201), some (.int p1), none, none, none, some (.int (-1)), some (.int 0)]) rfl ?_
    exact ok_X12_readContent_112 hQ N p1 p2 p3 N c10 (-1) 0
  · refine l1_many mt_X12_readContent (pc' := 38) (L' := [some (.ref 201), some (.int p1), some (.int p2), some (.int p3), some (.int x1.toInt32)]) (st' := [.int x1.toInt32, .int (p2 + p3), .int p2, .ref 201]) 6 rfl ?_
    refine l1_callV hQ mt_X12_readContent mt_X12_unpackFrom rfl rfl (o := 201) (ci := 11) (As := [.int p2, .int (p2 + p3), .int x1.toInt32]) (rest := []) rfl rfl rfl rfl rfl rfl (st1 := fun x5 => [.int x5]) (fun _ => rfl) (ok_X12_unpackFrom hQ N c4 p2 (p2 + p3) x1.toInt32) (fun x5 c6 => ?_)
    refine l1_many mt_X12_readContent (pc' := bif am_cc .ne x5 0 then 46 else 44) (L' := [some (.ref 201), some (.int p1), some (.int p2), some (.int p3), some (.int x1.toInt32)]) (st' := []) 1 rfl ?_
    refine l1_bin rfl ?_ ?_
    · refine l1_many mt_X12_readContent (pc' := 45) (L' := [some (.ref 201), some (.int p1), some (.int p2), some (.int p3), some (.int x1.toInt32)]) (st' := [.int 0]) 1 rfl ?_
      exact l1_ret mt_X12_readContent rfl rfl rfl
    · refine l1_many mt_X12_readContent (pc' := 47) (L' := [some (.ref 201), some (.int p1), some (.int p2), some (.int p3), some (.int x1.toInt32)]) (st' := [.ref 201]) 1 rfl ?_
      refine l1_getI hQ mt_X12_readContent rfl (o := 201) (ci := 11) (k := 23) (a := 0) (b := 0) rfl rfl rfl rfl rfl ?_
      refine l1_many mt_X12_readContent (pc' := bif am_cc .eq (c6.1 201 23) x1.toInt32 then 66 else 55) (L' := [some (.ref 201), some (.int p1), some (.int p2), some (.int p3), some (.int x1.toInt32)]) (st' := []) 2 rfl ?_
      refine l1_bif rfl ?_ ?_
      · refine l1_many mt_X12_readContent (pc' := 68) (L' := [some (.ref 201), some (.int p1), some (.int p2), some (.int p3), some (.int x1.toInt32)]) (st' := [.ref 201, .ref 201]) 2 rfl ?_
        refine l1_getI hQ mt_X12_readContent rfl (o := 201) (ci := 11) (k := 23) (a := 0) (b := 0) rfl rfl rfl rfl rfl ?_
        refine l1_putI hQ mt_X12_readContent rfl (o := 201) (ci := 11) (k := 16) (a := 0) rfl rfl rfl rfl rfl rfl (fun c7 => ?_)
        refine l1_many mt_X12_readContent (pc' := 77) (L' := [some (.ref 201), some (.int p1), some (.int p2), some (.int p3), some (.int x1.toInt32), some (.int 0)]) (st' := []) 2 rfl ?_
        refine l1_weak (m := [true, true, false, false, false, true, false]) (L' := [some (.ref 201), some (.int p1), none, none, none, some (.int 0)]) rfl ?_
        exact ok_X12_readContent_77 hQ N p1 p2 p3 N c7 0
      · refine l1_many mt_X12_readContent (pc' := 62) (L' := [some (.ref 201), some (.int p1), some (.int p2), some (.int p3), some (.int x1.toInt32)]) (st' := [.int (p1 + 24), .int 14, .ref 201]) 5 rfl ?_
        refine l1_callV hQ mt_X12_readContent mt_X12_fails rfl rfl (o := 201) (ci := 11) (As := [.int 14, .int (p1 + 24)]) (rest := []) rfl rfl rfl rfl rfl rfl (st1 := fun x8 => [.int x8]) (fun _ => rfl) (ok_X12_fails hQ c6 14 (p1 + 24)) (fun x8 c9 => ?_)
        refine l1_ck (fun hz => ?_)
        exact l1_retZ mt_X12_readContent rfl rfl rfl hz
theorem ok_X12_readContent {Q : hS → am_H → Prop} (hQ : l1_em km Q) (N : Nat) (c : hS) (p1 : Int32) (p2 : Int32) (p3 : Int32) : l1_T wI Q am_i_X12_readContent [.ref 201, .int p1, .int p2, .int p3] c (f_X12_readContent N c p1 p2 p3) := l1_of (en_X12_readContent hQ N c p1 p2 p3) ⟨rfl, rfl, rfl, rfl, trivial⟩
set_option maxRecDepth 100000 in
theorem ok_X12_readLocal_170 {Q : hS → am_H → Prop} (hQ : l1_em km Q) (N : Nat) (p1 : Int32) (p2 : Int32) : ∀ n : Nat, ∀ (c : hS) (v5 : Int32) (v6 : Int32) (v7 : Int32), l1_G (wN wI) Q am_i_X12_readLocal 170 [some (.ref 201), some (.int p1), some (.int p2), none, none, some (.int v5), some (.int v6), some (.int v7)] [] c (f_X12_readLocal_170 N p1 p2 n c v5 v6 v7) := by
  intro n
  induction n with
  | zero => intro c v5 v6 v7; exact l1_none
  | succ n ih =>
    intro c v5 v6 v7
    rw [f_X12_readLocal_170]
    refine l1_many mt_X12_readLocal (pc' := bif am_cc .ge v7 v6 then 226 else 177) (L' := [some (.ref 201), some (.int p1), some (.int p2), none, none, some (.int v5), some (.int v6), some (.int v7)]) (st' := []) 3 rfl ?_
    refine l1_bif rfl ?_ ?_
    · refine l1_many mt_X12_readLocal (pc' := 243) (L' := [some (.ref 201), some (.int p1), some (.int p2), none, none, some (.int v5), some (.int v6), some (.int v7)]) (st' := [.int (v5 + 28), .ref 201, .long ((v5.toInt64 + 30) + v6.toInt64)]) 11 rfl ?_
      refine l1_callV hQ mt_X12_readLocal mt_X12_twoAt rfl rfl (o := 201) (ci := 11) (As := [.int (v5 + 28)]) (rest := [.long ((v5.toInt64 + 30) + v6.toInt64)]) rfl rfl rfl rfl rfl rfl (st1 := fun x1 => [.int x1, .long ((v5.toInt64 + 30) + v6.toInt64)]) (fun _ => rfl) (ok_X12_twoAt hQ c (v5 + 28)) (fun x1 c2 => ?_)
      refine l1_many mt_X12_readLocal (pc' := 255) (L' := [some (.ref 201), some (.int p1), some (.int p2), none, none, some (.int v5), some (.int v6), some (.long (((v5.toInt64 + 30) + v6.toInt64) + x1.toInt64))]) (st' := [.int (p1 + 20), .ref 201]) 7 rfl ?_
      refine l1_callV hQ mt_X12_readLocal mt_X12_fourAt rfl rfl (o := 201) (ci := 11) (As := [.int (p1 + 20)]) (rest := []) rfl rfl rfl rfl rfl rfl (st1 := fun x3 => [.long x3]) (fun _ => rfl) (ok_X12_fourAt hQ c2 (p1 + 20)) (fun x3 c4 => ?_)
      refine l1_many mt_X12_readLocal (pc' := bif am_cc .le (j_cmp ((((v5.toInt64 + 30) + v6.toInt64) + x1.toInt64) + x3) p2.toInt64) 0 then 282 else 271) (L' := [some (.ref 201), some (.int p1), some (.int p2), none, none, some (.int v5), some (.int v6), some (.long (((v5.toInt64 + 30) + v6.toInt64) + x1.toInt64)), none, some (.long x3)]) (st' := []) 8 rfl ?_
      refine l1_bif rfl ?_ ?_
      · refine l1_many mt_X12_readLocal (pc' := 290) (L' := [some (.ref 201), some (.int p1), some (.int p2), none, none, some (.int v5), some (.int v6), some (.long (((v5.toInt64 + 30) + v6.toInt64) + x1.toInt64)), none, some (.long x3)]) (st' := [.int x3.toInt32, .int ((((v5.toInt64 + 30) + v6.toInt64) + x1.toInt64).toInt32), .int p1, .ref 201]) 6 rfl ?_
        refine l1_callV hQ mt_X12_readLocal mt_X12_readContent rfl rfl (o := 201) (ci := 11) (As := [.int p1, .int ((((v5.toInt64 + 30) + v6.toInt64) + x1.toInt64).toInt32), .int x3.toInt32]) (rest := []) rfl rfl rfl rfl rfl rfl (st1 := fun x5 => [.int x5]) (fun _ => rfl) (ok_X12_readContent hQ N c4 p1 ((((v5.toInt64 + 30) + v6.toInt64) + x1.toInt64).toInt32) x3.toInt32) (fun x5 c6 => ?_)
        refine l1_ck (fun hz => ?_)
        exact l1_retZ mt_X12_readLocal rfl rfl rfl hz
      · refine l1_many mt_X12_readLocal (pc' := 278) (L' := [some (.ref 201), some (.int p1), some (.int p2), none, none, some (.int v5), some (.int v6), some (.long (((v5.toInt64 + 30) + v6.toInt64) + x1.toInt64)), none, some (.long x3)]) (st' := [.int (p1 + 42), .int 12, .ref 201]) 5 rfl ?_
        refine l1_callV hQ mt_X12_readLocal mt_X12_fails rfl rfl (o := 201) (ci := 11) (As := [.int 12, .int (p1 + 42)]) (rest := []) rfl rfl rfl rfl rfl rfl (st1 := fun x7 => [.int x7]) (fun _ => rfl) (ok_X12_fails hQ c4 12 (p1 + 42)) (fun x7 c8 => ?_)
        refine l1_ck (fun hz => ?_)
        exact l1_retZ mt_X12_readLocal rfl rfl rfl hz
    · refine l1_many mt_X12_readLocal (pc' := 178) (L' := [some (.ref 201), some (.int p1), some (.int p2), none, none, some (.int v5), some (.int v6), some (.int v7)]) (st' := [.ref 201]) 1 rfl ?_
      refine l1_getR hQ mt_X12_readLocal rfl (o := 201) (ci := 11) (k := 3) (a := 0) (b := 0) rfl rfl rfl rfl rfl (q := 203) rfl ?_
      refine l1_many mt_X12_readLocal (pc' := 189) (L' := [some (.ref 201), some (.int p1), some (.int p2), none, none, some (.int v5), some (.int v6), some (.int v7)]) (st' := [.int ((v5 + 30) + v7), .ref 203]) 5 rfl ?_
      refine l1_ck (fun hx => ?_)
      refine l1_ald hQ mt_X12_readLocal rfl (o := 203) rfl hx ?_
      refine l1_many mt_X12_readLocal (pc' := 191) (L' := [some (.ref 201), some (.int p1), some (.int p2), none, none, some (.int v5), some (.int v6), some (.int v7)]) (st' := [.ref 201, .int (c.1 203 ((v5 + 30) + v7).toNatClampNeg)]) 1 rfl ?_
      refine l1_getR hQ mt_X12_readLocal rfl (o := 201) (ci := 11) (k := 3) (a := 0) (b := 0) rfl rfl rfl rfl rfl (q := 203) rfl ?_
      refine l1_many mt_X12_readLocal (pc' := 201) (L' := [some (.ref 201), some (.int p1), some (.int p2), none, none, some (.int v5), some (.int v6), some (.int v7)]) (st' := [.int ((p1 + 46) + v7), .ref 203, .int (c.1 203 ((v5 + 30) + v7).toNatClampNeg)]) 5 rfl ?_
      refine l1_ck (fun hx => ?_)
      refine l1_ald hQ mt_X12_readLocal rfl (o := 203) rfl hx ?_
      refine l1_many mt_X12_readLocal (pc' := bif am_cc .eq (c.1 203 ((v5 + 30) + v7).toNatClampNeg) (c.1 203 ((p1 + 46) + v7).toNatClampNeg) then 220 else 205) (L' := [some (.ref 201), some (.int p1), some (.int p2), none, none, some (.int v5), some (.int v6), some (.int v7)]) (st' := []) 1 rfl ?_
      refine l1_bif rfl ?_ ?_
      · refine l1_many mt_X12_readLocal (pc' := 170) (L' := [some (.ref 201), some (.int p1), some (.int p2), none, none, some (.int v5), some (.int v6), some (.int (v7 + 1))]) (st' := []) 2 rfl ?_
        exact ih c v5 v6 (v7 + 1)
      · refine l1_many mt_X12_readLocal (pc' := 216) (L' := [some (.ref 201), some (.int p1), some (.int p2), none, none, some (.int v5), some (.int v6), some (.int v7)]) (st' := [.int ((v5 + 30) + v7), .int 13, .ref 201]) 7 rfl ?_
        refine l1_callV hQ mt_X12_readLocal mt_X12_fails rfl rfl (o := 201) (ci := 11) (As := [.int 13, .int ((v5 + 30) + v7)]) (rest := []) rfl rfl rfl rfl rfl rfl (st1 := fun x9 => [.int x9]) (fun _ => rfl) (ok_X12_fails hQ c 13 ((v5 + 30) + v7)) (fun x9 c10 => ?_)
        refine l1_ck (fun hz => ?_)
        exact l1_retZ mt_X12_readLocal rfl rfl rfl hz
set_option maxRecDepth 100000 in
theorem en_X12_readLocal {Q : hS → am_H → Prop} (hQ : l1_em km Q) (N : Nat) (c : hS) (p1 : Int32) (p2 : Int32) : l1_G (wN wI) Q am_i_X12_readLocal 0 [some (.ref 201), some (.int p1), some (.int p2)] [] c (f_X12_readLocal N c p1 p2) := by
  rw [f_X12_readLocal]
  refine l1_many mt_X12_readLocal (pc' := 5) (L' := [some (.ref 201), some (.int p1), some (.int p2)]) (st' := [.int (p1 + 42), .ref 201]) 4 rfl ?_
  refine l1_callV hQ mt_X12_readLocal mt_X12_fourAt rfl rfl (o := 201) (ci := 11) (As := [.int (p1 + 42)]) (rest := []) rfl rfl rfl rfl rfl rfl (st1 := fun x1 => [.long x1]) (fun _ => rfl) (ok_X12_fourAt hQ c (p1 + 42)) (fun x1 c2 => ?_)
  refine l1_many mt_X12_readLocal (pc' := bif am_cc .le (j_cmp (x1 + 30) p2.toInt64) 0 then 31 else 20) (L' := [some (.ref 201), some (.int p1), some (.int p2), some (.long x1)]) (st' := []) 8 rfl ?_
  refine l1_bif rfl ?_ ?_
  · refine l1_many mt_X12_readLocal (pc' := 45) (L' := [some (.ref 201), some (.int p1), some (.int p2), some (.long x1), none, some (.int x1.toInt32)]) (st' := [.int 3, .int 4, .int 3, .int 75, .int 80, .int x1.toInt32, .ref 201]) 10 rfl ?_
    refine l1_callV hQ mt_X12_readLocal mt_X12_isRow rfl rfl (o := 201) (ci := 11) (As := [.int x1.toInt32, .int 80, .int 75, .int 3, .int 4, .int 3]) (rest := []) rfl rfl rfl rfl rfl rfl (st1 := fun x3 => [.int x3]) (fun _ => rfl) (ok_X12_isRow hQ N c2 x1.toInt32 80 75 3 4 3) (fun x3 c4 => ?_)
    refine l1_many mt_X12_readLocal (pc' := bif am_cc .ne x3 0 then 53 else 51) (L' := [some (.ref 201), some (.int p1), some (.int p2), some (.long x1), none, some (.int x1.toInt32)]) (st' := []) 1 rfl ?_
    refine l1_bin rfl ?_ ?_
    · refine l1_many mt_X12_readLocal (pc' := 52) (L' := [some (.ref 201), some (.int p1), some (.int p2), some (.long x1), none, some (.int x1.toInt32)]) (st' := [.int 0]) 1 rfl ?_
      exact l1_ret mt_X12_readLocal rfl rfl rfl
    · refine l1_many mt_X12_readLocal (pc' := 64) (L' := [some (.ref 201), some (.int p1), some (.int p2), some (.long x1), none, some (.int x1.toInt32)]) (st' := [.int 2, .int (p1 + 8), .int (x1.toInt32 + 6), .ref 201]) 8 rfl ?_
      refine l1_callV hQ mt_X12_readLocal mt_X12_isAsThere rfl rfl (o := 201) (ci := 11) (As := [.int (x1.toInt32 + 6), .int (p1 + 8), .int 2]) (rest := []) rfl rfl rfl rfl rfl rfl (st1 := fun x5 => [.int x5]) (fun _ => rfl) (ok_X12_isAsThere hQ c4 (x1.toInt32 + 6) (p1 + 8) 2) (fun x5 c6 => ?_)
      refine l1_many mt_X12_readLocal (pc' := bif am_cc .eq x5 0 then 155 else 70) (L' := [some (.ref 201), some (.int p1), some (.int p2), some (.long x1), none, some (.int x1.toInt32)]) (st' := []) 1 rfl ?_
      refine l1_bif rfl ?_ ?_
      · refine l1_many mt_X12_readLocal (pc' := 156) (L' := [some (.ref 201), some (.int p1), some (.int p2), some (.long x1), none, some (.int x1.toInt32)]) (st' := [.int 0]) 1 rfl ?_
        exact l1_ret mt_X12_readLocal rfl rfl rfl
      · refine l1_many mt_X12_readLocal (pc' := 81) (L' := [some (.ref 201), some (.int p1), some (.int p2), some (.long x1), none, some (.int x1.toInt32)]) (st' := [.int 2, .int (p1 + 10), .int (x1.toInt32 + 8), .ref 201]) 8 rfl ?_
        refine l1_callV hQ mt_X12_readLocal mt_X12_isAsThere rfl rfl (o := 201) (ci := 11) (As := [.int (x1.toInt32 + 8), .int (p1 + 10), .int 2]) (rest := []) rfl rfl rfl rfl rfl rfl (st1 := fun x7 => [.int x7]) (fun _ => rfl) (ok_X12_isAsThere hQ c6 (x1.toInt32 + 8) (p1 + 10) 2) (fun x7 c8 => ?_)
        refine l1_many mt_X12_readLocal (pc' := bif am_cc .eq x7 0 then 155 else 87) (L' := [some (.ref 201), some (.int p1), some (.int p2), some (.long x1), none, some (.int x1.toInt32)]) (st' := []) 1 rfl ?_
        refine l1_bif rfl ?_ ?_
        · refine l1_many mt_X12_readLocal (pc' := 156) (L' := [some (.ref 201), some (.int p1), some (.int p2), some (.long x1), none, some (.int x1.toInt32)]) (st' := [.int 0]) 1 rfl ?_
          exact l1_ret mt_X12_readLocal rfl rfl rfl
        · refine l1_many mt_X12_readLocal (pc' := 98) (L' := [some (.ref 201), some (.int p1), some (.int p2), some (.long x1), none, some (.int x1.toInt32)]) (st' := [.int 4, .int (p1 + 16), .int (x1.toInt32 + 14), .ref 201]) 8 rfl ?_
          refine l1_callV hQ mt_X12_readLocal mt_X12_isAsThere rfl rfl (o := 201) (ci := 11) (As := [.int (x1.toInt32 + 14), .int (p1 + 16), .int 4]) (rest := []) rfl rfl rfl rfl rfl rfl (st1 := fun x9 => [.int x9]) (fun _ => rfl) (ok_X12_isAsThere hQ c8 (x1.toInt32 + 14) (p1 + 16) 4) (fun x9 c10 => ?_)
          refine l1_many mt_X12_readLocal (pc' := bif am_cc .eq x9 0 then 155 else 104) (L' := [some (.ref 201), some (.int p1), some (.int p2), some (.long x1), none, some (.int x1.toInt32)]) (st' := []) 1 rfl ?_
          refine l1_bif rfl ?_ ?_
          · refine l1_many mt_X12_readLocal (pc' := 156) (L' := [some (.ref 201), some (.int p1), some (.int p2), some (.long x1), none, some (.int x1.toInt32)]) (st' := [.int 0]) 1 rfl ?_
            exact l1_ret mt_X12_readLocal rfl rfl rfl
          · refine l1_many mt_X12_readLocal (pc' := 115) (L' := [some (.ref 201), some (.int p1), some (.int p2), some (.long x1), none, some (.int x1.toInt32)]) (st' := [.int 4, .int (p1 + 20), .int (x1.toInt32 + 18), .ref 201]) 8 rfl ?_
            refine l1_callV hQ mt_X12_readLocal mt_X12_isAsThere rfl rfl (o := 201) (ci := 11) (As := [.int (x1.toInt32 + 18), .int (p1 + 20), .int 4]) (rest := []) rfl rfl rfl rfl rfl rfl (st1 := fun x11 => [.int x11]) (fun _ => rfl) (ok_X12_isAsThere hQ c10 (x1.toInt32 + 18) (p1 + 20) 4) (fun x11 c12 => ?_)
            refine l1_many mt_X12_readLocal (pc' := bif am_cc .eq x11 0 then 155 else 121) (L' := [some (.ref 201), some (.int p1), some (.int p2), some (.long x1), none, some (.int x1.toInt32)]) (st' := []) 1 rfl ?_
            refine l1_bif rfl ?_ ?_
            · refine l1_many mt_X12_readLocal (pc' := 156) (L' := [some (.ref 201), some (.int p1), some (.int p2), some (.long x1), none, some (.int x1.toInt32)]) (st' := [.int 0]) 1 rfl ?_
              exact l1_ret mt_X12_readLocal rfl rfl rfl
            · refine l1_many mt_X12_readLocal (pc' := 132) (L' := [some (.ref 201), some (.int p1), some (.int p2), some (.long x1), none, some (.int x1.toInt32)]) (st' := [.int 4, .int (p1 + 24), .int (x1.toInt32 + 22), .ref 201]) 8 rfl ?_
              refine l1_callV hQ mt_X12_readLocal mt_X12_isAsThere rfl rfl (o := 201) (ci := 11) (As := [.int (x1.toInt32 + 22), .int (p1 + 24), .int 4]) (rest := []) rfl rfl rfl rfl rfl rfl (st1 := fun x13 => [.int x13]) (fun _ => rfl) (ok_X12_isAsThere hQ c12 (x1.toInt32 + 22) (p1 + 24) 4) (fun x13 c14 => ?_)
              refine l1_many mt_X12_readLocal (pc' := bif am_cc .eq x13 0 then 155 else 138) (L' := [some (.ref 201), some (.int p1), some (.int p2), some (.long x1), none, some (.int x1.toInt32)]) (st' := []) 1 rfl ?_
              refine l1_bif rfl ?_ ?_
              · refine l1_many mt_X12_readLocal (pc' := 156) (L' := [some (.ref 201), some (.int p1), some (.int p2), some (.long x1), none, some (.int x1.toInt32)]) (st' := [.int 0]) 1 rfl ?_
                exact l1_ret mt_X12_readLocal rfl rfl rfl
              · refine l1_many mt_X12_readLocal (pc' := 149) (L' := [some (.ref 201), some (.int p1), some (.int p2), some (.long x1), none, some (.int x1.toInt32)]) (st' := [.int 2, .int (p1 + 28), .int (x1.toInt32 + 26), .ref 201]) 8 rfl ?_
                refine l1_callV hQ mt_X12_readLocal mt_X12_isAsThere rfl rfl (o := 201) (ci := 11) (As := [.int (x1.toInt32 + 26), .int (p1 + 28), .int 2]) (rest := []) rfl rfl rfl rfl rfl rfl (st1 := fun x15 => [.int x15]) (fun _ => rfl) (ok_X12_isAsThere hQ c14 (x1.toInt32 + 26) (p1 + 28) 2) (fun x15 c16 => ?_)
                refine l1_many mt_X12_readLocal (pc' := bif am_cc .ne x15 0 then 157 else 155) (L' := [some (.ref 201), some (.int p1), some (.int p2), some (.long x1), none, some (.int x1.toInt32)]) (st' := []) 1 rfl ?_
                refine l1_bin rfl ?_ ?_
                · refine l1_many mt_X12_readLocal (pc' := 156) (L' := [some (.ref 201), some (.int p1), some (.int p2), some (.long x1), none, some (.int x1.toInt32)]) (st' := [.int 0]) 1 rfl ?_
                  exact l1_ret mt_X12_readLocal rfl rfl rfl
                · refine l1_many mt_X12_readLocal (pc' := 162) (L' := [some (.ref 201), some (.int p1), some (.int p2), some (.long x1), none, some (.int x1.toInt32)]) (st' := [.int (p1 + 28), .ref 201]) 4 rfl ?_
                  refine l1_callV hQ mt_X12_readLocal mt_X12_twoAt rfl rfl (o := 201) (ci := 11) (As := [.int (p1 + 28)]) (rest := []) rfl rfl rfl rfl rfl rfl (st1 := fun x17 => [.int x17]) (fun _ => rfl) (ok_X12_twoAt hQ c16 (p1 + 28)) (fun x17 c18 => ?_)
                  refine l1_many mt_X12_readLocal (pc' := 170) (L' := [some (.ref 201), some (.int p1), some (.int p2), some (.long x1), none, some (.int x1.toInt32), some (.int x17), some (.int 0)]) (st' := []) 3 rfl ?_
                  refine l1_weak (m := [true, true, true, false, false, true, true, true, false, false, false]) (L' := [some (.ref 201), some (.int p1), some (.int p2), none, none, some (.int x1.toInt32), some (.int x17), some (.int 0)]) rfl ?_
                  exact ok_X12_readLocal_170 hQ N p1 p2 N c18 x1.toInt32 x17 0
  · refine l1_many mt_X12_readLocal (pc' := 27) (L' := [some (.ref 201), some (.int p1), some (.int p2), some (.long x1)]) (st' := [.int (p1 + 42), .int 12, .ref 201]) 5 rfl ?_
    refine l1_callV hQ mt_X12_readLocal mt_X12_fails rfl rfl (o := 201) (ci := 11) (As := [.int 12, .int (p1 + 42)]) (rest := []) rfl rfl rfl rfl rfl rfl (st1 := fun x19 => [.int x19]) (fun _ => rfl) (ok_X12_fails hQ c2 12 (p1 + 42)) (fun x19 c20 => ?_)
    refine l1_ck (fun hz => ?_)
    exact l1_retZ mt_X12_readLocal rfl rfl rfl hz
theorem ok_X12_readLocal {Q : hS → am_H → Prop} (hQ : l1_em km Q) (N : Nat) (c : hS) (p1 : Int32) (p2 : Int32) : l1_T wI Q am_i_X12_readLocal [.ref 201, .int p1, .int p2] c (f_X12_readLocal N c p1 p2) := l1_of (en_X12_readLocal hQ N c p1 p2) ⟨rfl, rfl, rfl, trivial⟩
set_option maxRecDepth 100000 in
theorem ok_X12_readDirectory_52 {Q : hS → am_H → Prop} (hQ : l1_em km Q) (N : Nat) : ∀ n : Nat, ∀ (c : hS) (v1 : Int32) (v2 : Int32) (v3 : Int32) (v4 : Int32), l1_G (wN wI) Q am_i_X12_readDirectory 52 [some (.ref 201), some (.int v1), some (.int v2), some (.int v3), some (.int v4)] [] c (f_X12_readDirectory_52 N n c v1 v2 v3 v4) := by
  intro n
  induction n with
  | zero => intro c v1 v2 v3 v4; exact l1_none
  | succ n ih =>
    intro c v1 v2 v3 v4
    rw [f_X12_readDirectory_52]
    refine l1_many mt_X12_readDirectory (pc' := 59) (L' := [some (.ref 201), some (.int v1), some (.int v2), some (.int v3), some (.int v4)]) (st' := [.int (v1 + 10), .ref 201, .int v4]) 5 rfl ?_
    refine l1_callV hQ mt_X12_readDirectory mt_X12_twoAt rfl rfl (o := 201) (ci := 11) (As := [.int (v1 + 10)]) (rest := [.int v4]) rfl rfl rfl rfl rfl rfl (st1 := fun x1 => [.int x1, .int v4]) (fun _ => rfl) (ok_X12_twoAt hQ c (v1 + 10)) (fun x1 c2 => ?_)
    refine l1_many mt_X12_readDirectory (pc' := bif am_cc .ge v4 x1 then 131 else 65) (L' := [some (.ref 201), some (.int v1), some (.int v2), some (.int v3), some (.int v4)]) (st' := []) 1 rfl ?_
    refine l1_bif rfl ?_ ?_
    · refine l1_many mt_X12_readDirectory (pc' := bif am_cc .eq v3 v1 then 146 else 136) (L' := [some (.ref 201), some (.int v1), some (.int v2), some (.int v3), some (.int v4)]) (st' := []) 3 rfl ?_
      refine l1_bif rfl ?_ ?_
      · refine l1_many mt_X12_readDirectory (pc' := 151) (L' := [some (.ref 201), some (.int v1), some (.int v2), some (.int v3), some (.int v4)]) (st' := [.int 1]) 2 rfl ?_
        exact l1_ret mt_X12_readDirectory rfl rfl rfl
      · refine l1_many mt_X12_readDirectory (pc' := 140) (L' := [some (.ref 201), some (.int v1), some (.int v2), some (.int v3), some (.int v4)]) (st' := [.int v3, .int 12, .ref 201]) 3 rfl ?_
        refine l1_callV hQ mt_X12_readDirectory mt_X12_fails rfl rfl (o := 201) (ci := 11) (As := [.int 12, .int v3]) (rest := []) rfl rfl rfl rfl rfl rfl (st1 := fun x3 => [.int x3]) (fun _ => rfl) (ok_X12_fails hQ c2 12 v3) (fun x3 c4 => ?_)
        refine l1_many mt_X12_readDirectory (pc' := bif am_cc .eq x3 0 then 150 else 146) (L' := [some (.ref 201), some (.int v1), some (.int v2), some (.int v3), some (.int v4)]) (st' := []) 1 rfl ?_
        refine l1_bif rfl ?_ ?_
        · refine l1_many mt_X12_readDirectory (pc' := 151) (L' := [some (.ref 201), some (.int v1), some (.int v2), some (.int v3), some (.int v4)]) (st' := [.int 0]) 1 rfl ?_
          exact l1_ret mt_X12_readDirectory rfl rfl rfl
        · refine l1_many mt_X12_readDirectory (pc' := 151) (L' := [some (.ref 201), some (.int v1), some (.int v2), some (.int v3), some (.int v4)]) (st' := [.int 1]) 2 rfl ?_
          exact l1_ret mt_X12_readDirectory rfl rfl rfl
    · refine l1_many mt_X12_readDirectory (pc' := 68) (L' := [some (.ref 201), some (.int v1), some (.int v2), some (.int v3), some (.int v4)]) (st' := [.int v1, .int v3, .ref 201]) 3 rfl ?_
      refine l1_callV hQ mt_X12_readDirectory mt_X12_readEntryHead rfl rfl (o := 201) (ci := 11) (As := [.int v3, .int v1]) (rest := []) rfl rfl rfl rfl rfl rfl (st1 := fun x5 => [.int x5]) (fun _ => rfl) (ok_X12_readEntryHead hQ N c2 v3 v1) (fun x5 c6 => ?_)
      refine l1_many mt_X12_readDirectory (pc' := bif am_cc .eq x5 0 then 91 else 74) (L' := [some (.ref 201), some (.int v1), some (.int v2), some (.int v3), some (.int v4)]) (st' := []) 1 rfl ?_
      refine l1_bif rfl ?_ ?_
      · refine l1_many mt_X12_readDirectory (pc' := 92) (L' := [some (.ref 201), some (.int v1), some (.int v2), some (.int v3), some (.int v4)]) (st' := [.int 0]) 1 rfl ?_
        exact l1_ret mt_X12_readDirectory rfl rfl rfl
      · refine l1_many mt_X12_readDirectory (pc' := 77) (L' := [some (.ref 201), some (.int v1), some (.int v2), some (.int v3), some (.int v4)]) (st' := [.int v2, .int v3, .ref 201]) 3 rfl ?_
        refine l1_callV hQ mt_X12_readDirectory mt_X12_readLocal rfl rfl (o := 201) (ci := 11) (As := [.int v3, .int v2]) (rest := []) rfl rfl rfl rfl rfl rfl (st1 := fun x7 => [.int x7]) (fun _ => rfl) (ok_X12_readLocal hQ N c6 v3 v2) (fun x7 c8 => ?_)
        refine l1_many mt_X12_readDirectory (pc' := bif am_cc .eq x7 0 then 91 else 83) (L' := [some (.ref 201), some (.int v1), some (.int v2), some (.int v3), some (.int v4)]) (st' := []) 1 rfl ?_
        refine l1_bif rfl ?_ ?_
        · refine l1_many mt_X12_readDirectory (pc' := 92) (L' := [some (.ref 201), some (.int v1), some (.int v2), some (.int v3), some (.int v4)]) (st' := [.int 0]) 1 rfl ?_
          exact l1_ret mt_X12_readDirectory rfl rfl rfl
        · refine l1_many mt_X12_readDirectory (pc' := 85) (L' := [some (.ref 201), some (.int v1), some (.int v2), some (.int v3), some (.int v4)]) (st' := [.int v3, .ref 201]) 2 rfl ?_
          refine l1_callV hQ mt_X12_readDirectory mt_X12_comes rfl rfl (o := 201) (ci := 11) (As := [.int v3]) (rest := []) rfl rfl rfl rfl rfl rfl (st1 := fun x9 => [.int x9]) (fun _ => rfl) (ok_X12_comes hQ N c8 v3) (fun x9 c10 => ?_)
          refine l1_many mt_X12_readDirectory (pc' := bif am_cc .ne x9 0 then 93 else 91) (L' := [some (.ref 201), some (.int v1), some (.int v2), some (.int v3), some (.int v4)]) (st' := []) 1 rfl ?_
          refine l1_bin rfl ?_ ?_
          · refine l1_many mt_X12_readDirectory (pc' := 92) (L' := [some (.ref 201), some (.int v1), some (.int v2), some (.int v3), some (.int v4)]) (st' := [.int 0]) 1 rfl ?_
            exact l1_ret mt_X12_readDirectory rfl rfl rfl
          · refine l1_many mt_X12_readDirectory (pc' := 101) (L' := [some (.ref 201), some (.int v1), some (.int v2), some (.int v3), some (.int v4)]) (st' := [.int (v3 + 28), .ref 201, .int 46, .int v3]) 6 rfl ?_
            refine l1_callV hQ mt_X12_readDirectory mt_X12_twoAt rfl rfl (o := 201) (ci := 11) (As := [.int (v3 + 28)]) (rest := [.int 46, .int v3]) rfl rfl rfl rfl rfl rfl (st1 := fun x11 => [.int x11, .int 46, .int v3]) (fun _ => rfl) (ok_X12_twoAt hQ c10 (v3 + 28)) (fun x11 c12 => ?_)
            refine l1_many mt_X12_readDirectory (pc' := 110) (L' := [some (.ref 201), some (.int v1), some (.int v2), some (.int v3), some (.int v4)]) (st' := [.int (v3 + 30), .ref 201, .int (46 + x11), .int v3]) 5 rfl ?_
            refine l1_callV hQ mt_X12_readDirectory mt_X12_twoAt rfl rfl (o := 201) (ci := 11) (As := [.int (v3 + 30)]) (rest := [.int (46 + x11), .int v3]) rfl rfl rfl rfl rfl rfl (st1 := fun x13 => [.int x13, .int (46 + x11), .int v3]) (fun _ => rfl) (ok_X12_twoAt hQ c12 (v3 + 30)) (fun x13 c14 => ?_)
            refine l1_many mt_X12_readDirectory (pc' := 119) (L' := [some (.ref 201), some (.int v1), some (.int v2), some (.int v3), some (.int v4)]) (st' := [.int (v3 + 32), .ref 201, .int ((46 + x11) + x13), .int v3]) 5 rfl ?_
            refine l1_callV hQ mt_X12_readDirectory mt_X12_twoAt rfl rfl (o := 201) (ci := 11) (As := [.int (v3 + 32)]) (rest := [.int ((46 + x11) + x13), .int v3]) rfl rfl rfl rfl rfl rfl (st1 := fun x15 => [.int x15, .int ((46 + x11) + x13), .int v3]) (fun _ => rfl) (ok_X12_twoAt hQ c14 (v3 + 32)) (fun x15 c16 => ?_)
            refine l1_many mt_X12_readDirectory (pc' := 52) (L' := [some (.ref 201), some (.int v1), some (.int v2), some (.int (v3 + (((46 + x11) + x13) + x15))), some (.int (v4 + 1))]) (st' := []) 5 rfl ?_
            exact ih c16 v1 v2 (v3 + (((46 + x11) + x13) + x15)) (v4 + 1)
set_option maxRecDepth 100000 in
theorem en_X12_readDirectory {Q : hS → am_H → Prop} (hQ : l1_em km Q) (N : Nat) (c : hS) : l1_G (wN wI) Q am_i_X12_readDirectory 0 [some (.ref 201)] [] c (f_X12_readDirectory N c) := by
  rw [f_X12_readDirectory]
  refine l1_many mt_X12_readDirectory (pc' := 1) (L' := [some (.ref 201)]) (st' := [.ref 201]) 1 rfl ?_
  refine l1_getI hQ mt_X12_readDirectory rfl (o := 201) (ci := 11) (k := 4) (a := 0) (b := 0) rfl rfl rfl rfl rfl ?_
  refine l1_many mt_X12_readDirectory (pc' := bif am_cc .ge (c.1 201 4) 22 then 19 else 9) (L' := [some (.ref 201)]) (st' := []) 2 rfl ?_
  refine l1_bif rfl ?_ ?_
  · refine l1_many mt_X12_readDirectory (pc' := 20) (L' := [some (.ref 201)]) (st' := [.ref 201]) 1 rfl ?_
    refine l1_getI hQ mt_X12_readDirectory rfl (o := 201) (ci := 11) (k := 4) (a := 0) (b := 0) rfl rfl rfl rfl rfl ?_
    refine l1_many mt_X12_readDirectory (pc' := 29) (L' := [some (.ref 201), some (.int ((c.1 201 4) - 22))]) (st' := [.int ((c.1 201 4) - 22), .ref 201]) 5 rfl ?_
    refine l1_callV hQ mt_X12_readDirectory mt_X12_readEnd rfl rfl (o := 201) (ci := 11) (As := [.int ((c.1 201 4) - 22)]) (rest := []) rfl rfl rfl rfl rfl rfl (st1 := fun x1 => [.int x1]) (fun _ => rfl) (ok_X12_readEnd hQ N c ((c.1 201 4) - 22)) (fun x1 c2 => ?_)
    refine l1_many mt_X12_readDirectory (pc' := bif am_cc .ne x1 0 then 37 else 35) (L' := [some (.ref 201), some (.int ((c.1 201 4) - 22))]) (st' := []) 1 rfl ?_
    refine l1_bin rfl ?_ ?_
    · refine l1_many mt_X12_readDirectory (pc' := 36) (L' := [some (.ref 201), some (.int ((c.1 201 4) - 22))]) (st' := [.int 0]) 1 rfl ?_
      exact l1_ret mt_X12_readDirectory rfl rfl rfl
    · refine l1_many mt_X12_readDirectory (pc' := 42) (L' := [some (.ref 201), some (.int ((c.1 201 4) - 22))]) (st' := [.int (((c.1 201 4) - 22) + 16), .ref 201]) 4 rfl ?_
      refine l1_callV hQ mt_X12_readDirectory mt_X12_fourAt rfl rfl (o := 201) (ci := 11) (As := [.int (((c.1 201 4) - 22) + 16)]) (rest := []) rfl rfl rfl rfl rfl rfl (st1 := fun x3 => [.long x3]) (fun _ => rfl) (ok_X12_fourAt hQ c2 (((c.1 201 4) - 22) + 16)) (fun x3 c4 => ?_)
      refine l1_many mt_X12_readDirectory (pc' := 52) (L' := [some (.ref 201), some (.int ((c.1 201 4) - 22)), some (.int x3.toInt32), some (.int x3.toInt32), some (.int 0)]) (st' := []) 6 rfl ?_
      exact ok_X12_readDirectory_52 hQ N N c4 ((c.1 201 4) - 22) x3.toInt32 x3.toInt32 0
  · refine l1_many mt_X12_readDirectory (pc' := 12) (L' := [some (.ref 201)]) (st' := [.ref 201, .int 1, .ref 201]) 3 rfl ?_
    refine l1_getI hQ mt_X12_readDirectory rfl (o := 201) (ci := 11) (k := 4) (a := 0) (b := 0) rfl rfl rfl rfl rfl ?_
    refine l1_callV hQ mt_X12_readDirectory mt_X12_fails rfl rfl (o := 201) (ci := 11) (As := [.int 1, .int (c.1 201 4)]) (rest := []) rfl rfl rfl rfl rfl rfl (st1 := fun x5 => [.int x5]) (fun _ => rfl) (ok_X12_fails hQ c 1 (c.1 201 4)) (fun x5 c6 => ?_)
    refine l1_ck (fun hz => ?_)
    exact l1_retZ mt_X12_readDirectory rfl rfl rfl hz
theorem ok_X12_readDirectory {Q : hS → am_H → Prop} (hQ : l1_em km Q) (N : Nat) (c : hS) : l1_T wI Q am_i_X12_readDirectory [.ref 201] c (f_X12_readDirectory N c) := l1_of (en_X12_readDirectory hQ N c) ⟨rfl, trivial⟩
set_option maxRecDepth 100000 in
theorem ok_X12_read_91 {Q : hS → am_H → Prop} (hQ : l1_em km Q) (N : Nat) (p1 : Int32) : ∀ n : Nat, ∀ (c : hS) (v3 : Int32), l1_G (wN wI) Q am_i_X12_read 91 [some (.ref 201), none, none, some (.int v3)] [] c (f_X12_read_91 N p1 n c v3) := by
  intro n
  induction n with
  | zero => intro c v3; exact l1_none
  | succ n ih =>
    intro c v3
    rw [f_X12_read_91]
    refine l1_many mt_X12_read (pc' := 93) (L' := [some (.ref 201), none, none, some (.int v3)]) (st' := [.ref 201, .int v3]) 2 rfl ?_
    refine l1_getI hQ mt_X12_read rfl (o := 201) (ci := 11) (k := 7) (a := 0) (b := 0) rfl rfl rfl rfl rfl ?_
    refine l1_many mt_X12_read (pc' := bif am_cc .ge v3 (c.1 201 7) then 114 else 99) (L' := [some (.ref 201), none, none, some (.int v3)]) (st' := []) 1 rfl ?_
    refine l1_bif rfl ?_ ?_
    · refine l1_many mt_X12_read (pc' := 115) (L' := [some (.ref 201), none, none, some (.int v3)]) (st' := [.ref 201]) 1 rfl ?_
      refine l1_getI hQ mt_X12_read rfl (o := 201) (ci := 11) (k := 7) (a := 0) (b := 0) rfl rfl rfl rfl rfl ?_
      exact l1_ret mt_X12_read rfl rfl rfl
    · refine l1_many mt_X12_read (pc' := 105) (L' := [some (.ref 201), none, none, some (.int v3)]) (st' := [.int v3, .int (17 + v3), .ref 201]) 5 rfl ?_
      refine l1_callV hQ mt_X12_read mt_X12_move rfl rfl (o := 201) (ci := 11) (As := [.int (17 + v3), .int v3]) (rest := []) rfl rfl rfl rfl rfl rfl (st1 := fun _ => []) (fun _ => rfl) (ok_X12_move hQ N c (17 + v3) v3) (fun _ c1 => ?_)
      refine l1_many mt_X12_read (pc' := 91) (L' := [some (.ref 201), none, none, some (.int (v3 + 1))]) (st' := []) 2 rfl ?_
      exact ih c1 (v3 + 1)
set_option maxRecDepth 100000 in
theorem ok_X12_read_74 {Q : hS → am_H → Prop} (hQ : l1_em km Q) (N : Nat) (p1 : Int32) : ∀ (c : hS) (w0 : Int32), l1_G (wN wI) Q am_i_X12_read 74 [some (.ref 201)] [.int w0] c (f_X12_read_74 N p1 c w0) := by
  intro c w0
  rw [f_X12_read_74]
  refine l1_many mt_X12_read (pc' := bif am_cc .ne w0 0 then 81 else 79) (L' := [some (.ref 201), none, some (.int w0)]) (st' := []) 3 rfl ?_
  refine l1_bin rfl ?_ ?_
  · refine l1_many mt_X12_read (pc' := 80) (L' := [some (.ref 201), none, some (.int w0)]) (st' := [.int (-1)]) 1 rfl ?_
    exact l1_ret mt_X12_read rfl rfl rfl
  · refine l1_many mt_X12_read (pc' := 83) (L' := [some (.ref 201), none, some (.int w0)]) (st' := [.ref 201, .ref 201]) 2 rfl ?_
    refine l1_getI hQ mt_X12_read rfl (o := 201) (ci := 11) (k := 8) (a := 0) (b := 0) rfl rfl rfl rfl rfl ?_
    refine l1_putI hQ mt_X12_read rfl (o := 201) (ci := 11) (k := 7) (a := 0) rfl rfl rfl rfl rfl rfl (fun c1 => ?_)
    refine l1_many mt_X12_read (pc' := 91) (L' := [some (.ref 201), none, some (.int w0), some (.int 0)]) (st' := []) 2 rfl ?_
    refine l1_weak (m := [true, false, false, true]) (L' := [some (.ref 201), none, none, some (.int 0)]) rfl ?_
    exact ok_X12_read_91 hQ N p1 N c1 0
set_option maxRecDepth 100000 in
theorem ok_X12_read_23 {Q : hS → am_H → Prop} (hQ : l1_em km Q) (N : Nat) (p1 : Int32) : ∀ (c : hS) (w0 : Int32), l1_G (wN wI) Q am_i_X12_read 23 [some (.ref 201), some (.int p1)] [.int w0, .ref 201] c (f_X12_read_23 N p1 c w0) := by
  intro c w0
  rw [f_X12_read_23]
  refine l1_many mt_X12_read (pc' := 24) (L' := [some (.ref 201), some (.int p1)]) (st' := [.int 1, .int w0, .ref 201]) 1 rfl ?_
  refine l1_callV hQ mt_X12_read mt_X12_refuses rfl rfl (o := 201) (ci := 11) (As := [.int w0, .int 1]) (rest := []) rfl rfl rfl rfl rfl rfl (st1 := fun x1 => [.int x1]) (fun _ => rfl) (ok_X12_refuses hQ c w0 1) (fun x1 c2 => ?_)
  refine l1_many mt_X12_read (pc' := bif am_cc .eq x1 0 then 32 else 30) (L' := [some (.ref 201), some (.int p1)]) (st' := []) 1 rfl ?_
  refine l1_bif rfl ?_ ?_
  · refine l1_many mt_X12_read (pc' := 34) (L' := [some (.ref 201), some (.int p1)]) (st' := [.int 0, .ref 201]) 2 rfl ?_
    refine l1_putI hQ mt_X12_read rfl (o := 201) (ci := 11) (k := 5) (a := 0) rfl rfl rfl rfl rfl rfl (fun c3 => ?_)
    refine l1_many mt_X12_read (pc' := 39) (L' := [some (.ref 201), some (.int p1)]) (st' := [.int (-1), .ref 201]) 2 rfl ?_
    refine l1_putI hQ mt_X12_read rfl (o := 201) (ci := 11) (k := 6) (a := 0) rfl rfl rfl rfl rfl rfl (fun c4 => ?_)
    refine l1_many mt_X12_read (pc' := 44) (L' := [some (.ref 201), some (.int p1)]) (st' := [.int 0, .ref 201]) 2 rfl ?_
    refine l1_putI hQ mt_X12_read rfl (o := 201) (ci := 11) (k := 8) (a := 0) rfl rfl rfl rfl rfl rfl (fun c5 => ?_)
    refine l1_many mt_X12_read (pc' := bif am_cc .ne p1 0 then 58 else 51) (L' := [some (.ref 201), some (.int p1)]) (st' := []) 2 rfl ?_
    refine l1_bin rfl ?_ ?_
    · refine l1_many mt_X12_read (pc' := 52) (L' := [some (.ref 201), some (.int p1)]) (st' := [.ref 201]) 1 rfl ?_
      refine l1_callV hQ mt_X12_read mt_X12_readBlocks rfl rfl (o := 201) (ci := 11) (As := []) (rest := []) rfl rfl rfl rfl rfl rfl (st1 := fun x10 => [.int x10]) (fun _ => rfl) (ok_X12_readBlocks hQ N c5) (fun x10 c11 => ?_)
      refine l1_many mt_X12_read (pc' := 74) (L' := [some (.ref 201), some (.int p1)]) (st' := [.int x10]) 1 rfl ?_
      refine l1_weak (m := [true, false, false, false]) (L' := [some (.ref 201)]) rfl ?_
      exact ok_X12_read_74 hQ N p1 c11 x10
    · refine l1_many mt_X12_read (pc' := bif am_cc .ne p1 1 then 70 else 63) (L' := [some (.ref 201), some (.int p1)]) (st' := []) 3 rfl ?_
      refine l1_bin rfl ?_ ?_
      · refine l1_many mt_X12_read (pc' := 64) (L' := [some (.ref 201), some (.int p1)]) (st' := [.ref 201]) 1 rfl ?_
        refine l1_callV hQ mt_X12_read mt_X12_readDigits rfl rfl (o := 201) (ci := 11) (As := []) (rest := []) rfl rfl rfl rfl rfl rfl (st1 := fun x8 => [.int x8]) (fun _ => rfl) (ok_X12_readDigits hQ N c5) (fun x8 c9 => ?_)
        refine l1_many mt_X12_read (pc' := 74) (L' := [some (.ref 201), some (.int p1)]) (st' := [.int x8]) 1 rfl ?_
        refine l1_weak (m := [true, false, false, false]) (L' := [some (.ref 201)]) rfl ?_
        exact ok_X12_read_74 hQ N p1 c9 x8
      · refine l1_many mt_X12_read (pc' := 71) (L' := [some (.ref 201), some (.int p1)]) (st' := [.ref 201]) 1 rfl ?_
        refine l1_callV hQ mt_X12_read mt_X12_readDirectory rfl rfl (o := 201) (ci := 11) (As := []) (rest := []) rfl rfl rfl rfl rfl rfl (st1 := fun x6 => [.int x6]) (fun _ => rfl) (ok_X12_readDirectory hQ N c5) (fun x6 c7 => ?_)
        refine l1_weak (m := [true, false, false, false]) (L' := [some (.ref 201)]) rfl ?_
        exact ok_X12_read_74 hQ N p1 c7 x6
  · refine l1_many mt_X12_read (pc' := 31) (L' := [some (.ref 201), some (.int p1)]) (st' := [.int 0]) 1 rfl ?_
    exact l1_ret mt_X12_read rfl rfl rfl
set_option maxRecDepth 100000 in
theorem en_X12_read {Q : hS → am_H → Prop} (hQ : l1_em km Q) (N : Nat) (c : hS) (p1 : Int32) : l1_G (wN wI) Q am_i_X12_read 0 [some (.ref 201), some (.int p1)] [] c (f_X12_read N c p1) := by
  rw [f_X12_read]
  refine l1_many mt_X12_read (pc' := 2) (L' := [some (.ref 201), some (.int p1)]) (st' := [.int 0, .ref 201]) 2 rfl ?_
  refine l1_putI hQ mt_X12_read rfl (o := 201) (ci := 11) (k := 0) (a := 0) rfl rfl rfl rfl rfl rfl (fun c1 => ?_)
  refine l1_many mt_X12_read (pc' := 12) (L' := [some (.ref 201), some (.int p1)]) (st' := [.long 2, .long 0, .long p1.toInt64, .ref 201]) 5 rfl ?_
  refine l1_callS mt_X12_read mt_X12_in rfl rfl (As := [.long p1.toInt64, .long 0, .long 2]) (rest := [.ref 201]) rfl rfl rfl (st1 := fun x2 => [.int x2, .ref 201]) (fun _ => rfl) (ok_X12_in hQ c1 p1.toInt64 0 2) (fun x2 c3 => ?_)
  refine l1_many mt_X12_read (pc' := bif am_cc .ne x2 0 then 22 else 18) (L' := [some (.ref 201), some (.int p1)]) (st' := [.ref 201]) 1 rfl ?_
  refine l1_bin rfl ?_ ?_
  · refine l1_many mt_X12_read (pc' := 23) (L' := [some (.ref 201), some (.int p1)]) (st' := [.int 1, .ref 201]) 2 rfl ?_
    exact ok_X12_read_23 hQ N p1 c3 1
  · refine l1_many mt_X12_read (pc' := 23) (L' := [some (.ref 201), some (.int p1)]) (st' := [.int 0, .ref 201]) 1 rfl ?_
    exact ok_X12_read_23 hQ N p1 c3 0
theorem ok_X12_read {Q : hS → am_H → Prop} (hQ : l1_em km Q) (N : Nat) (c : hS) (p1 : Int32) : l1_T wI Q am_i_X12_read [.ref 201, .int p1] c (f_X12_read N c p1) := l1_of (en_X12_read hQ N c p1) ⟨rfl, rfl, trivial⟩
set_option maxRecDepth 100000 in
theorem ok_X12_unpack_42 {Q : hS → am_H → Prop} (hQ : l1_em km Q) (N : Nat) : ∀ n : Nat, ∀ (c : hS) (v1 : Int32), l1_G (wN wI) Q am_i_X12_unpack 42 [some (.ref 201), some (.int v1)] [] c (f_X12_unpack_42 N n c v1) := by
  intro n
  induction n with
  | zero => intro c v1; exact l1_none
  | succ n ih =>
    intro c v1
    rw [f_X12_unpack_42]
    refine l1_many mt_X12_unpack (pc' := 44) (L' := [some (.ref 201), some (.int v1)]) (st' := [.ref 201, .int v1]) 2 rfl ?_
    refine l1_getI hQ mt_X12_unpack rfl (o := 201) (ci := 11) (k := 23) (a := 0) (b := 0) rfl rfl rfl rfl rfl ?_
    refine l1_many mt_X12_unpack (pc' := bif am_cc .ge v1 (c.1 201 23) then 68 else 50) (L' := [some (.ref 201), some (.int v1)]) (st' := []) 1 rfl ?_
    refine l1_bif rfl ?_ ?_
    · refine l1_many mt_X12_unpack (pc' := 69) (L' := [some (.ref 201), some (.int v1)]) (st' := [.ref 201]) 1 rfl ?_
      refine l1_getI hQ mt_X12_unpack rfl (o := 201) (ci := 11) (k := 2) (a := 0) (b := 0) rfl rfl rfl rfl rfl ?_
      exact l1_ret mt_X12_unpack rfl rfl rfl
    · refine l1_many mt_X12_unpack (pc' := 51) (L' := [some (.ref 201), some (.int v1)]) (st' := [.ref 201]) 1 rfl ?_
      refine l1_getR hQ mt_X12_unpack rfl (o := 201) (ci := 11) (k := 1) (a := 0) (b := 0) rfl rfl rfl rfl rfl (q := 202) rfl ?_
      refine l1_many mt_X12_unpack (pc' := 56) (L' := [some (.ref 201), some (.int v1)]) (st' := [.ref 201, .int v1, .ref 202]) 2 rfl ?_
      refine l1_getR hQ mt_X12_unpack rfl (o := 201) (ci := 11) (k := 22) (a := 0) (b := 0) rfl rfl rfl rfl rfl (q := 211) rfl ?_
      refine l1_many mt_X12_unpack (pc' := 60) (L' := [some (.ref 201), some (.int v1)]) (st' := [.int v1, .ref 211, .int v1, .ref 202]) 1 rfl ?_
      refine l1_ck (fun hx => ?_)
      refine l1_ald hQ mt_X12_unpack rfl (o := 211) rfl hx ?_
      refine l1_ck (fun hx => ?_)
      refine l1_ast hQ mt_X12_unpack rfl (o := 202) rfl hx (fun c1 => ?_)
      refine l1_many mt_X12_unpack (pc' := 42) (L' := [some (.ref 201), some (.int (v1 + 1))]) (st' := []) 2 rfl ?_
      exact ih c1 (v1 + 1)
set_option maxRecDepth 100000 in
theorem en_X12_unpack {Q : hS → am_H → Prop} (hQ : l1_em km Q) (N : Nat) (c : hS) : l1_G (wN wI) Q am_i_X12_unpack 0 [some (.ref 201)] [] c (f_X12_unpack N c) := by
  rw [f_X12_unpack]
  refine l1_many mt_X12_unpack (pc' := 2) (L' := [some (.ref 201)]) (st' := [.int 0, .ref 201]) 2 rfl ?_
  refine l1_putI hQ mt_X12_unpack rfl (o := 201) (ci := 11) (k := 0) (a := 0) rfl rfl rfl rfl rfl rfl (fun c1 => ?_)
  refine l1_many mt_X12_unpack (pc' := 7) (L' := [some (.ref 201)]) (st' := [.int 0, .ref 201]) 2 rfl ?_
  refine l1_putI hQ mt_X12_unpack rfl (o := 201) (ci := 11) (k := 5) (a := 0) rfl rfl rfl rfl rfl rfl (fun c2 => ?_)
  refine l1_many mt_X12_unpack (pc' := 12) (L' := [some (.ref 201)]) (st' := [.int (-1), .ref 201]) 2 rfl ?_
  refine l1_putI hQ mt_X12_unpack rfl (o := 201) (ci := 11) (k := 6) (a := 0) rfl rfl rfl rfl rfl rfl (fun c3 => ?_)
  refine l1_many mt_X12_unpack (pc' := 18) (L' := [some (.ref 201)]) (st' := [.ref 201, .int 0, .ref 201]) 3 rfl ?_
  refine l1_getI hQ mt_X12_unpack rfl (o := 201) (ci := 11) (k := 4) (a := 0) (b := 0) rfl rfl rfl rfl rfl ?_
  refine l1_many mt_X12_unpack (pc' := 24) (L' := [some (.ref 201)]) (st' := [.int 512, .int (c3.1 201 4), .int 0, .ref 201]) 1 rfl ?_
  refine l1_callV hQ mt_X12_unpack mt_X12_unpackFrom rfl rfl (o := 201) (ci := 11) (As := [.int 0, .int (c3.1 201 4), .int 512]) (rest := []) rfl rfl rfl rfl rfl rfl (st1 := fun x4 => [.int x4]) (fun _ => rfl) (ok_X12_unpackFrom hQ N c3 0 (c3.1 201 4) 512) (fun x4 c5 => ?_)
  refine l1_many mt_X12_unpack (pc' := bif am_cc .ne x4 0 then 32 else 30) (L' := [some (.ref 201)]) (st' := []) 1 rfl ?_
  refine l1_bin rfl ?_ ?_
  · refine l1_many mt_X12_unpack (pc' := 31) (L' := [some (.ref 201)]) (st' := [.int (-1)]) 1 rfl ?_
    exact l1_ret mt_X12_unpack rfl rfl rfl
  · refine l1_many mt_X12_unpack (pc' := 34) (L' := [some (.ref 201)]) (st' := [.ref 201, .ref 201]) 2 rfl ?_
    refine l1_getI hQ mt_X12_unpack rfl (o := 201) (ci := 11) (k := 23) (a := 0) (b := 0) rfl rfl rfl rfl rfl ?_
    refine l1_putI hQ mt_X12_unpack rfl (o := 201) (ci := 11) (k := 2) (a := 0) rfl rfl rfl rfl rfl rfl (fun c6 => ?_)
    refine l1_many mt_X12_unpack (pc' := 42) (L' := [some (.ref 201), some (.int 0)]) (st' := []) 2 rfl ?_
    exact ok_X12_unpack_42 hQ N N c6 0
theorem ok_X12_unpack {Q : hS → am_H → Prop} (hQ : l1_em km Q) (N : Nat) (c : hS) : l1_T wI Q am_i_X12_unpack [.ref 201] c (f_X12_unpack N c) := l1_of (en_X12_unpack hQ N c) ⟨rfl, trivial⟩
set_option maxRecDepth 100000 in
theorem ok_X12_check_9 {Q : hS → am_H → Prop} (hQ : l1_em km Q) (N : Nat) : ∀ n : Nat, ∀ (c : hS) (v1 : Int32) (v2 : Int32), l1_G (wN wI) Q am_i_X12_check 9 [some (.ref 201), some (.int v1), some (.int v2)] [] c (f_X12_check_9 N n c v1 v2) := by
  intro n
  induction n with
  | zero => intro c v1 v2; exact l1_none
  | succ n ih =>
    intro c v1 v2
    rw [f_X12_check_9]
    refine l1_many mt_X12_check (pc' := 11) (L' := [some (.ref 201), some (.int v1), some (.int v2)]) (st' := [.ref 201, .int v2]) 2 rfl ?_
    refine l1_getI hQ mt_X12_check rfl (o := 201) (ci := 11) (k := 2) (a := 0) (b := 0) rfl rfl rfl rfl rfl ?_
    refine l1_many mt_X12_check (pc' := bif am_cc .ge v2 (c.1 201 2) then 34 else 17) (L' := [some (.ref 201), some (.int v1), some (.int v2)]) (st' := []) 1 rfl ?_
    refine l1_bif rfl ?_ ?_
    · refine l1_many mt_X12_check (pc' := 37) (L' := [some (.ref 201), some (.int v1), some (.int v2)]) (st' := [.int (v1 ^^^ (-1))]) 3 rfl ?_
      exact l1_ret mt_X12_check rfl rfl rfl
    · refine l1_many mt_X12_check (pc' := 19) (L' := [some (.ref 201), some (.int v1), some (.int v2)]) (st' := [.ref 201, .int v1]) 2 rfl ?_
      refine l1_getR hQ mt_X12_check rfl (o := 201) (ci := 11) (k := 1) (a := 0) (b := 0) rfl rfl rfl rfl rfl (q := 202) rfl ?_
      refine l1_many mt_X12_check (pc' := 23) (L' := [some (.ref 201), some (.int v1), some (.int v2)]) (st' := [.int v2, .ref 202, .int v1]) 1 rfl ?_
      refine l1_ck (fun hx => ?_)
      refine l1_ald hQ mt_X12_check rfl (o := 202) rfl hx ?_
      refine l1_callS mt_X12_check mt_X12_checkMore rfl rfl (As := [.int v1, .int (c.1 202 v2.toNatClampNeg)]) (rest := []) rfl rfl rfl (st1 := fun x1 => [.int x1]) (fun _ => rfl) (ok_X12_checkMore hQ N c v1 (c.1 202 v2.toNatClampNeg)) (fun x1 c2 => ?_)
      refine l1_many mt_X12_check (pc' := 9) (L' := [some (.ref 201), some (.int x1), some (.int (v2 + 1))]) (st' := []) 3 rfl ?_
      exact ih c2 x1 (v2 + 1)
set_option maxRecDepth 100000 in
theorem en_X12_check {Q : hS → am_H → Prop} (hQ : l1_em km Q) (N : Nat) (c : hS) : l1_G (wN wI) Q am_i_X12_check 0 [some (.ref 201)] [] c (f_X12_check N c) := by
  rw [f_X12_check]
  refine l1_many mt_X12_check (pc' := 2) (L' := [some (.ref 201)]) (st' := [.int 0, .ref 201]) 2 rfl ?_
  refine l1_putI hQ mt_X12_check rfl (o := 201) (ci := 11) (k := 0) (a := 0) rfl rfl rfl rfl rfl rfl (fun c1 => ?_)
  refine l1_many mt_X12_check (pc' := 9) (L' := [some (.ref 201), some (.int (-1)), some (.int 0)]) (st' := []) 4 rfl ?_
  exact ok_X12_check_9 hQ N N c1 (-1) 0
theorem ok_X12_check {Q : hS → am_H → Prop} (hQ : l1_em km Q) (N : Nat) (c : hS) : l1_T wI Q am_i_X12_check [.ref 201] c (f_X12_check N c) := l1_of (en_X12_check hQ N c) ⟨rfl, trivial⟩
set_option maxRecDepth 100000 in
theorem en_X12_putBit {Q : hS → am_H → Prop} (hQ : l1_em km Q) (c : hS) (p1 : Int32) : l1_G (wN wV) Q am_i_X12_putBit 0 [some (.ref 201), some (.int p1)] [] c (f_X12_putBit c p1) := by
  rw [f_X12_putBit]
  refine l1_many mt_X12_putBit (pc' := 2) (L' := [some (.ref 201), some (.int p1)]) (st' := [.ref 201, .ref 201]) 2 rfl ?_
  refine l1_getI hQ mt_X12_putBit rfl (o := 201) (ci := 11) (k := 33) (a := 0) (b := 0) rfl rfl rfl rfl rfl ?_
  refine l1_many mt_X12_putBit (pc' := 7) (L' := [some (.ref 201), some (.int p1)]) (st' := [.ref 201, .int p1, .int (c.1 201 33), .ref 201]) 2 rfl ?_
  refine l1_getI hQ mt_X12_putBit rfl (o := 201) (ci := 11) (k := 34) (a := 0) (b := 0) rfl rfl rfl rfl rfl ?_
  refine l1_many mt_X12_putBit (pc' := 12) (L' := [some (.ref 201), some (.int p1)]) (st' := [.int ((c.1 201 33) ||| (j_shl p1 (c.1 201 34))), .ref 201]) 2 rfl ?_
  refine l1_putI hQ mt_X12_putBit rfl (o := 201) (ci := 11) (k := 33) (a := 0) rfl rfl rfl rfl rfl rfl (fun c1 => ?_)
  refine l1_many mt_X12_putBit (pc' := 17) (L' := [some (.ref 201), some (.int p1)]) (st' := [.ref 201, .ref 201]) 2 rfl ?_
  refine l1_getI hQ mt_X12_putBit rfl (o := 201) (ci := 11) (k := 34) (a := 0) (b := 0) rfl rfl rfl rfl rfl ?_
  refine l1_many mt_X12_putBit (pc' := 22) (L' := [some (.ref 201), some (.int p1)]) (st' := [.int ((c1.1 201 34) + 1), .ref 201]) 2 rfl ?_
  refine l1_putI hQ mt_X12_putBit rfl (o := 201) (ci := 11) (k := 34) (a := 0) rfl rfl rfl rfl rfl rfl (fun c2 => ?_)
  refine l1_many mt_X12_putBit (pc' := 26) (L' := [some (.ref 201), some (.int p1)]) (st' := [.ref 201]) 1 rfl ?_
  refine l1_getI hQ mt_X12_putBit rfl (o := 201) (ci := 11) (k := 34) (a := 0) (b := 0) rfl rfl rfl rfl rfl ?_
  refine l1_many mt_X12_putBit (pc' := bif am_cc .ne (c2.1 201 34) 8 then 52 else 34) (L' := [some (.ref 201), some (.int p1)]) (st' := []) 2 rfl ?_
  refine l1_bin rfl ?_ ?_
  · refine l1_many mt_X12_putBit (pc' := 36) (L' := [some (.ref 201), some (.int p1)]) (st' := [.ref 201, .ref 201]) 2 rfl ?_
    refine l1_getI hQ mt_X12_putBit rfl (o := 201) (ci := 11) (k := 33) (a := 0) (b := 0) rfl rfl rfl rfl rfl ?_
    refine l1_callV hQ mt_X12_putBit mt_X12_put rfl rfl (o := 201) (ci := 11) (As := [.int (c2.1 201 33)]) (rest := []) rfl rfl rfl rfl rfl rfl (st1 := fun _ => []) (fun _ => rfl) (ok_X12_put hQ c2 (c2.1 201 33)) (fun _ c3 => ?_)
    refine l1_many mt_X12_putBit (pc' := 44) (L' := [some (.ref 201), some (.int p1)]) (st' := [.int 0, .ref 201]) 2 rfl ?_
    refine l1_putI hQ mt_X12_putBit rfl (o := 201) (ci := 11) (k := 33) (a := 0) rfl rfl rfl rfl rfl rfl (fun c4 => ?_)
    refine l1_many mt_X12_putBit (pc' := 49) (L' := [some (.ref 201), some (.int p1)]) (st' := [.int 0, .ref 201]) 2 rfl ?_
    refine l1_putI hQ mt_X12_putBit rfl (o := 201) (ci := 11) (k := 34) (a := 0) rfl rfl rfl rfl rfl rfl (fun c5 => ?_)
    exact l1_ret mt_X12_putBit rfl rfl rfl
  · exact l1_ret mt_X12_putBit rfl rfl rfl
theorem ok_X12_putBit {Q : hS → am_H → Prop} (hQ : l1_em km Q) (c : hS) (p1 : Int32) : l1_T wV Q am_i_X12_putBit [.ref 201, .int p1] c (f_X12_putBit c p1) := l1_of (en_X12_putBit hQ c p1) ⟨rfl, rfl, trivial⟩
set_option maxRecDepth 100000 in
theorem ok_X12_putBits_2 {Q : hS → am_H → Prop} (hQ : l1_em km Q) (N : Nat) (p1 : Int32) (p2 : Int32) : ∀ n : Nat, ∀ (c : hS) (v3 : Int32), l1_G (wN wV) Q am_i_X12_putBits 2 [some (.ref 201), some (.int p1), some (.int p2), some (.int v3)] [] c (f_X12_putBits_2 N p1 p2 n c v3) := by
  intro n
  induction n with
  | zero => intro c v3; exact l1_none
  | succ n ih =>
    intro c v3
    rw [f_X12_putBits_2]
    refine l1_many mt_X12_putBits (pc' := bif am_cc .ge v3 p2 then 22 else 7) (L' := [some (.ref 201), some (.int p1), some (.int p2), some (.int v3)]) (st' := []) 3 rfl ?_
    refine l1_bif rfl ?_ ?_
    · exact l1_ret mt_X12_putBits rfl rfl rfl
    · refine l1_many mt_X12_putBits (pc' := 13) (L' := [some (.ref 201), some (.int p1), some (.int p2), some (.int v3)]) (st' := [.int ((j_shr p1 v3) &&& 1), .ref 201]) 6 rfl ?_
      refine l1_callV hQ mt_X12_putBits mt_X12_putBit rfl rfl (o := 201) (ci := 11) (As := [.int ((j_shr p1 v3) &&& 1)]) (rest := []) rfl rfl rfl rfl rfl rfl (st1 := fun _ => []) (fun _ => rfl) (ok_X12_putBit hQ c ((j_shr p1 v3) &&& 1)) (fun _ c1 => ?_)
      refine l1_many mt_X12_putBits (pc' := 2) (L' := [some (.ref 201), some (.int p1), some (.int p2), some (.int (v3 + 1))]) (st' := []) 2 rfl ?_
      exact ih c1 (v3 + 1)
set_option maxRecDepth 100000 in
theorem en_X12_putBits {Q : hS → am_H → Prop} (hQ : l1_em km Q) (N : Nat) (c : hS) (p1 : Int32) (p2 : Int32) : l1_G (wN wV) Q am_i_X12_putBits 0 [some (.ref 201), some (.int p1), some (.int p2)] [] c (f_X12_putBits N c p1 p2) := by
  rw [f_X12_putBits]
  refine l1_many mt_X12_putBits (pc' := 2) (L' := [some (.ref 201), some (.int p1), some (.int p2), some (.int 0)]) (st' := []) 2 rfl ?_
  exact ok_X12_putBits_2 hQ N p1 p2 N c 0
theorem ok_X12_putBits {Q : hS → am_H → Prop} (hQ : l1_em km Q) (N : Nat) (c : hS) (p1 : Int32) (p2 : Int32) : l1_T wV Q am_i_X12_putBits [.ref 201, .int p1, .int p2] c (f_X12_putBits N c p1 p2) := l1_of (en_X12_putBits hQ N c p1 p2) ⟨rfl, rfl, rfl, trivial⟩
set_option maxRecDepth 100000 in
theorem ok_X12_putCode_9 {Q : hS → am_H → Prop} (hQ : l1_em km Q) (N : Nat) (p1 : Int32) : ∀ n : Nat, ∀ (c : hS) (v2 : Int32), l1_G (wN wV) Q am_i_X12_putCode 9 [some (.ref 201), some (.int p1), some (.int v2)] [] c (f_X12_putCode_9 N p1 n c v2) := by
  intro n
  induction n with
  | zero => intro c v2; exact l1_none
  | succ n ih =>
    intro c v2
    rw [f_X12_putCode_9]
    refine l1_many mt_X12_putCode (pc' := bif am_cc .lt v2 0 then 33 else 13) (L' := [some (.ref 201), some (.int p1), some (.int v2)]) (st' := []) 2 rfl ?_
    refine l1_bif rfl ?_ ?_
    · exact l1_ret mt_X12_putCode rfl rfl rfl
    · refine l1_many mt_X12_putCode (pc' := 15) (L' := [some (.ref 201), some (.int p1), some (.int v2)]) (st' := [.ref 201, .ref 201]) 2 rfl ?_
      refine l1_getR hQ mt_X12_putCode rfl (o := 201) (ci := 11) (k := 28) (a := 0) (b := 0) rfl rfl rfl rfl rfl (q := 213) rfl ?_
      refine l1_many mt_X12_putCode (pc' := 19) (L' := [some (.ref 201), some (.int p1), some (.int v2)]) (st' := [.int p1, .ref 213, .ref 201]) 1 rfl ?_
      refine l1_ck (fun hx => ?_)
      refine l1_ald hQ mt_X12_putCode rfl (o := 213) rfl hx ?_
      refine l1_many mt_X12_putCode (pc' := 24) (L' := [some (.ref 201), some (.int p1), some (.int v2)]) (st' := [.int ((j_shr (c.1 213 p1.toNatClampNeg) v2) &&& 1), .ref 201]) 4 rfl ?_
      refine l1_callV hQ mt_X12_putCode mt_X12_putBit rfl rfl (o := 201) (ci := 11) (As := [.int ((j_shr (c.1 213 p1.toNatClampNeg) v2) &&& 1)]) (rest := []) rfl rfl rfl rfl rfl rfl (st1 := fun _ => []) (fun _ => rfl) (ok_X12_putBit hQ c ((j_shr (c.1 213 p1.toNatClampNeg) v2) &&& 1)) (fun _ c1 => ?_)
      refine l1_many mt_X12_putCode (pc' := 9) (L' := [some (.ref 201), some (.int p1), some (.int (v2 + (-1)))]) (st' := []) 2 rfl ?_
      exact ih c1 (v2 + (-1))
set_option maxRecDepth 100000 in
theorem en_X12_putCode {Q : hS → am_H → Prop} (hQ : l1_em km Q) (N : Nat) (c : hS) (p1 : Int32) : l1_G (wN wV) Q am_i_X12_putCode 0 [some (.ref 201), some (.int p1)] [] c (f_X12_putCode N c p1) := by
  rw [f_X12_putCode]
  refine l1_many mt_X12_putCode (pc' := 1) (L' := [some (.ref 201), some (.int p1)]) (st' := [.ref 201]) 1 rfl ?_
  refine l1_getR hQ mt_X12_putCode rfl (o := 201) (ci := 11) (k := 27) (a := 0) (b := 0) rfl rfl rfl rfl rfl (q := 212) rfl ?_
  refine l1_many mt_X12_putCode (pc' := 5) (L' := [some (.ref 201), some (.int p1)]) (st' := [.int p1, .ref 212]) 1 rfl ?_
  refine l1_ck (fun hx => ?_)
  refine l1_ald hQ mt_X12_putCode rfl (o := 212) rfl hx ?_
  refine l1_many mt_X12_putCode (pc' := 9) (L' := [some (.ref 201), some (.int p1), some (.int ((c.1 212 p1.toNatClampNeg) - 1))]) (st' := []) 3 rfl ?_
  exact ok_X12_putCode_9 hQ N p1 N c ((c.1 212 p1.toNatClampNeg) - 1)
theorem ok_X12_putCode {Q : hS → am_H → Prop} (hQ : l1_em km Q) (N : Nat) (c : hS) (p1 : Int32) : l1_T wV Q am_i_X12_putCode [.ref 201, .int p1] c (f_X12_putCode N c p1) := l1_of (en_X12_putCode hQ N c p1) ⟨rfl, rfl, trivial⟩
set_option maxRecDepth 100000 in
theorem ok_X12_match_59 {Q : hS → am_H → Prop} (hQ : l1_em km Q) (N : Nat) (p1 : Int32) {k6 : hS → Int32 → Int32 → Option (Int32 × hS)} (hk6 : ∀ c v2 v3, l1_G (wN wI) Q am_i_X12_match 6 [some (.ref 201), some (.int p1), some (.int v2), some (.int v3)] [] c (k6 c v2 v3)) : ∀ (c : hS) (v2 : Int32) (v3 : Int32) (v4 : Int32), l1_G (wN wI) Q am_i_X12_match 59 [some (.ref 201), some (.int p1), some (.int v2), some (.int v3), some (.int v4)] [] c (f_X12_match_59 N p1 k6 c v2 v3 v4) := by
  intro c v2 v3 v4
  rw [f_X12_match_59]
  refine l1_many mt_X12_match (pc' := bif am_cc .le v4 v2 then 75 else 65) (L' := [some (.ref 201), some (.int p1), some (.int v2), some (.int v3), some (.int v4)]) (st' := []) 3 rfl ?_
  refine l1_bif rfl ?_ ?_
  · refine l1_many mt_X12_match (pc' := 6) (L' := [some (.ref 201), some (.int p1), some (.int v2), some (.int (v3 + (-1))), some (.int v4)]) (st' := []) 2 rfl ?_
    refine l1_weak (m := [true, true, true, true, false]) (L' := [some (.ref 201), some (.int p1), some (.int v2), some (.int (v3 + (-1)))]) rfl ?_
    exact hk6 c v2 (v3 + (-1))
  · refine l1_many mt_X12_match (pc' := 72) (L' := [some (.ref 201), some (.int p1), some (.int v4), some (.int v3), some (.int v4)]) (st' := [.int (p1 - v3), .ref 201]) 6 rfl ?_
    refine l1_putI hQ mt_X12_match rfl (o := 201) (ci := 11) (k := 35) (a := 0) rfl rfl rfl rfl rfl rfl (fun c1 => ?_)
    refine l1_many mt_X12_match (pc' := 6) (L' := [some (.ref 201), some (.int p1), some (.int v4), some (.int (v3 + (-1))), some (.int v4)]) (st' := []) 2 rfl ?_
    refine l1_weak (m := [true, true, true, true, false]) (L' := [some (.ref 201), some (.int p1), some (.int v4), some (.int (v3 + (-1)))]) rfl ?_
    exact hk6 c1 v4 (v3 + (-1))
set_option maxRecDepth 100000 in
theorem ok_X12_match_13 {Q : hS → am_H → Prop} (hQ : l1_em km Q) (N : Nat) (p1 : Int32) {k6 : hS → Int32 → Int32 → Option (Int32 × hS)} (hk6 : ∀ c v2 v3, l1_G (wN wI) Q am_i_X12_match 6 [some (.ref 201), some (.int p1), some (.int v2), some (.int v3)] [] c (k6 c v2 v3)) : ∀ n : Nat, ∀ (c : hS) (v2 : Int32) (v3 : Int32) (v4 : Int32), l1_G (wN wI) Q am_i_X12_match 13 [some (.ref 201), some (.int p1), some (.int v2), some (.int v3), some (.int v4)] [] c (f_X12_match_13 N p1 k6 n c v2 v3 v4) := by
  intro n
  induction n with
  | zero => intro c v2 v3 v4; exact l1_none
  | succ n ih =>
    intro c v2 v3 v4
    rw [f_X12_match_13]
    refine l1_many mt_X12_match (pc' := bif am_cc .ge v4 258 then 59 else 21) (L' := [some (.ref 201), some (.int p1), some (.int v2), some (.int v3), some (.int v4)]) (st' := []) 3 rfl ?_
    refine l1_bif rfl ?_ ?_
    · exact ok_X12_match_59 hQ N p1 hk6 c v2 v3 v4
    · refine l1_many mt_X12_match (pc' := 26) (L' := [some (.ref 201), some (.int p1), some (.int v2), some (.int v3), some (.int v4)]) (st' := [.ref 201, .int (p1 + v4)]) 4 rfl ?_
      refine l1_getI hQ mt_X12_match rfl (o := 201) (ci := 11) (k := 32) (a := 0) (b := 0) rfl rfl rfl rfl rfl ?_
      refine l1_many mt_X12_match (pc' := bif am_cc .ge (p1 + v4) (c.1 201 32) then 59 else 32) (L' := [some (.ref 201), some (.int p1), some (.int v2), some (.int v3), some (.int v4)]) (st' := []) 1 rfl ?_
      refine l1_bif rfl ?_ ?_
      · exact ok_X12_match_59 hQ N p1 hk6 c v2 v3 v4
      · refine l1_many mt_X12_match (pc' := 33) (L' := [some (.ref 201), some (.int p1), some (.int v2), some (.int v3), some (.int v4)]) (st' := [.ref 201]) 1 rfl ?_
        refine l1_getR hQ mt_X12_match rfl (o := 201) (ci := 11) (k := 31) (a := 0) (b := 0) rfl rfl rfl rfl rfl (q := 215) rfl ?_
        refine l1_many mt_X12_match (pc' := 40) (L' := [some (.ref 201), some (.int p1), some (.int v2), some (.int v3), some (.int v4)]) (st' := [.int (v3 + v4), .ref 215]) 3 rfl ?_
        refine l1_ck (fun hx => ?_)
        refine l1_ald hQ mt_X12_match rfl (o := 215) rfl hx ?_
        refine l1_many mt_X12_match (pc' := 42) (L' := [some (.ref 201), some (.int p1), some (.int v2), some (.int v3), some (.int v4)]) (st' := [.ref 201, .int (c.1 215 (v3 + v4).toNatClampNeg)]) 1 rfl ?_
        refine l1_getR hQ mt_X12_match rfl (o := 201) (ci := 11) (k := 31) (a := 0) (b := 0) rfl rfl rfl rfl rfl (q := 215) rfl ?_
        refine l1_many mt_X12_match (pc' := 49) (L' := [some (.ref 201), some (.int p1), some (.int v2), some (.int v3), some (.int v4)]) (st' := [.int (p1 + v4), .ref 215, .int (c.1 215 (v3 + v4).toNatClampNeg)]) 3 rfl ?_
        refine l1_ck (fun hx => ?_)
        refine l1_ald hQ mt_X12_match rfl (o := 215) rfl hx ?_
        refine l1_many mt_X12_match (pc' := bif am_cc .ne (c.1 215 (v3 + v4).toNatClampNeg) (c.1 215 (p1 + v4).toNatClampNeg) then 59 else 53) (L' := [some (.ref 201), some (.int p1), some (.int v2), some (.int v3), some (.int v4)]) (st' := []) 1 rfl ?_
        refine l1_bin rfl ?_ ?_
        · refine l1_many mt_X12_match (pc' := 13) (L' := [some (.ref 201), some (.int p1), some (.int v2), some (.int v3), some (.int (v4 + 1))]) (st' := []) 2 rfl ?_
          exact ih c v2 v3 (v4 + 1)
        · exact ok_X12_match_59 hQ N p1 hk6 c v2 v3 v4
set_option maxRecDepth 100000 in
theorem ok_X12_match_6 {Q : hS → am_H → Prop} (hQ : l1_em km Q) (N : Nat) (p1 : Int32) : ∀ n : Nat, ∀ (c : hS) (v2 : Int32) (v3 : Int32), l1_G (wN wI) Q am_i_X12_match 6 [some (.ref 201), some (.int p1), some (.int v2), some (.int v3)] [] c (f_X12_match_6 N p1 n c v2 v3) := by
  intro n
  induction n with
  | zero => intro c v2 v3; exact l1_none
  | succ n ih =>
    intro c v2 v3
    rw [f_X12_match_6]
    refine l1_many mt_X12_match (pc' := bif am_cc .lt v3 0 then 81 else 10) (L' := [some (.ref 201), some (.int p1), some (.int v2), some (.int v3)]) (st' := []) 2 rfl ?_
    refine l1_bif rfl ?_ ?_
    · refine l1_many mt_X12_match (pc' := 82) (L' := [some (.ref 201), some (.int p1), some (.int v2), some (.int v3)]) (st' := [.int v2]) 1 rfl ?_
      exact l1_ret mt_X12_match rfl rfl rfl
    · refine l1_many mt_X12_match (pc' := 13) (L' := [some (.ref 201), some (.int p1), some (.int v2), some (.int v3), some (.int 0)]) (st' := []) 2 rfl ?_
      exact ok_X12_match_13 hQ N p1 ih N c v2 v3 0
set_option maxRecDepth 100000 in
theorem en_X12_match {Q : hS → am_H → Prop} (hQ : l1_em km Q) (N : Nat) (c : hS) (p1 : Int32) : l1_G (wN wI) Q am_i_X12_match 0 [some (.ref 201), some (.int p1)] [] c (f_X12_match N c p1) := by
  rw [f_X12_match]
  refine l1_many mt_X12_match (pc' := 6) (L' := [some (.ref 201), some (.int p1), some (.int 0), some (.int (p1 - 1))]) (st' := []) 6 rfl ?_
  exact ok_X12_match_6 hQ N p1 N c 0 (p1 - 1)
theorem ok_X12_match {Q : hS → am_H → Prop} (hQ : l1_em km Q) (N : Nat) (c : hS) (p1 : Int32) : l1_T wI Q am_i_X12_match [.ref 201, .int p1] c (f_X12_match N c p1) := l1_of (en_X12_match hQ N c p1) ⟨rfl, rfl, trivial⟩
set_option maxRecDepth 100000 in
theorem ok_X12_putMatch_50 {Q : hS → am_H → Prop} (hQ : l1_em km Q) (N : Nat) (p1 : Int32) (p2 : Int32) : ∀ n : Nat, ∀ (c : hS) (v5 : Int32), l1_G (wN wV) Q am_i_X12_putMatch 50 [some (.ref 201), none, some (.int p2), none, none, some (.int v5)] [] c (f_X12_putMatch_50 N p1 p2 n c v5) := by
  intro n
  induction n with
  | zero => intro c v5; exact l1_none
  | succ n ih =>
    intro c v5
    rw [f_X12_putMatch_50]
    refine l1_many mt_X12_putMatch (pc' := 53) (L' := [some (.ref 201), none, some (.int p2), none, none, some (.int v5)]) (st' := [.int v5, .ref 201]) 2 rfl ?_
    refine l1_callV hQ mt_X12_putMatch mt_X12_distanceOf rfl rfl (o := 201) (ci := 11) (As := [.int v5]) (rest := []) rfl rfl rfl rfl rfl rfl (st1 := fun x1 => [.int x1]) (fun _ => rfl) (ok_X12_distanceOf hQ c v5) (fun x1 c2 => ?_)
    refine l1_many mt_X12_putMatch (pc' := bif am_cc .le x1 p2 then 66 else 60) (L' := [some (.ref 201), none, some (.int p2), none, none, some (.int v5)]) (st' := []) 2 rfl ?_
    refine l1_bif rfl ?_ ?_
    · refine l1_many mt_X12_putMatch (pc' := 69) (L' := [some (.ref 201), none, some (.int p2), none, none, some (.int v5)]) (st' := [.int v5, .ref 201]) 2 rfl ?_
      refine l1_callV hQ mt_X12_putMatch mt_X12_distanceOf rfl rfl (o := 201) (ci := 11) (As := [.int v5]) (rest := []) rfl rfl rfl rfl rfl rfl (st1 := fun x3 => [.int x3]) (fun _ => rfl) (ok_X12_distanceOf hQ c2 v5) (fun x3 c4 => ?_)
      refine l1_many mt_X12_putMatch (pc' := 81) (L' := [some (.ref 201), none, some (.int p2), none, some (.int x3), some (.int v5)]) (st' := [.int (300 + v5), .ref 201]) 5 rfl ?_
      refine l1_callV hQ mt_X12_putMatch mt_X12_putCode rfl rfl (o := 201) (ci := 11) (As := [.int (300 + v5)]) (rest := []) rfl rfl rfl rfl rfl rfl (st1 := fun _ => []) (fun _ => rfl) (ok_X12_putCode hQ N c4 (300 + v5)) (fun _ c5 => ?_)
      refine l1_many mt_X12_putMatch (pc' := 90) (L' := [some (.ref 201), none, some (.int p2), none, some (.int x3), some (.int v5)]) (st' := [.ref 201, .int (p2 - x3), .ref 201]) 5 rfl ?_
      refine l1_getI hQ mt_X12_putMatch rfl (o := 201) (ci := 11) (k := 30) (a := 0) (b := 0) rfl rfl rfl rfl rfl ?_
      refine l1_callV hQ mt_X12_putMatch mt_X12_putBits rfl rfl (o := 201) (ci := 11) (As := [.int (p2 - x3), .int (c5.1 201 30)]) (rest := []) rfl rfl rfl rfl rfl rfl (st1 := fun _ => []) (fun _ => rfl) (ok_X12_putBits hQ N c5 (p2 - x3) (c5.1 201 30)) (fun _ c6 => ?_)
      exact l1_ret mt_X12_putMatch rfl rfl rfl
    · refine l1_many mt_X12_putMatch (pc' := 50) (L' := [some (.ref 201), none, some (.int p2), none, none, some (.int (v5 + (-1)))]) (st' := []) 2 rfl ?_
      exact ih c2 (v5 + (-1))
set_option maxRecDepth 100000 in
theorem ok_X12_putMatch_3 {Q : hS → am_H → Prop} (hQ : l1_em km Q) (N : Nat) (p1 : Int32) (p2 : Int32) : ∀ n : Nat, ∀ (c : hS) (v3 : Int32), l1_G (wN wV) Q am_i_X12_putMatch 3 [some (.ref 201), some (.int p1), some (.int p2), some (.int v3)] [] c (f_X12_putMatch_3 N p1 p2 n c v3) := by
  intro n
  induction n with
  | zero => intro c v3; exact l1_none
  | succ n ih =>
    intro c v3
    rw [f_X12_putMatch_3]
    refine l1_many mt_X12_putMatch (pc' := 5) (L' := [some (.ref 201), some (.int p1), some (.int p2), some (.int v3)]) (st' := [.int v3, .ref 201]) 2 rfl ?_
    refine l1_callV hQ mt_X12_putMatch mt_X12_lengthOf rfl rfl (o := 201) (ci := 11) (As := [.int v3]) (rest := []) rfl rfl rfl rfl rfl rfl (st1 := fun x1 => [.int x1]) (fun _ => rfl) (ok_X12_lengthOf hQ c v3) (fun x1 c2 => ?_)
    refine l1_many mt_X12_putMatch (pc' := bif am_cc .le x1 p1 then 18 else 12) (L' := [some (.ref 201), some (.int p1), some (.int p2), some (.int v3)]) (st' := []) 2 rfl ?_
    refine l1_bif rfl ?_ ?_
    · refine l1_many mt_X12_putMatch (pc' := 20) (L' := [some (.ref 201), some (.int p1), some (.int p2), some (.int v3)]) (st' := [.int v3, .ref 201]) 2 rfl ?_
      refine l1_callV hQ mt_X12_putMatch mt_X12_lengthOf rfl rfl (o := 201) (ci := 11) (As := [.int v3]) (rest := []) rfl rfl rfl rfl rfl rfl (st1 := fun x3 => [.int x3]) (fun _ => rfl) (ok_X12_lengthOf hQ c2 v3) (fun x3 c4 => ?_)
      refine l1_many mt_X12_putMatch (pc' := 31) (L' := [some (.ref 201), some (.int p1), some (.int p2), some (.int v3), some (.int x3)]) (st' := [.int (257 + v3), .ref 201]) 5 rfl ?_
      refine l1_callV hQ mt_X12_putMatch mt_X12_putCode rfl rfl (o := 201) (ci := 11) (As := [.int (257 + v3)]) (rest := []) rfl rfl rfl rfl rfl rfl (st1 := fun _ => []) (fun _ => rfl) (ok_X12_putCode hQ N c4 (257 + v3)) (fun _ c5 => ?_)
      refine l1_many mt_X12_putMatch (pc' := 40) (L' := [some (.ref 201), some (.int p1), some (.int p2), some (.int v3), some (.int x3)]) (st' := [.ref 201, .int (p1 - x3), .ref 201]) 5 rfl ?_
      refine l1_getI hQ mt_X12_putMatch rfl (o := 201) (ci := 11) (k := 30) (a := 0) (b := 0) rfl rfl rfl rfl rfl ?_
      refine l1_callV hQ mt_X12_putMatch mt_X12_putBits rfl rfl (o := 201) (ci := 11) (As := [.int (p1 - x3), .int (c5.1 201 30)]) (rest := []) rfl rfl rfl rfl rfl rfl (st1 := fun _ => []) (fun _ => rfl) (ok_X12_putBits hQ N c5 (p1 - x3) (c5.1 201 30)) (fun _ c6 => ?_)
      refine l1_many mt_X12_putMatch (pc' := 50) (L' := [some (.ref 201), some (.int p1), some (.int p2), some (.int v3), some (.int x3), some (.int 29)]) (st' := []) 2 rfl ?_
      refine l1_weak (m := [true, false, true, false, false, true]) (L' := [some (.ref 201), none, some (.int p2), none, none, some (.int 29)]) rfl ?_
      exact ok_X12_putMatch_50 hQ N p1 p2 N c6 29
    · refine l1_many mt_X12_putMatch (pc' := 3) (L' := [some (.ref 201), some (.int p1), some (.int p2), some (.int (v3 + (-1)))]) (st' := []) 2 rfl ?_
      exact ih c2 (v3 + (-1))
set_option maxRecDepth 100000 in
theorem en_X12_putMatch {Q : hS → am_H → Prop} (hQ : l1_em km Q) (N : Nat) (c : hS) (p1 : Int32) (p2 : Int32) : l1_G (wN wV) Q am_i_X12_putMatch 0 [some (.ref 201), some (.int p1), some (.int p2)] [] c (f_X12_putMatch N c p1 p2) := by
  rw [f_X12_putMatch]
  refine l1_many mt_X12_putMatch (pc' := 3) (L' := [some (.ref 201), some (.int p1), some (.int p2), some (.int 28)]) (st' := []) 2 rfl ?_
  exact ok_X12_putMatch_3 hQ N p1 p2 N c 28
theorem ok_X12_putMatch {Q : hS → am_H → Prop} (hQ : l1_em km Q) (N : Nat) (c : hS) (p1 : Int32) (p2 : Int32) : l1_T wV Q am_i_X12_putMatch [.ref 201, .int p1, .int p2] c (f_X12_putMatch N c p1 p2) := l1_of (en_X12_putMatch hQ N c p1 p2) ⟨rfl, rfl, rfl, trivial⟩
set_option maxRecDepth 100000 in
theorem ok_X12_putPacked_22 {Q : hS → am_H → Prop} (hQ : l1_em km Q) (N : Nat) : ∀ n : Nat, ∀ (c : hS) (v1 : Int32), l1_G (wN wV) Q am_i_X12_putPacked 22 [some (.ref 201), some (.int v1)] [] c (f_X12_putPacked_22 N n c v1) := by
  intro n
  induction n with
  | zero => intro c v1; exact l1_none
  | succ n ih =>
    intro c v1
    rw [f_X12_putPacked_22]
    refine l1_many mt_X12_putPacked (pc' := 24) (L' := [some (.ref 201), some (.int v1)]) (st' := [.ref 201, .int v1]) 2 rfl ?_
    refine l1_getI hQ mt_X12_putPacked rfl (o := 201) (ci := 11) (k := 32) (a := 0) (b := 0) rfl rfl rfl rfl rfl ?_
    refine l1_many mt_X12_putPacked (pc' := bif am_cc .ge v1 (c.1 201 32) then 73 else 30) (L' := [some (.ref 201), some (.int v1)]) (st' := []) 1 rfl ?_
    refine l1_bif rfl ?_ ?_
    · refine l1_many mt_X12_putPacked (pc' := 77) (L' := [some (.ref 201), some (.int v1)]) (st' := [.int 256, .ref 201]) 2 rfl ?_
      refine l1_callV hQ mt_X12_putPacked mt_X12_putCode rfl rfl (o := 201) (ci := 11) (As := [.int 256]) (rest := []) rfl rfl rfl rfl rfl rfl (st1 := fun _ => []) (fun _ => rfl) (ok_X12_putCode hQ N c 256) (fun _ c1 => ?_)
      refine l1_many mt_X12_putPacked (pc' := 81) (L' := [some (.ref 201), some (.int v1)]) (st' := [.ref 201]) 1 rfl ?_
      refine l1_getI hQ mt_X12_putPacked rfl (o := 201) (ci := 11) (k := 34) (a := 0) (b := 0) rfl rfl rfl rfl rfl ?_
      refine l1_many mt_X12_putPacked (pc' := bif am_cc .le (c1.1 201 34) 0 then 95 else 87) (L' := [some (.ref 201), some (.int v1)]) (st' := []) 1 rfl ?_
      refine l1_bif rfl ?_ ?_
      · exact l1_ret mt_X12_putPacked rfl rfl rfl
      · refine l1_many mt_X12_putPacked (pc' := 89) (L' := [some (.ref 201), some (.int v1)]) (st' := [.ref 201, .ref 201]) 2 rfl ?_
        refine l1_getI hQ mt_X12_putPacked rfl (o := 201) (ci := 11) (k := 33) (a := 0) (b := 0) rfl rfl rfl rfl rfl ?_
        refine l1_callV hQ mt_X12_putPacked mt_X12_put rfl rfl (o := 201) (ci := 11) (As := [.int (c1.1 201 33)]) (rest := []) rfl rfl rfl rfl rfl rfl (st1 := fun _ => []) (fun _ => rfl) (ok_X12_put hQ c1 (c1.1 201 33)) (fun _ c2 => ?_)
        exact l1_ret mt_X12_putPacked rfl rfl rfl
    · refine l1_many mt_X12_putPacked (pc' := 32) (L' := [some (.ref 201), some (.int v1)]) (st' := [.int v1, .ref 201]) 2 rfl ?_
      refine l1_callV hQ mt_X12_putPacked mt_X12_match rfl rfl (o := 201) (ci := 11) (As := [.int v1]) (rest := []) rfl rfl rfl rfl rfl rfl (st1 := fun x3 => [.int x3]) (fun _ => rfl) (ok_X12_match hQ N c v1) (fun x3 c4 => ?_)
      refine l1_many mt_X12_putPacked (pc' := bif am_cc .lt x3 3 then 57 else 41) (L' := [some (.ref 201), some (.int v1), some (.int x3)]) (st' := []) 4 rfl ?_
      refine l1_bif rfl ?_ ?_
      · refine l1_many mt_X12_putPacked (pc' := 59) (L' := [some (.ref 201), some (.int v1), some (.int x3)]) (st' := [.ref 201, .ref 201]) 2 rfl ?_
        refine l1_getR hQ mt_X12_putPacked rfl (o := 201) (ci := 11) (k := 31) (a := 0) (b := 0) rfl rfl rfl rfl rfl (q := 215) rfl ?_
        refine l1_many mt_X12_putPacked (pc' := 63) (L' := [some (.ref 201), some (.int v1), some (.int x3)]) (st' := [.int v1, .ref 215, .ref 201]) 1 rfl ?_
        refine l1_ck (fun hx => ?_)
        refine l1_ald hQ mt_X12_putPacked rfl (o := 215) rfl hx ?_
        refine l1_callV hQ mt_X12_putPacked mt_X12_putCode rfl rfl (o := 201) (ci := 11) (As := [.int (c4.1 215 v1.toNatClampNeg)]) (rest := []) rfl rfl rfl rfl rfl rfl (st1 := fun _ => []) (fun _ => rfl) (ok_X12_putCode hQ N c4 (c4.1 215 v1.toNatClampNeg)) (fun _ c5 => ?_)
        refine l1_many mt_X12_putPacked (pc' := 22) (L' := [some (.ref 201), some (.int (v1 + 1)), some (.int x3)]) (st' := []) 2 rfl ?_
        refine l1_weak (m := [true, true, false]) (L' := [some (.ref 201), some (.int (v1 + 1))]) rfl ?_
        exact ih c5 (v1 + 1)
      · refine l1_many mt_X12_putPacked (pc' := 44) (L' := [some (.ref 201), some (.int v1), some (.int x3)]) (st' := [.ref 201, .int x3, .ref 201]) 3 rfl ?_
        refine l1_getI hQ mt_X12_putPacked rfl (o := 201) (ci := 11) (k := 35) (a := 0) (b := 0) rfl rfl rfl rfl rfl ?_
        refine l1_callV hQ mt_X12_putPacked mt_X12_putMatch rfl rfl (o := 201) (ci := 11) (As := [.int x3, .int (c4.1 201 35)]) (rest := []) rfl rfl rfl rfl rfl rfl (st1 := fun _ => []) (fun _ => rfl) (ok_X12_putMatch hQ N c4 x3 (c4.1 201 35)) (fun _ c6 => ?_)
        refine l1_many mt_X12_putPacked (pc' := 22) (L' := [some (.ref 201), some (.int (v1 + x3)), some (.int x3)]) (st' := []) 6 rfl ?_
        refine l1_weak (m := [true, true, false]) (L' := [some (.ref 201), some (.int (v1 + x3))]) rfl ?_
        exact ih c6 (v1 + x3)
set_option maxRecDepth 100000 in
theorem en_X12_putPacked {Q : hS → am_H → Prop} (hQ : l1_em km Q) (N : Nat) (c : hS) : l1_G (wN wV) Q am_i_X12_putPacked 0 [some (.ref 201)] [] c (f_X12_putPacked N c) := by
  rw [f_X12_putPacked]
  refine l1_many mt_X12_putPacked (pc' := 2) (L' := [some (.ref 201)]) (st' := [.int 0, .ref 201]) 2 rfl ?_
  refine l1_putI hQ mt_X12_putPacked rfl (o := 201) (ci := 11) (k := 33) (a := 0) rfl rfl rfl rfl rfl rfl (fun c1 => ?_)
  refine l1_many mt_X12_putPacked (pc' := 7) (L' := [some (.ref 201)]) (st' := [.int 0, .ref 201]) 2 rfl ?_
  refine l1_putI hQ mt_X12_putPacked rfl (o := 201) (ci := 11) (k := 34) (a := 0) rfl rfl rfl rfl rfl rfl (fun c2 => ?_)
  refine l1_many mt_X12_putPacked (pc' := 11) (L' := [some (.ref 201)]) (st' := [.ref 201]) 1 rfl ?_
  refine l1_callV hQ mt_X12_putPacked mt_X12_layFixed rfl rfl (o := 201) (ci := 11) (As := []) (rest := []) rfl rfl rfl rfl rfl rfl (st1 := fun _ => []) (fun _ => rfl) (ok_X12_layFixed hQ N c2) (fun _ c3 => ?_)
  refine l1_many mt_X12_putPacked (pc' := 17) (L' := [some (.ref 201)]) (st' := [.int 3, .int 3, .ref 201]) 3 rfl ?_
  refine l1_callV hQ mt_X12_putPacked mt_X12_putBits rfl rfl (o := 201) (ci := 11) (As := [.int 3, .int 3]) (rest := []) rfl rfl rfl rfl rfl rfl (st1 := fun _ => []) (fun _ => rfl) (ok_X12_putBits hQ N c3 3 3) (fun _ c4 => ?_)
  refine l1_many mt_X12_putPacked (pc' := 22) (L' := [some (.ref 201), some (.int 0)]) (st' := []) 2 rfl ?_
  exact ok_X12_putPacked_22 hQ N N c4 0
theorem ok_X12_putPacked {Q : hS → am_H → Prop} (hQ : l1_em km Q) (N : Nat) (c : hS) : l1_T wV Q am_i_X12_putPacked [.ref 201] c (f_X12_putPacked N c) := l1_of (en_X12_putPacked hQ N c) ⟨rfl, trivial⟩
set_option maxRecDepth 100000 in
theorem ok_X12_pack_15 {Q : hS → am_H → Prop} (hQ : l1_em km Q) (N : Nat) : ∀ n : Nat, ∀ (c : hS) (v1 : Int32), l1_G (wN wI) Q am_i_X12_pack 15 [some (.ref 201), some (.int v1)] [] c (f_X12_pack_15 N n c v1) := by
  intro n
  induction n with
  | zero => intro c v1; exact l1_none
  | succ n ih =>
    intro c v1
    rw [f_X12_pack_15]
    refine l1_many mt_X12_pack (pc' := 17) (L' := [some (.ref 201), some (.int v1)]) (st' := [.ref 201, .int v1]) 2 rfl ?_
    refine l1_getI hQ mt_X12_pack rfl (o := 201) (ci := 11) (k := 2) (a := 0) (b := 0) rfl rfl rfl rfl rfl ?_
    refine l1_many mt_X12_pack (pc' := bif am_cc .ge v1 (c.1 201 2) then 41 else 23) (L' := [some (.ref 201), some (.int v1)]) (st' := []) 1 rfl ?_
    refine l1_bif rfl ?_ ?_
    · refine l1_many mt_X12_pack (pc' := 43) (L' := [some (.ref 201), some (.int v1)]) (st' := [.int 0, .ref 201]) 2 rfl ?_
      refine l1_putI hQ mt_X12_pack rfl (o := 201) (ci := 11) (k := 4) (a := 0) rfl rfl rfl rfl rfl rfl (fun c1 => ?_)
      refine l1_many mt_X12_pack (pc' := 47) (L' := [some (.ref 201), some (.int v1)]) (st' := [.ref 201]) 1 rfl ?_
      refine l1_callV hQ mt_X12_pack mt_X12_putPacked rfl rfl (o := 201) (ci := 11) (As := []) (rest := []) rfl rfl rfl rfl rfl rfl (st1 := fun _ => []) (fun _ => rfl) (ok_X12_putPacked hQ N c1) (fun _ c2 => ?_)
      refine l1_many mt_X12_pack (pc' := 51) (L' := [some (.ref 201), some (.int v1)]) (st' := [.ref 201]) 1 rfl ?_
      refine l1_getI hQ mt_X12_pack rfl (o := 201) (ci := 11) (k := 4) (a := 0) (b := 0) rfl rfl rfl rfl rfl ?_
      exact l1_ret mt_X12_pack rfl rfl rfl
    · refine l1_many mt_X12_pack (pc' := 24) (L' := [some (.ref 201), some (.int v1)]) (st' := [.ref 201]) 1 rfl ?_
      refine l1_getR hQ mt_X12_pack rfl (o := 201) (ci := 11) (k := 31) (a := 0) (b := 0) rfl rfl rfl rfl rfl (q := 215) rfl ?_
      refine l1_many mt_X12_pack (pc' := 29) (L' := [some (.ref 201), some (.int v1)]) (st' := [.ref 201, .int v1, .ref 215]) 2 rfl ?_
      refine l1_getR hQ mt_X12_pack rfl (o := 201) (ci := 11) (k := 1) (a := 0) (b := 0) rfl rfl rfl rfl rfl (q := 202) rfl ?_
      refine l1_many mt_X12_pack (pc' := 33) (L' := [some (.ref 201), some (.int v1)]) (st' := [.int v1, .ref 202, .int v1, .ref 215]) 1 rfl ?_
      refine l1_ck (fun hx => ?_)
      refine l1_ald hQ mt_X12_pack rfl (o := 202) rfl hx ?_
      refine l1_ck (fun hx => ?_)
      refine l1_ast hQ mt_X12_pack rfl (o := 215) rfl hx (fun c3 => ?_)
      refine l1_many mt_X12_pack (pc' := 15) (L' := [some (.ref 201), some (.int (v1 + 1))]) (st' := []) 2 rfl ?_
      exact ih c3 (v1 + 1)
set_option maxRecDepth 100000 in
theorem en_X12_pack {Q : hS → am_H → Prop} (hQ : l1_em km Q) (N : Nat) (c : hS) : l1_G (wN wI) Q am_i_X12_pack 0 [some (.ref 201)] [] c (f_X12_pack N c) := by
  rw [f_X12_pack]
  refine l1_many mt_X12_pack (pc' := 2) (L' := [some (.ref 201)]) (st' := [.int 0, .ref 201]) 2 rfl ?_
  refine l1_putI hQ mt_X12_pack rfl (o := 201) (ci := 11) (k := 0) (a := 0) rfl rfl rfl rfl rfl rfl (fun c1 => ?_)
  refine l1_many mt_X12_pack (pc' := 7) (L' := [some (.ref 201)]) (st' := [.ref 201, .ref 201]) 2 rfl ?_
  refine l1_getI hQ mt_X12_pack rfl (o := 201) (ci := 11) (k := 2) (a := 0) (b := 0) rfl rfl rfl rfl rfl ?_
  refine l1_putI hQ mt_X12_pack rfl (o := 201) (ci := 11) (k := 32) (a := 0) rfl rfl rfl rfl rfl rfl (fun c2 => ?_)
  refine l1_many mt_X12_pack (pc' := 15) (L' := [some (.ref 201), some (.int 0)]) (st' := []) 2 rfl ?_
  exact ok_X12_pack_15 hQ N N c2 0
theorem ok_X12_pack {Q : hS → am_H → Prop} (hQ : l1_em km Q) (N : Nat) (c : hS) : l1_T wI Q am_i_X12_pack [.ref 201] c (f_X12_pack N c) := l1_of (en_X12_pack hQ N c) ⟨rfl, trivial⟩
set_option maxRecDepth 100000 in
theorem ok_X12_putZeros_0 {Q : hS → am_H → Prop} (hQ : l1_em km Q) (N : Nat) (p1 : Int32) : ∀ n : Nat, ∀ (c : hS), l1_G (wN wV) Q am_i_X12_putZeros 0 [some (.ref 201), some (.int p1)] [] c (f_X12_putZeros_0 N p1 n c) := by
  intro n
  induction n with
  | zero => intro c; exact l1_none
  | succ n ih =>
    intro c
    rw [f_X12_putZeros_0]
    refine l1_many mt_X12_putZeros (pc' := 1) (L' := [some (.ref 201), some (.int p1)]) (st' := [.ref 201]) 1 rfl ?_
    refine l1_getI hQ mt_X12_putZeros rfl (o := 201) (ci := 11) (k := 4) (a := 0) (b := 0) rfl rfl rfl rfl rfl ?_
    refine l1_many mt_X12_putZeros (pc' := bif am_cc .ge (c.1 201 4) p1 then 16 else 8) (L' := [some (.ref 201), some (.int p1)]) (st' := []) 2 rfl ?_
    refine l1_bif rfl ?_ ?_
    · exact l1_ret mt_X12_putZeros rfl rfl rfl
    · refine l1_many mt_X12_putZeros (pc' := 10) (L' := [some (.ref 201), some (.int p1)]) (st' := [.int 0, .ref 201]) 2 rfl ?_
      refine l1_callV hQ mt_X12_putZeros mt_X12_put rfl rfl (o := 201) (ci := 11) (As := [.int 0]) (rest := []) rfl rfl rfl rfl rfl rfl (st1 := fun _ => []) (fun _ => rfl) (ok_X12_put hQ c 0) (fun _ c1 => ?_)
      refine l1_many mt_X12_putZeros (pc' := 0) (L' := [some (.ref 201), some (.int p1)]) (st' := []) 1 rfl ?_
      exact ih c1
set_option maxRecDepth 100000 in
theorem en_X12_putZeros {Q : hS → am_H → Prop} (hQ : l1_em km Q) (N : Nat) (c : hS) (p1 : Int32) : l1_G (wN wV) Q am_i_X12_putZeros 0 [some (.ref 201), some (.int p1)] [] c (f_X12_putZeros N c p1) := by
  rw [f_X12_putZeros]
  exact ok_X12_putZeros_0 hQ N p1 N c
theorem ok_X12_putZeros {Q : hS → am_H → Prop} (hQ : l1_em km Q) (N : Nat) (c : hS) (p1 : Int32) : l1_T wV Q am_i_X12_putZeros [.ref 201, .int p1] c (f_X12_putZeros N c p1) := l1_of (en_X12_putZeros hQ N c p1) ⟨rfl, rfl, trivial⟩
