/-! THAT THE MACHINE FOLLOWS THEM, printed by gen_l1.py -/
set_option maxRecDepth 100000 in
theorem ok_X12_readEntryHead_370 {Q : hS → am_H → Prop} (hQ : l1_em km Q) (N : Nat) (p1 : Int32) (p2 : Int32) : ∀ n : Nat, ∀ (c : hS) (v5 : Int32), l1_G (wN wI) Q am_i_X12_readEntryHead 370 [some (.ref 201), some (.int p1), none, none, none, some (.int v5)] [] c (f_X12_readEntryHead_370 N p1 p2 n c v5) := by
  intro n
  induction n with
  | zero => intro c v5; exact l1_none
  | succ n ih =>
    intro c v5
    rw [f_X12_readEntryHead_370]
    refine l1_many mt_X12_readEntryHead (pc' := 373) (L' := [some (.ref 201), some (.int p1), none, none, none, some (.int v5)]) (st' := [.ref 201, .int v5]) 2 rfl ?_
    refine l1_getI hQ mt_X12_readEntryHead rfl (o := 201) (ci := 11) (k := 14) (a := 0) (b := 0) rfl rfl rfl rfl rfl ?_
    refine l1_many mt_X12_readEntryHead (pc' := bif am_cc .ge v5 (c.1 201 14) then 404 else 379) (L' := [some (.ref 201), some (.int p1), none, none, none, some (.int v5)]) (st' := []) 1 rfl ?_
    refine l1_bif rfl ?_ ?_
    · refine l1_many mt_X12_readEntryHead (pc' := 405) (L' := [some (.ref 201), some (.int p1), none, none, none, some (.int v5)]) (st' := [.ref 201]) 1 rfl ?_
      refine l1_callV hQ mt_X12_readEntryHead mt_X12_isName rfl rfl (o := 201) (ci := 11) (As := []) (rest := []) rfl rfl rfl rfl rfl rfl (st1 := fun x1 => [.int x1]) (fun _ => rfl) (ok_X12_isName hQ N c) (fun x1 c2 => ?_)
      refine l1_many mt_X12_readEntryHead (pc' := bif am_cc .ne x1 0 then 424 else 411) (L' := [some (.ref 201), some (.int p1), none, none, none, some (.int v5)]) (st' := []) 1 rfl ?_
      refine l1_bin rfl ?_ ?_
      · refine l1_many mt_X12_readEntryHead (pc' := 418) (L' := [some (.ref 201), some (.int p1), none, none, none, some (.int v5)]) (st' := [.int (p1 + 46), .int 10, .ref 201]) 5 rfl ?_
        refine l1_callV hQ mt_X12_readEntryHead mt_X12_fails rfl rfl (o := 201) (ci := 11) (As := [.int 10, .int (p1 + 46)]) (rest := []) rfl rfl rfl rfl rfl rfl (st1 := fun x3 => [.int x3]) (fun _ => rfl) (ok_X12_fails hQ c2 10 (p1 + 46)) (fun x3 c4 => ?_)
        refine l1_many mt_X12_readEntryHead (pc' := bif am_cc .eq x3 0 then 428 else 424) (L' := [some (.ref 201), some (.int p1), none, none, none, some (.int v5)]) (st' := []) 1 rfl ?_
        refine l1_bif rfl ?_ ?_
        · refine l1_many mt_X12_readEntryHead (pc' := 429) (L' := [some (.ref 201), some (.int p1), none, none, none, some (.int v5)]) (st' := [.int 0]) 1 rfl ?_
          exact l1_ret mt_X12_readEntryHead rfl rfl rfl
        · refine l1_many mt_X12_readEntryHead (pc' := 429) (L' := [some (.ref 201), some (.int p1), none, none, none, some (.int v5)]) (st' := [.int 1]) 2 rfl ?_
          exact l1_ret mt_X12_readEntryHead rfl rfl rfl
      · refine l1_many mt_X12_readEntryHead (pc' := 429) (L' := [some (.ref 201), some (.int p1), none, none, none, some (.int v5)]) (st' := [.int 1]) 2 rfl ?_
        exact l1_ret mt_X12_readEntryHead rfl rfl rfl
    · refine l1_many mt_X12_readEntryHead (pc' := 380) (L' := [some (.ref 201), some (.int p1), none, none, none, some (.int v5)]) (st' := [.ref 201]) 1 rfl ?_
      refine l1_getR hQ mt_X12_readEntryHead rfl (o := 201) (ci := 11) (k := 15) (a := 0) (b := 0) rfl rfl rfl rfl rfl (q := 209) rfl ?_
      refine l1_many mt_X12_readEntryHead (pc' := 386) (L' := [some (.ref 201), some (.int p1), none, none, none, some (.int v5)]) (st' := [.ref 201, .int v5, .ref 209]) 2 rfl ?_
      refine l1_getR hQ mt_X12_readEntryHead rfl (o := 201) (ci := 11) (k := 3) (a := 0) (b := 0) rfl rfl rfl rfl rfl (q := 203) rfl ?_
      refine l1_many mt_X12_readEntryHead (pc' := 396) (L' := [some (.ref 201), some (.int p1), none, none, none, some (.int v5)]) (st' := [.int ((p1 + 46) + v5), .ref 203, .int v5, .ref 209]) 5 rfl ?_
      refine l1_ck (fun hx => ?_)
      refine l1_ald hQ mt_X12_readEntryHead rfl (o := 203) rfl hx ?_
      refine l1_ck (fun hx => ?_)
      refine l1_ast hQ mt_X12_readEntryHead rfl (o := 209) rfl hx (fun c5 => ?_)
      refine l1_many mt_X12_readEntryHead (pc' := 370) (L' := [some (.ref 201), some (.int p1), none, none, none, some (.int (v5 + 1))]) (st' := []) 2 rfl ?_
      exact ih c5 (v5 + 1)
set_option maxRecDepth 100000 in
theorem ok_X12_readEntryHead_340 {Q : hS → am_H → Prop} (hQ : l1_em km Q) (N : Nat) (p1 : Int32) (p2 : Int32) : ∀ (c : hS) (w0 : Int32), l1_G (wN wI) Q am_i_X12_readEntryHead 340 [some (.ref 201), some (.int p1)] [.int w0, .ref 201] c (f_X12_readEntryHead_340 N p1 p2 c w0) := by
  intro c w0
  rw [f_X12_readEntryHead_340]
  refine l1_putI hQ mt_X12_readEntryHead rfl (o := 201) (ci := 11) (k := 14) (a := 0) rfl rfl rfl rfl rfl rfl (fun c1 => ?_)
  refine l1_many mt_X12_readEntryHead (pc' := 345) (L' := [some (.ref 201), some (.int p1)]) (st' := [.ref 201, .ref 201]) 2 rfl ?_
  refine l1_getI hQ mt_X12_readEntryHead rfl (o := 201) (ci := 11) (k := 14) (a := 0) (b := 0) rfl rfl rfl rfl rfl ?_
  refine l1_many mt_X12_readEntryHead (pc' := bif am_cc .le (c1.1 201 14) 299 then 360 else 354) (L' := [some (.ref 201), some (.int p1)]) (st' := [.ref 201]) 2 rfl ?_
  refine l1_bif rfl ?_ ?_
  · refine l1_many mt_X12_readEntryHead (pc' := 361) (L' := [some (.ref 201), some (.int p1)]) (st' := [.ref 201, .ref 201]) 1 rfl ?_
    refine l1_getI hQ mt_X12_readEntryHead rfl (o := 201) (ci := 11) (k := 14) (a := 0) (b := 0) rfl rfl rfl rfl rfl ?_
    refine l1_putI hQ mt_X12_readEntryHead rfl (o := 201) (ci := 11) (k := 14) (a := 0) rfl rfl rfl rfl rfl rfl (fun c2 => ?_)
    refine l1_many mt_X12_readEntryHead (pc' := 370) (L' := [some (.ref 201), some (.int p1), none, none, none, some (.int 0)]) (st' := []) 2 rfl ?_
    exact ok_X12_readEntryHead_370 hQ N p1 p2 N c2 0
  · refine l1_many mt_X12_readEntryHead (pc' := 364) (L' := [some (.ref 201), some (.int p1)]) (st' := [.int 299, .ref 201]) 2 rfl ?_
    refine l1_putI hQ mt_X12_readEntryHead rfl (o := 201) (ci := 11) (k := 14) (a := 0) rfl rfl rfl rfl rfl rfl (fun c3 => ?_)
    refine l1_many mt_X12_readEntryHead (pc' := 370) (L' := [some (.ref 201), some (.int p1), none, none, none, some (.int 0)]) (st' := []) 2 rfl ?_
    exact ok_X12_readEntryHead_370 hQ N p1 p2 N c3 0
set_option maxRecDepth 100000 in
theorem ok_X12_readEntryHead_323 {Q : hS → am_H → Prop} (hQ : l1_em km Q) (N : Nat) (p1 : Int32) (p2 : Int32) : ∀ (c : hS) (v4 : Int32), l1_G (wN wI) Q am_i_X12_readEntryHead 323 [some (.ref 201), some (.int p1), none, none, some (.int v4)] [] c (f_X12_readEntryHead_323 N p1 p2 c v4) := by
  intro c v4
  rw [f_X12_readEntryHead_323]
  refine l1_many mt_X12_readEntryHead (pc' := 325) (L' := [some (.ref 201), some (.int p1), none, none, some (.int v4)]) (st' := [.ref 201, .ref 201]) 2 rfl ?_
  refine l1_getI hQ mt_X12_readEntryHead rfl (o := 201) (ci := 11) (k := 18) (a := 0) (b := 0) rfl rfl rfl rfl rfl ?_
  refine l1_many mt_X12_readEntryHead (pc' := bif am_cc .eq (c.1 201 18) 0 then 338 else 331) (L' := [some (.ref 201), some (.int p1), none, none, some (.int v4)]) (st' := [.ref 201]) 1 rfl ?_
  refine l1_bif rfl ?_ ?_
  · refine l1_many mt_X12_readEntryHead (pc' := 340) (L' := [some (.ref 201), some (.int p1), none, none, some (.int v4)]) (st' := [.int v4, .ref 201]) 1 rfl ?_
    refine l1_weak (m := [true, true, false, false, false, false]) (L' := [some (.ref 201), some (.int p1)]) rfl ?_
    exact ok_X12_readEntryHead_340 hQ N p1 p2 c v4
  · refine l1_many mt_X12_readEntryHead (pc' := 340) (L' := [some (.ref 201), some (.int p1), none, none, some (.int v4)]) (st' := [.int (v4 - 1), .ref 201]) 4 rfl ?_
    refine l1_weak (m := [true, true, false, false, false, false]) (L' := [some (.ref 201), some (.int p1)]) rfl ?_
    exact ok_X12_readEntryHead_340 hQ N p1 p2 c (v4 - 1)
set_option maxRecDepth 100000 in
theorem ok_X12_readEntryHead_262 {Q : hS → am_H → Prop} (hQ : l1_em km Q) (N : Nat) (p1 : Int32) (p2 : Int32) : ∀ (c : hS) (v3 : Int32) (v4 : Int32), l1_G (wN wI) Q am_i_X12_readEntryHead 262 [some (.ref 201), some (.int p1), none, some (.int v3), some (.int v4)] [] c (f_X12_readEntryHead_262 N p1 p2 c v3 v4) := by
  intro c v3 v4
  rw [f_X12_readEntryHead_262]
  refine l1_many mt_X12_readEntryHead (pc' := 267) (L' := [some (.ref 201), some (.int p1), none, some (.int v3), some (.int v4)]) (st' := [.int (p1 + 24), .ref 201]) 4 rfl ?_
  refine l1_callV hQ mt_X12_readEntryHead mt_X12_fourAt rfl rfl (o := 201) (ci := 11) (As := [.int (p1 + 24)]) (rest := []) rfl rfl rfl rfl rfl rfl (st1 := fun x1 => [.long x1]) (fun _ => rfl) (ok_X12_fourAt hQ c (p1 + 24)) (fun x1 c2 => ?_)
  refine l1_many mt_X12_readEntryHead (pc' := bif am_cc .le (j_cmp x1 400) 0 then 288 else 277) (L' := [some (.ref 201), some (.int p1), none, some (.int v3), some (.int v4)]) (st' := []) 3 rfl ?_
  refine l1_bif rfl ?_ ?_
  · refine l1_many mt_X12_readEntryHead (pc' := bif am_cc .ne v3 0 then 323 else 292) (L' := [some (.ref 201), some (.int p1), none, some (.int v3), some (.int v4)]) (st' := []) 2 rfl ?_
    refine l1_bin rfl ?_ ?_
    · refine l1_many mt_X12_readEntryHead (pc' := 297) (L' := [some (.ref 201), some (.int p1), none, some (.int v3), some (.int v4)]) (st' := [.int (p1 + 20), .ref 201]) 4 rfl ?_
      refine l1_callV hQ mt_X12_readEntryHead mt_X12_fourAt rfl rfl (o := 201) (ci := 11) (As := [.int (p1 + 20)]) (rest := []) rfl rfl rfl rfl rfl rfl (st1 := fun x3 => [.long x3]) (fun _ => rfl) (ok_X12_fourAt hQ c2 (p1 + 20)) (fun x3 c4 => ?_)
      refine l1_many mt_X12_readEntryHead (pc' := 305) (L' := [some (.ref 201), some (.int p1), none, some (.int v3), some (.int v4)]) (st' := [.int (p1 + 24), .ref 201, .long x3]) 4 rfl ?_
      refine l1_callV hQ mt_X12_readEntryHead mt_X12_fourAt rfl rfl (o := 201) (ci := 11) (As := [.int (p1 + 24)]) (rest := [.long x3]) rfl rfl rfl rfl rfl rfl (st1 := fun x5 => [.long x5, .long x3]) (fun _ => rfl) (ok_X12_fourAt hQ c4 (p1 + 24)) (fun x5 c6 => ?_)
      refine l1_many mt_X12_readEntryHead (pc' := bif am_cc .eq (j_cmp x3 x5) 0 then 323 else 312) (L' := [some (.ref 201), some (.int p1), none, some (.int v3), some (.int v4)]) (st' := []) 2 rfl ?_
      refine l1_bif rfl ?_ ?_
      · refine l1_weak (m := [true, true, false, false, true, false]) (L' := [some (.ref 201), some (.int p1), none, none, some (.int v4)]) rfl ?_
        exact ok_X12_readEntryHead_323 hQ N p1 p2 c6 v4
      · refine l1_many mt_X12_readEntryHead (pc' := 319) (L' := [some (.ref 201), some (.int p1), none, some (.int v3), some (.int v4)]) (st' := [.int (p1 + 20), .int 7, .ref 201]) 5 rfl ?_
        refine l1_callV hQ mt_X12_readEntryHead mt_X12_fails rfl rfl (o := 201) (ci := 11) (As := [.int 7, .int (p1 + 20)]) (rest := []) rfl rfl rfl rfl rfl rfl (st1 := fun x7 => [.int x7]) (fun _ => rfl) (ok_X12_fails hQ c6 7 (p1 + 20)) (fun x7 c8 => ?_)
        refine l1_ck (fun hz => ?_)
        exact l1_retZ mt_X12_readEntryHead rfl rfl rfl hz
    · refine l1_weak (m := [true, true, false, false, true, false]) (L' := [some (.ref 201), some (.int p1), none, none, some (.int v4)]) rfl ?_
      exact ok_X12_readEntryHead_323 hQ N p1 p2 c2 v4
  · refine l1_many mt_X12_readEntryHead (pc' := 284) (L' := [some (.ref 201), some (.int p1), none, some (.int v3), some (.int v4)]) (st' := [.int (p1 + 24), .int 7, .ref 201]) 5 rfl ?_
    refine l1_callV hQ mt_X12_readEntryHead mt_X12_fails rfl rfl (o := 201) (ci := 11) (As := [.int 7, .int (p1 + 24)]) (rest := []) rfl rfl rfl rfl rfl rfl (st1 := fun x9 => [.int x9]) (fun _ => rfl) (ok_X12_fails hQ c2 7 (p1 + 24)) (fun x9 c10 => ?_)
    refine l1_ck (fun hz => ?_)
    exact l1_retZ mt_X12_readEntryHead rfl rfl rfl hz
set_option maxRecDepth 100000 in
theorem ok_X12_readEntryHead_194 {Q : hS → am_H → Prop} (hQ : l1_em km Q) (N : Nat) (p1 : Int32) (p2 : Int32) : ∀ (c : hS) (v3 : Int32) (v4 : Int32) (w0 : Int32), l1_G (wN wI) Q am_i_X12_readEntryHead 194 [some (.ref 201), some (.int p1), none, some (.int v3), some (.int v4)] [.int w0, .ref 201] c (f_X12_readEntryHead_194 N p1 p2 c v3 v4 w0) := by
  intro c v3 v4 w0
  rw [f_X12_readEntryHead_194]
  refine l1_ck (fun hz => ?_)
  refine l1_putI hQ mt_X12_readEntryHead rfl (o := 201) (ci := 11) (k := 18) (a := 0) rfl rfl rfl rfl rfl (l1_fz (ci := 11) (j := 18) rfl hz) (fun c1 => ?_)
  refine l1_many mt_X12_readEntryHead (pc' := 198) (L' := [some (.ref 201), some (.int p1), none, some (.int v3), some (.int v4)]) (st' := [.ref 201]) 1 rfl ?_
  refine l1_getI hQ mt_X12_readEntryHead rfl (o := 201) (ci := 11) (k := 18) (a := 0) (b := 0) rfl rfl rfl rfl rfl ?_
  refine l1_many mt_X12_readEntryHead (pc' := bif am_cc .eq (c1.1 201 18) 0 then 262 else 204) (L' := [some (.ref 201), some (.int p1), none, some (.int v3), some (.int v4)]) (st' := []) 1 rfl ?_
  refine l1_bif rfl ?_ ?_
  · exact ok_X12_readEntryHead_262 hQ N p1 p2 c1 v3 v4
  · refine l1_many mt_X12_readEntryHead (pc' := 212) (L' := [some (.ref 201), some (.int p1), none, some (.int v3), some (.int v4)]) (st' := [.int 7, .int 2, .int (p1 + 10), .ref 201]) 6 rfl ?_
    refine l1_callV hQ mt_X12_readEntryHead mt_X12_isZeroAt rfl rfl (o := 201) (ci := 11) (As := [.int (p1 + 10), .int 2, .int 7]) (rest := []) rfl rfl rfl rfl rfl rfl (st1 := fun x2 => [.int x2]) (fun _ => rfl) (ok_X12_isZeroAt hQ c1 (p1 + 10) 2 7) (fun x2 c3 => ?_)
    refine l1_many mt_X12_readEntryHead (pc' := bif am_cc .eq x2 0 then 260 else 218) (L' := [some (.ref 201), some (.int p1), none, some (.int v3), some (.int v4)]) (st' := []) 1 rfl ?_
    refine l1_bif rfl ?_ ?_
    · refine l1_many mt_X12_readEntryHead (pc' := 261) (L' := [some (.ref 201), some (.int p1), none, some (.int v3), some (.int v4)]) (st' := [.int 0]) 1 rfl ?_
      exact l1_ret mt_X12_readEntryHead rfl rfl rfl
    · refine l1_many mt_X12_readEntryHead (pc' := 226) (L' := [some (.ref 201), some (.int p1), none, some (.int v3), some (.int v4)]) (st' := [.int 7, .int 4, .int (p1 + 16), .ref 201]) 6 rfl ?_
      refine l1_callV hQ mt_X12_readEntryHead mt_X12_isZeroAt rfl rfl (o := 201) (ci := 11) (As := [.int (p1 + 16), .int 4, .int 7]) (rest := []) rfl rfl rfl rfl rfl rfl (st1 := fun x4 => [.int x4]) (fun _ => rfl) (ok_X12_isZeroAt hQ c3 (p1 + 16) 4 7) (fun x4 c5 => ?_)
      refine l1_many mt_X12_readEntryHead (pc' := bif am_cc .eq x4 0 then 260 else 232) (L' := [some (.ref 201), some (.int p1), none, some (.int v3), some (.int v4)]) (st' := []) 1 rfl ?_
      refine l1_bif rfl ?_ ?_
      · refine l1_many mt_X12_readEntryHead (pc' := 261) (L' := [some (.ref 201), some (.int p1), none, some (.int v3), some (.int v4)]) (st' := [.int 0]) 1 rfl ?_
        exact l1_ret mt_X12_readEntryHead rfl rfl rfl
      · refine l1_many mt_X12_readEntryHead (pc' := 240) (L' := [some (.ref 201), some (.int p1), none, some (.int v3), some (.int v4)]) (st' := [.int 7, .int 4, .int (p1 + 20), .ref 201]) 6 rfl ?_
        refine l1_callV hQ mt_X12_readEntryHead mt_X12_isZeroAt rfl rfl (o := 201) (ci := 11) (As := [.int (p1 + 20), .int 4, .int 7]) (rest := []) rfl rfl rfl rfl rfl rfl (st1 := fun x6 => [.int x6]) (fun _ => rfl) (ok_X12_isZeroAt hQ c5 (p1 + 20) 4 7) (fun x6 c7 => ?_)
        refine l1_many mt_X12_readEntryHead (pc' := bif am_cc .eq x6 0 then 260 else 246) (L' := [some (.ref 201), some (.int p1), none, some (.int v3), some (.int v4)]) (st' := []) 1 rfl ?_
        refine l1_bif rfl ?_ ?_
        · refine l1_many mt_X12_readEntryHead (pc' := 261) (L' := [some (.ref 201), some (.int p1), none, some (.int v3), some (.int v4)]) (st' := [.int 0]) 1 rfl ?_
          exact l1_ret mt_X12_readEntryHead rfl rfl rfl
        · refine l1_many mt_X12_readEntryHead (pc' := 254) (L' := [some (.ref 201), some (.int p1), none, some (.int v3), some (.int v4)]) (st' := [.int 7, .int 4, .int (p1 + 24), .ref 201]) 6 rfl ?_
          refine l1_callV hQ mt_X12_readEntryHead mt_X12_isZeroAt rfl rfl (o := 201) (ci := 11) (As := [.int (p1 + 24), .int 4, .int 7]) (rest := []) rfl rfl rfl rfl rfl rfl (st1 := fun x8 => [.int x8]) (fun _ => rfl) (ok_X12_isZeroAt hQ c7 (p1 + 24) 4 7) (fun x8 c9 => ?_)
          refine l1_many mt_X12_readEntryHead (pc' := bif am_cc .ne x8 0 then 262 else 260) (L' := [some (.ref 201), some (.int p1), none, some (.int v3), some (.int v4)]) (st' := []) 1 rfl ?_
          refine l1_bin rfl ?_ ?_
          · refine l1_many mt_X12_readEntryHead (pc' := 261) (L' := [some (.ref 201), some (.int p1), none, some (.int v3), some (.int v4)]) (st' := [.int 0]) 1 rfl ?_
            exact l1_ret mt_X12_readEntryHead rfl rfl rfl
          · exact ok_X12_readEntryHead_262 hQ N p1 p2 c9 v3 v4
set_option maxRecDepth 100000 in
theorem ok_X12_readEntryHead_193 {Q : hS → am_H → Prop} (hQ : l1_em km Q) (N : Nat) (p1 : Int32) (p2 : Int32) : ∀ (c : hS) (v3 : Int32) (v4 : Int32), l1_G (wN wI) Q am_i_X12_readEntryHead 193 [some (.ref 201), some (.int p1), none, some (.int v3), some (.int v4)] [.ref 201] c (f_X12_readEntryHead_193 N p1 p2 c v3 v4) := by
  intro c v3 v4
  rw [f_X12_readEntryHead_193]
  refine l1_many mt_X12_readEntryHead (pc' := 194) (L' := [some (.ref 201), some (.int p1), none, some (.int v3), some (.int v4)]) (st' := [.int 0, .ref 201]) 1 rfl ?_
  exact ok_X12_readEntryHead_194 hQ N p1 p2 c v3 v4 0
set_option maxRecDepth 100000 in
theorem ok_X12_readEntryHead_103 {Q : hS → am_H → Prop} (hQ : l1_em km Q) (N : Nat) (p1 : Int32) (p2 : Int32) : ∀ (c : hS) (v3 : Int32), l1_G (wN wI) Q am_i_X12_readEntryHead 103 [some (.ref 201), some (.int p1), some (.int p2), some (.int v3)] [] c (f_X12_readEntryHead_103 N p1 p2 c v3) := by
  intro c v3
  rw [f_X12_readEntryHead_103]
  refine l1_many mt_X12_readEntryHead (pc' := 111) (L' := [some (.ref 201), some (.int p1), some (.int p2), some (.int v3)]) (st' := [.int 6, .int 2, .int (p1 + 34), .ref 201]) 6 rfl ?_
  refine l1_callV hQ mt_X12_readEntryHead mt_X12_isZeroAt rfl rfl (o := 201) (ci := 11) (As := [.int (p1 + 34), .int 2, .int 6]) (rest := []) rfl rfl rfl rfl rfl rfl (st1 := fun x1 => [.int x1]) (fun _ => rfl) (ok_X12_isZeroAt hQ c (p1 + 34) 2 6) (fun x1 c2 => ?_)
  refine l1_many mt_X12_readEntryHead (pc' := bif am_cc .ne x1 0 then 119 else 117) (L' := [some (.ref 201), some (.int p1), some (.int p2), some (.int v3)]) (st' := []) 1 rfl ?_
  refine l1_bin rfl ?_ ?_
  · refine l1_many mt_X12_readEntryHead (pc' := 118) (L' := [some (.ref 201), some (.int p1), some (.int p2), some (.int v3)]) (st' := [.int 0]) 1 rfl ?_
    exact l1_ret mt_X12_readEntryHead rfl rfl rfl
  · refine l1_many mt_X12_readEntryHead (pc' := 124) (L' := [some (.ref 201), some (.int p1), some (.int p2), some (.int v3)]) (st' := [.int (p1 + 28), .ref 201]) 4 rfl ?_
    refine l1_callV hQ mt_X12_readEntryHead mt_X12_twoAt rfl rfl (o := 201) (ci := 11) (As := [.int (p1 + 28)]) (rest := []) rfl rfl rfl rfl rfl rfl (st1 := fun x3 => [.int x3]) (fun _ => rfl) (ok_X12_twoAt hQ c2 (p1 + 28)) (fun x3 c4 => ?_)
    refine l1_many mt_X12_readEntryHead (pc' := 141) (L' := [some (.ref 201), some (.int p1), some (.int p2), some (.int v3), some (.int x3)]) (st' := [.int (p1 + 30), .ref 201, .int ((p1 + 46) + x3)]) 10 rfl ?_
    refine l1_callV hQ mt_X12_readEntryHead mt_X12_twoAt rfl rfl (o := 201) (ci := 11) (As := [.int (p1 + 30)]) (rest := [.int ((p1 + 46) + x3)]) rfl rfl rfl rfl rfl rfl (st1 := fun x5 => [.int x5, .int ((p1 + 46) + x3)]) (fun _ => rfl) (ok_X12_twoAt hQ c4 (p1 + 30)) (fun x5 c6 => ?_)
    refine l1_many mt_X12_readEntryHead (pc' := 150) (L' := [some (.ref 201), some (.int p1), some (.int p2), some (.int v3), some (.int x3)]) (st' := [.int (p1 + 32), .ref 201, .int (((p1 + 46) + x3) + x5)]) 5 rfl ?_
    refine l1_callV hQ mt_X12_readEntryHead mt_X12_twoAt rfl rfl (o := 201) (ci := 11) (As := [.int (p1 + 32)]) (rest := [.int (((p1 + 46) + x3) + x5)]) rfl rfl rfl rfl rfl rfl (st1 := fun x7 => [.int x7, .int (((p1 + 46) + x3) + x5)]) (fun _ => rfl) (ok_X12_twoAt hQ c6 (p1 + 32)) (fun x7 c8 => ?_)
    refine l1_many mt_X12_readEntryHead (pc' := bif am_cc .le ((((p1 + 46) + x3) + x5) + x7) p2 then 166 else 158) (L' := [some (.ref 201), some (.int p1), some (.int p2), some (.int v3), some (.int x3)]) (st' := []) 3 rfl ?_
    refine l1_bif rfl ?_ ?_
    · refine l1_many mt_X12_readEntryHead (pc' := bif am_cc .le x3 0 then 193 else 172) (L' := [some (.ref 201), some (.int p1), some (.int p2), some (.int v3), some (.int x3)]) (st' := [.ref 201]) 3 rfl ?_
      refine l1_bif rfl ?_ ?_
      · refine l1_weak (m := [true, true, false, true, true, false]) (L' := [some (.ref 201), some (.int p1), none, some (.int v3), some (.int x3)]) rfl ?_
        exact ok_X12_readEntryHead_193 hQ N p1 p2 c8 v3 x3
      · refine l1_many mt_X12_readEntryHead (pc' := 173) (L' := [some (.ref 201), some (.int p1), some (.int p2), some (.int v3), some (.int x3)]) (st' := [.ref 201, .ref 201]) 1 rfl ?_
        refine l1_getR hQ mt_X12_readEntryHead rfl (o := 201) (ci := 11) (k := 3) (a := 0) (b := 0) rfl rfl rfl rfl rfl (q := 203) rfl ?_
        refine l1_many mt_X12_readEntryHead (pc' := 183) (L' := [some (.ref 201), some (.int p1), some (.int p2), some (.int v3), some (.int x3)]) (st' := [.int ((p1 + 45) + x3), .ref 203, .ref 201]) 5 rfl ?_
        refine l1_ck (fun hx => ?_)
        refine l1_ald hQ mt_X12_readEntryHead rfl (o := 203) rfl hx ?_
        refine l1_many mt_X12_readEntryHead (pc' := bif am_cc .ne (c8.1 203 ((p1 + 45) + x3).toNatClampNeg) 47 then 193 else 189) (L' := [some (.ref 201), some (.int p1), some (.int p2), some (.int v3), some (.int x3)]) (st' := [.ref 201]) 2 rfl ?_
        refine l1_bin rfl ?_ ?_
        · refine l1_many mt_X12_readEntryHead (pc' := 194) (L' := [some (.ref 201), some (.int p1), some (.int p2), some (.int v3), some (.int x3)]) (st' := [.int 1, .ref 201]) 2 rfl ?_
          refine l1_weak (m := [true, true, false, true, true, false]) (L' := [some (.ref 201), some (.int p1), none, some (.int v3), some (.int x3)]) rfl ?_
          exact ok_X12_readEntryHead_194 hQ N p1 p2 c8 v3 x3 1
        · refine l1_weak (m := [true, true, false, true, true, false]) (L' := [some (.ref 201), some (.int p1), none, some (.int v3), some (.int x3)]) rfl ?_
          exact ok_X12_readEntryHead_193 hQ N p1 p2 c8 v3 x3
    · refine l1_many mt_X12_readEntryHead (pc' := 162) (L' := [some (.ref 201), some (.int p1), some (.int p2), some (.int v3), some (.int x3)]) (st' := [.int p1, .int 12, .ref 201]) 3 rfl ?_
      refine l1_callV hQ mt_X12_readEntryHead mt_X12_fails rfl rfl (o := 201) (ci := 11) (As := [.int 12, .int p1]) (rest := []) rfl rfl rfl rfl rfl rfl (st1 := fun x9 => [.int x9]) (fun _ => rfl) (ok_X12_fails hQ c8 12 p1) (fun x9 c10 => ?_)
      refine l1_ck (fun hz => ?_)
      exact l1_retZ mt_X12_readEntryHead rfl rfl rfl hz
set_option maxRecDepth 100000 in
theorem en_X12_readEntryHead {Q : hS → am_H → Prop} (hQ : l1_em km Q) (N : Nat) (c : hS) (p1 : Int32) (p2 : Int32) : l1_G (wN wI) Q am_i_X12_readEntryHead 0 [some (.ref 201), some (.int p1), some (.int p2)] [] c (f_X12_readEntryHead N c p1 p2) := by
  rw [f_X12_readEntryHead]
  refine l1_many mt_X12_readEntryHead (pc' := bif am_cc .le (p1 + 46) p2 then 16 else 8) (L' := [some (.ref 201), some (.int p1), some (.int p2)]) (st' := []) 5 rfl ?_
  refine l1_bif rfl ?_ ?_
  · refine l1_many mt_X12_readEntryHead (pc' := 25) (L' := [some (.ref 201), some (.int p1), some (.int p2)]) (st' := [.int 3, .int 2, .int 1, .int 75, .int 80, .int p1, .ref 201]) 7 rfl ?_
    refine l1_callV hQ mt_X12_readEntryHead mt_X12_isRow rfl rfl (o := 201) (ci := 11) (As := [.int p1, .int 80, .int 75, .int 1, .int 2, .int 3]) (rest := []) rfl rfl rfl rfl rfl rfl (st1 := fun x1 => [.int x1]) (fun _ => rfl) (ok_X12_isRow hQ N c p1 80 75 1 2 3) (fun x1 c2 => ?_)
    refine l1_many mt_X12_readEntryHead (pc' := bif am_cc .ne x1 0 then 33 else 31) (L' := [some (.ref 201), some (.int p1), some (.int p2)]) (st' := []) 1 rfl ?_
    refine l1_bin rfl ?_ ?_
    · refine l1_many mt_X12_readEntryHead (pc' := 32) (L' := [some (.ref 201), some (.int p1), some (.int p2)]) (st' := [.int 0]) 1 rfl ?_
      exact l1_ret mt_X12_readEntryHead rfl rfl rfl
    · refine l1_many mt_X12_readEntryHead (pc' := 38) (L' := [some (.ref 201), some (.int p1), some (.int p2)]) (st' := [.int (p1 + 6), .ref 201]) 4 rfl ?_
      refine l1_callV hQ mt_X12_readEntryHead mt_X12_twoAt rfl rfl (o := 201) (ci := 11) (As := [.int (p1 + 6)]) (rest := []) rfl rfl rfl rfl rfl rfl (st1 := fun x3 => [.int x3]) (fun _ => rfl) (ok_X12_twoAt hQ c2 (p1 + 6)) (fun x3 c4 => ?_)
      refine l1_many mt_X12_readEntryHead (pc' := bif am_cc .le x3 20 then 57 else 46) (L' := [some (.ref 201), some (.int p1), some (.int p2)]) (st' := []) 2 rfl ?_
      refine l1_bif rfl ?_ ?_
      · refine l1_many mt_X12_readEntryHead (pc' := 65) (L' := [some (.ref 201), some (.int p1), some (.int p2)]) (st' := [.int 6, .int 2, .int (p1 + 8), .ref 201]) 6 rfl ?_
        refine l1_callV hQ mt_X12_readEntryHead mt_X12_isZeroAt rfl rfl (o := 201) (ci := 11) (As := [.int (p1 + 8), .int 2, .int 6]) (rest := []) rfl rfl rfl rfl rfl rfl (st1 := fun x5 => [.int x5]) (fun _ => rfl) (ok_X12_isZeroAt hQ c4 (p1 + 8) 2 6) (fun x5 c6 => ?_)
        refine l1_many mt_X12_readEntryHead (pc' := bif am_cc .ne x5 0 then 73 else 71) (L' := [some (.ref 201), some (.int p1), some (.int p2)]) (st' := []) 1 rfl ?_
        refine l1_bin rfl ?_ ?_
        · refine l1_many mt_X12_readEntryHead (pc' := 72) (L' := [some (.ref 201), some (.int p1), some (.int p2)]) (st' := [.int 0]) 1 rfl ?_
          exact l1_ret mt_X12_readEntryHead rfl rfl rfl
        · refine l1_many mt_X12_readEntryHead (pc' := 78) (L' := [some (.ref 201), some (.int p1), some (.int p2)]) (st' := [.int (p1 + 10), .ref 201]) 4 rfl ?_
          refine l1_callV hQ mt_X12_readEntryHead mt_X12_twoAt rfl rfl (o := 201) (ci := 11) (As := [.int (p1 + 10)]) (rest := []) rfl rfl rfl rfl rfl rfl (st1 := fun x7 => [.int x7]) (fun _ => rfl) (ok_X12_twoAt hQ c6 (p1 + 10)) (fun x7 c8 => ?_)
          refine l1_many mt_X12_readEntryHead (pc' := bif am_cc .eq x7 0 then 103 else 86) (L' := [some (.ref 201), some (.int p1), some (.int p2), some (.int x7)]) (st' := []) 3 rfl ?_
          refine l1_bif rfl ?_ ?_
          · exact ok_X12_readEntryHead_103 hQ N p1 p2 c8 x7
          · refine l1_many mt_X12_readEntryHead (pc' := bif am_cc .eq x7 8 then 103 else 92) (L' := [some (.ref 201), some (.int p1), some (.int p2), some (.int x7)]) (st' := []) 3 rfl ?_
            refine l1_bif rfl ?_ ?_
            · exact ok_X12_readEntryHead_103 hQ N p1 p2 c8 x7
            · refine l1_many mt_X12_readEntryHead (pc' := 99) (L' := [some (.ref 201), some (.int p1), some (.int p2), some (.int x7)]) (st' := [.int (p1 + 10), .int 8, .ref 201]) 5 rfl ?_
              refine l1_callV hQ mt_X12_readEntryHead mt_X12_fails rfl rfl (o := 201) (ci := 11) (As := [.int 8, .int (p1 + 10)]) (rest := []) rfl rfl rfl rfl rfl rfl (st1 := fun x9 => [.int x9]) (fun _ => rfl) (ok_X12_fails hQ c8 8 (p1 + 10)) (fun x9 c10 => ?_)
              refine l1_ck (fun hz => ?_)
              exact l1_retZ mt_X12_readEntryHead rfl rfl rfl hz
      · refine l1_many mt_X12_readEntryHead (pc' := 53) (L' := [some (.ref 201), some (.int p1), some (.int p2)]) (st' := [.int (p1 + 6), .int 6, .ref 201]) 5 rfl ?_
        refine l1_callV hQ mt_X12_readEntryHead mt_X12_fails rfl rfl (o := 201) (ci := 11) (As := [.int 6, .int (p1 + 6)]) (rest := []) rfl rfl rfl rfl rfl rfl (st1 := fun x11 => [.int x11]) (fun _ => rfl) (ok_X12_fails hQ c4 6 (p1 + 6)) (fun x11 c12 => ?_)
        refine l1_ck (fun hz => ?_)
        exact l1_retZ mt_X12_readEntryHead rfl rfl rfl hz
  · refine l1_many mt_X12_readEntryHead (pc' := 12) (L' := [some (.ref 201), some (.int p1), some (.int p2)]) (st' := [.int p1, .int 12, .ref 201]) 3 rfl ?_
    refine l1_callV hQ mt_X12_readEntryHead mt_X12_fails rfl rfl (o := 201) (ci := 11) (As := [.int 12, .int p1]) (rest := []) rfl rfl rfl rfl rfl rfl (st1 := fun x13 => [.int x13]) (fun _ => rfl) (ok_X12_fails hQ c 12 p1) (fun x13 c14 => ?_)
    refine l1_ck (fun hz => ?_)
    exact l1_retZ mt_X12_readEntryHead rfl rfl rfl hz
theorem ok_X12_readEntryHead {Q : hS → am_H → Prop} (hQ : l1_em km Q) (N : Nat) (c : hS) (p1 : Int32) (p2 : Int32) : l1_T wI Q am_i_X12_readEntryHead [.ref 201, .int p1, .int p2] c (f_X12_readEntryHead N c p1 p2) := l1_of (en_X12_readEntryHead hQ N c p1 p2) ⟨rfl, rfl, rfl, trivial⟩
set_option maxRecDepth 100000 in
theorem ok_X12_isAsThere_35 {Q : hS → am_H → Prop} (hQ : l1_em km Q) (p1 : Int32) (p2 : Int32) (p3 : Int32) : ∀ (c : hS), l1_G (wN wI) Q am_i_X12_isAsThere 35 [some (.ref 201), some (.int p1)] [] c (f_X12_isAsThere_35 p1 p2 p3 c) := by
  intro c
  rw [f_X12_isAsThere_35]
  refine l1_many mt_X12_isAsThere (pc' := 39) (L' := [some (.ref 201), some (.int p1)]) (st' := [.int p1, .int 13, .ref 201]) 3 rfl ?_
  refine l1_callV hQ mt_X12_isAsThere mt_X12_fails rfl rfl (o := 201) (ci := 11) (As := [.int 13, .int p1]) (rest := []) rfl rfl rfl rfl rfl rfl (st1 := fun x1 => [.int x1]) (fun _ => rfl) (ok_X12_fails hQ c 13 p1) (fun x1 c2 => ?_)
  refine l1_many mt_X12_isAsThere (pc' := bif am_cc .eq x1 0 then 49 else 45) (L' := [some (.ref 201), some (.int p1)]) (st' := []) 1 rfl ?_
  refine l1_bif rfl ?_ ?_
  · refine l1_many mt_X12_isAsThere (pc' := 50) (L' := [some (.ref 201), some (.int p1)]) (st' := [.int 0]) 1 rfl ?_
    exact l1_ret mt_X12_isAsThere rfl rfl rfl
  · refine l1_many mt_X12_isAsThere (pc' := 50) (L' := [some (.ref 201), some (.int p1)]) (st' := [.int 1]) 2 rfl ?_
    exact l1_ret mt_X12_isAsThere rfl rfl rfl
set_option maxRecDepth 100000 in
theorem en_X12_isAsThere {Q : hS → am_H → Prop} (hQ : l1_em km Q) (c : hS) (p1 : Int32) (p2 : Int32) (p3 : Int32) : l1_G (wN wI) Q am_i_X12_isAsThere 0 [some (.ref 201), some (.int p1), some (.int p2), some (.int p3)] [] c (f_X12_isAsThere c p1 p2 p3) := by
  rw [f_X12_isAsThere]
  refine l1_many mt_X12_isAsThere (pc' := bif am_cc .ne p3 2 then 21 else 5) (L' := [some (.ref 201), some (.int p1), some (.int p2), some (.int p3)]) (st' := []) 3 rfl ?_
  refine l1_bin rfl ?_ ?_
  · refine l1_many mt_X12_isAsThere (pc' := 7) (L' := [some (.ref 201), some (.int p1), some (.int p2), some (.int p3)]) (st' := [.int p1, .ref 201]) 2 rfl ?_
    refine l1_callV hQ mt_X12_isAsThere mt_X12_twoAt rfl rfl (o := 201) (ci := 11) (As := [.int p1]) (rest := []) rfl rfl rfl rfl rfl rfl (st1 := fun x5 => [.int x5]) (fun _ => rfl) (ok_X12_twoAt hQ c p1) (fun x5 c6 => ?_)
    refine l1_many mt_X12_isAsThere (pc' := 12) (L' := [some (.ref 201), some (.int p1), some (.int p2), some (.int p3)]) (st' := [.int p2, .ref 201, .int x5]) 2 rfl ?_
    refine l1_callV hQ mt_X12_isAsThere mt_X12_twoAt rfl rfl (o := 201) (ci := 11) (As := [.int p2]) (rest := [.int x5]) rfl rfl rfl rfl rfl rfl (st1 := fun x7 => [.int x7, .int x5]) (fun _ => rfl) (ok_X12_twoAt hQ c6 p2) (fun x7 c8 => ?_)
    refine l1_many mt_X12_isAsThere (pc' := bif am_cc .ne x5 x7 then 35 else 18) (L' := [some (.ref 201), some (.int p1), some (.int p2), some (.int p3)]) (st' := []) 1 rfl ?_
    refine l1_bin rfl ?_ ?_
    · refine l1_many mt_X12_isAsThere (pc' := 50) (L' := [some (.ref 201), some (.int p1), some (.int p2), some (.int p3)]) (st' := [.int 1]) 3 rfl ?_
      exact l1_ret mt_X12_isAsThere rfl rfl rfl
    · refine l1_weak (m := [true, true, false, false]) (L' := [some (.ref 201), some (.int p1)]) rfl ?_
      exact ok_X12_isAsThere_35 hQ p1 p2 p3 c8
  · refine l1_many mt_X12_isAsThere (pc' := 23) (L' := [some (.ref 201), some (.int p1), some (.int p2), some (.int p3)]) (st' := [.int p1, .ref 201]) 2 rfl ?_
    refine l1_callV hQ mt_X12_isAsThere mt_X12_fourAt rfl rfl (o := 201) (ci := 11) (As := [.int p1]) (rest := []) rfl rfl rfl rfl rfl rfl (st1 := fun x1 => [.long x1]) (fun _ => rfl) (ok_X12_fourAt hQ c p1) (fun x1 c2 => ?_)
    refine l1_many mt_X12_isAsThere (pc' := 28) (L' := [some (.ref 201), some (.int p1), some (.int p2), some (.int p3)]) (st' := [.int p2, .ref 201, .long x1]) 2 rfl ?_
    refine l1_callV hQ mt_X12_isAsThere mt_X12_fourAt rfl rfl (o := 201) (ci := 11) (As := [.int p2]) (rest := [.long x1]) rfl rfl rfl rfl rfl rfl (st1 := fun x3 => [.long x3, .long x1]) (fun _ => rfl) (ok_X12_fourAt hQ c2 p2) (fun x3 c4 => ?_)
    refine l1_many mt_X12_isAsThere (pc' := bif am_cc .eq (j_cmp x1 x3) 0 then 45 else 35) (L' := [some (.ref 201), some (.int p1), some (.int p2), some (.int p3)]) (st' := []) 2 rfl ?_
    refine l1_bif rfl ?_ ?_
    · refine l1_many mt_X12_isAsThere (pc' := 50) (L' := [some (.ref 201), some (.int p1), some (.int p2), some (.int p3)]) (st' := [.int 1]) 2 rfl ?_
      exact l1_ret mt_X12_isAsThere rfl rfl rfl
    · refine l1_weak (m := [true, true, false, false]) (L' := [some (.ref 201), some (.int p1)]) rfl ?_
      exact ok_X12_isAsThere_35 hQ p1 p2 p3 c4
theorem ok_X12_isAsThere {Q : hS → am_H → Prop} (hQ : l1_em km Q) (c : hS) (p1 : Int32) (p2 : Int32) (p3 : Int32) : l1_T wI Q am_i_X12_isAsThere [.ref 201, .int p1, .int p2, .int p3] c (f_X12_isAsThere c p1 p2 p3) := l1_of (en_X12_isAsThere hQ c p1 p2 p3) ⟨rfl, rfl, rfl, rfl, trivial⟩
set_option maxRecDepth 100000 in
theorem ok_X12_checkMore_6 {Q : hS → am_H → Prop} (hQ : l1_em km Q) (N : Nat) (p0 : Int32) (p1 : Int32) : ∀ n : Nat, ∀ (c : hS) (v2 : Int32) (v3 : Int32), l1_G (wN wI) Q am_i_X12_checkMore 6 [none, none, some (.int v2), some (.int v3)] [] c (f_X12_checkMore_6 N p0 p1 n c v2 v3) := by
  intro n
  induction n with
  | zero => intro c v2 v3; exact l1_none
  | succ n ih =>
    intro c v2 v3
    rw [f_X12_checkMore_6]
    refine l1_many mt_X12_checkMore (pc' := bif am_cc .ge v3 8 then 39 else 12) (L' := [none, none, some (.int v2), some (.int v3)]) (st' := []) 3 rfl ?_
    refine l1_bif rfl ?_ ?_
    · refine l1_many mt_X12_checkMore (pc' := 40) (L' := [none, none, some (.int v2), some (.int v3)]) (st' := [.int v2]) 1 rfl ?_
      exact l1_ret mt_X12_checkMore rfl rfl rfl
    · refine l1_many mt_X12_checkMore (pc' := bif am_cc .ne (v2 &&& 1) 1 then 29 else 19) (L' := [none, none, some (.int v2), some (.int v3)]) (st' := []) 5 rfl ?_
      refine l1_bin rfl ?_ ?_
      · refine l1_many mt_X12_checkMore (pc' := 6) (L' := [none, none, some (.int ((j_ushr v2 1) ^^^ (-306674912))), some (.int (v3 + 1))]) (st' := []) 9 rfl ?_
        exact ih c ((j_ushr v2 1) ^^^ (-306674912)) (v3 + 1)
      · refine l1_many mt_X12_checkMore (pc' := 6) (L' := [none, none, some (.int (j_ushr v2 1)), some (.int (v3 + 1))]) (st' := []) 6 rfl ?_
        exact ih c (j_ushr v2 1) (v3 + 1)
set_option maxRecDepth 100000 in
theorem en_X12_checkMore {Q : hS → am_H → Prop} (hQ : l1_em km Q) (N : Nat) (c : hS) (p0 : Int32) (p1 : Int32) : l1_G (wN wI) Q am_i_X12_checkMore 0 [some (.int p0), some (.int p1)] [] c (f_X12_checkMore N c p0 p1) := by
  rw [f_X12_checkMore]
  refine l1_many mt_X12_checkMore (pc' := 6) (L' := [some (.int p0), some (.int p1), some (.int (p0 ^^^ p1)), some (.int 0)]) (st' := []) 6 rfl ?_
  refine l1_weak (m := [false, false, true, true]) (L' := [none, none, some (.int (p0 ^^^ p1)), some (.int 0)]) rfl ?_
  exact ok_X12_checkMore_6 hQ N p0 p1 N c (p0 ^^^ p1) 0
theorem ok_X12_checkMore {Q : hS → am_H → Prop} (hQ : l1_em km Q) (N : Nat) (c : hS) (p0 : Int32) (p1 : Int32) : l1_T wI Q am_i_X12_checkMore [.int p0, .int p1] c (f_X12_checkMore N c p0 p1) := l1_of (en_X12_checkMore hQ N c p0 p1) ⟨rfl, rfl, trivial⟩
set_option maxRecDepth 100000 in
theorem en_X12_bit {Q : hS → am_H → Prop} (hQ : l1_em km Q) (c : hS) : l1_G (wN wI) Q am_i_X12_bit 0 [some (.ref 201)] [] c (f_X12_bit c) := by
  rw [f_X12_bit]
  refine l1_many mt_X12_bit (pc' := 1) (L' := [some (.ref 201)]) (st' := [.ref 201]) 1 rfl ?_
  refine l1_getI hQ mt_X12_bit rfl (o := 201) (ci := 11) (k := 25) (a := 0) (b := 0) rfl rfl rfl rfl rfl ?_
  refine l1_many mt_X12_bit (pc' := 5) (L' := [some (.ref 201)]) (st' := [.ref 201, .int (c.1 201 25)]) 1 rfl ?_
  refine l1_getI hQ mt_X12_bit rfl (o := 201) (ci := 11) (k := 26) (a := 0) (b := 0) rfl rfl rfl rfl rfl ?_
  refine l1_many mt_X12_bit (pc' := bif am_cc .lt (c.1 201 25) (c.1 201 26) then 27 else 11) (L' := [some (.ref 201)]) (st' := []) 1 rfl ?_
  refine l1_bif rfl ?_ ?_
  · refine l1_many mt_X12_bit (pc' := 28) (L' := [some (.ref 201)]) (st' := [.ref 201]) 1 rfl ?_
    refine l1_getR hQ mt_X12_bit rfl (o := 201) (ci := 11) (k := 3) (a := 0) (b := 0) rfl rfl rfl rfl rfl (q := 203) rfl ?_
    refine l1_many mt_X12_bit (pc' := 32) (L' := [some (.ref 201)]) (st' := [.ref 201, .ref 203]) 1 rfl ?_
    refine l1_getI hQ mt_X12_bit rfl (o := 201) (ci := 11) (k := 25) (a := 0) (b := 0) rfl rfl rfl rfl rfl ?_
    refine l1_many mt_X12_bit (pc' := 38) (L' := [some (.ref 201)]) (st' := [.int ((c.1 201 25) / 8), .ref 203]) 2 rfl ?_
    refine l1_ck (fun hx => ?_)
    refine l1_ald hQ mt_X12_bit rfl (o := 203) rfl hx ?_
    refine l1_many mt_X12_bit (pc' := 40) (L' := [some (.ref 201)]) (st' := [.ref 201, .int (c.1 203 ((c.1 201 25) / 8).toNatClampNeg)]) 1 rfl ?_
    refine l1_getI hQ mt_X12_bit rfl (o := 201) (ci := 11) (k := 25) (a := 0) (b := 0) rfl rfl rfl rfl rfl ?_
    refine l1_many mt_X12_bit (pc' := 52) (L' := [some (.ref 201), some (.int ((j_shr (c.1 203 ((c.1 201 25) / 8).toNatClampNeg) (j_rem (c.1 201 25) 8)) &&& 1))]) (st' := [.ref 201, .ref 201]) 8 rfl ?_
    refine l1_getI hQ mt_X12_bit rfl (o := 201) (ci := 11) (k := 25) (a := 0) (b := 0) rfl rfl rfl rfl rfl ?_
    refine l1_many mt_X12_bit (pc' := 57) (L' := [some (.ref 201), some (.int ((j_shr (c.1 203 ((c.1 201 25) / 8).toNatClampNeg) (j_rem (c.1 201 25) 8)) &&& 1))]) (st' := [.int ((c.1 201 25) + 1), .ref 201]) 2 rfl ?_
    refine l1_putI hQ mt_X12_bit rfl (o := 201) (ci := 11) (k := 25) (a := 0) rfl rfl rfl rfl rfl rfl (fun c1 => ?_)
    refine l1_many mt_X12_bit (pc' := 61) (L' := [some (.ref 201), some (.int ((j_shr (c.1 203 ((c.1 201 25) / 8).toNatClampNeg) (j_rem (c.1 201 25) 8)) &&& 1))]) (st' := [.int ((j_shr (c.1 203 ((c.1 201 25) / 8).toNatClampNeg) (j_rem (c.1 201 25) 8)) &&& 1)]) 1 rfl ?_
    exact l1_ret mt_X12_bit rfl rfl rfl
  · refine l1_many mt_X12_bit (pc' := 15) (L' := [some (.ref 201)]) (st' := [.ref 201, .int 20, .ref 201]) 3 rfl ?_
    refine l1_getI hQ mt_X12_bit rfl (o := 201) (ci := 11) (k := 26) (a := 0) (b := 0) rfl rfl rfl rfl rfl ?_
    refine l1_many mt_X12_bit (pc' := 21) (L' := [some (.ref 201)]) (st' := [.int ((c.1 201 26) / 8), .int 20, .ref 201]) 2 rfl ?_
    refine l1_callV hQ mt_X12_bit mt_X12_fails rfl rfl (o := 201) (ci := 11) (As := [.int 20, .int ((c.1 201 26) / 8)]) (rest := []) rfl rfl rfl rfl rfl rfl (st1 := fun x2 => [.int x2]) (fun _ => rfl) (ok_X12_fails hQ c 20 ((c.1 201 26) / 8)) (fun x2 c3 => ?_)
    refine l1_many mt_X12_bit (pc' := 26) (L' := [some (.ref 201), some (.int x2)]) (st' := [.int 0]) 2 rfl ?_
    exact l1_ret mt_X12_bit rfl rfl rfl
theorem ok_X12_bit {Q : hS → am_H → Prop} (hQ : l1_em km Q) (c : hS) : l1_T wI Q am_i_X12_bit [.ref 201] c (f_X12_bit c) := l1_of (en_X12_bit hQ c) ⟨rfl, trivial⟩
set_option maxRecDepth 100000 in
theorem ok_X12_bits_4 {Q : hS → am_H → Prop} (hQ : l1_em km Q) (N : Nat) (p1 : Int32) : ∀ n : Nat, ∀ (c : hS) (v2 : Int32) (v3 : Int32), l1_G (wN wI) Q am_i_X12_bits 4 [some (.ref 201), some (.int p1), some (.int v2), some (.int v3)] [] c (f_X12_bits_4 N p1 n c v2 v3) := by
  intro n
  induction n with
  | zero => intro c v2 v3; exact l1_none
  | succ n ih =>
    intro c v2 v3
    rw [f_X12_bits_4]
    refine l1_many mt_X12_bits (pc' := bif am_cc .ge v3 p1 then 31 else 9) (L' := [some (.ref 201), some (.int p1), some (.int v2), some (.int v3)]) (st' := []) 3 rfl ?_
    refine l1_bif rfl ?_ ?_
    · refine l1_many mt_X12_bits (pc' := 32) (L' := [some (.ref 201), some (.int p1), some (.int v2), some (.int v3)]) (st' := [.int v2]) 1 rfl ?_
      exact l1_ret mt_X12_bits rfl rfl rfl
    · refine l1_many mt_X12_bits (pc' := 10) (L' := [some (.ref 201), some (.int p1), some (.int v2), some (.int v3)]) (st' := [.ref 201]) 1 rfl ?_
      refine l1_getI hQ mt_X12_bits rfl (o := 201) (ci := 11) (k := 5) (a := 0) (b := 0) rfl rfl rfl rfl rfl ?_
      refine l1_many mt_X12_bits (pc' := bif am_cc .ne (c.1 201 5) 0 then 31 else 16) (L' := [some (.ref 201), some (.int p1), some (.int v2), some (.int v3)]) (st' := []) 1 rfl ?_
      refine l1_bin rfl ?_ ?_
      · refine l1_many mt_X12_bits (pc' := 18) (L' := [some (.ref 201), some (.int p1), some (.int v2), some (.int v3)]) (st' := [.ref 201, .int v2]) 2 rfl ?_
        refine l1_callV hQ mt_X12_bits mt_X12_bit rfl rfl (o := 201) (ci := 11) (As := []) (rest := [.int v2]) rfl rfl rfl rfl rfl rfl (st1 := fun x1 => [.int x1, .int v2]) (fun _ => rfl) (ok_X12_bit hQ c) (fun x1 c2 => ?_)
        refine l1_many mt_X12_bits (pc' := 4) (L' := [some (.ref 201), some (.int p1), some (.int (v2 ||| (j_shl x1 v3))), some (.int (v3 + 1))]) (st' := []) 6 rfl ?_
        exact ih c2 (v2 ||| (j_shl x1 v3)) (v3 + 1)
      · refine l1_many mt_X12_bits (pc' := 32) (L' := [some (.ref 201), some (.int p1), some (.int v2), some (.int v3)]) (st' := [.int v2]) 1 rfl ?_
        exact l1_ret mt_X12_bits rfl rfl rfl
set_option maxRecDepth 100000 in
theorem en_X12_bits {Q : hS → am_H → Prop} (hQ : l1_em km Q) (N : Nat) (c : hS) (p1 : Int32) : l1_G (wN wI) Q am_i_X12_bits 0 [some (.ref 201), some (.int p1)] [] c (f_X12_bits N c p1) := by
  rw [f_X12_bits]
  refine l1_many mt_X12_bits (pc' := 4) (L' := [some (.ref 201), some (.int p1), some (.int 0), some (.int 0)]) (st' := []) 4 rfl ?_
  exact ok_X12_bits_4 hQ N p1 N c 0 0
theorem ok_X12_bits {Q : hS → am_H → Prop} (hQ : l1_em km Q) (N : Nat) (c : hS) (p1 : Int32) : l1_T wI Q am_i_X12_bits [.ref 201, .int p1] c (f_X12_bits N c p1) := l1_of (en_X12_bits hQ N c p1) ⟨rfl, rfl, trivial⟩
set_option maxRecDepth 100000 in
theorem ok_X12_layCodes_19 {Q : hS → am_H → Prop} (hQ : l1_em km Q) (N : Nat) (p1 : Int32) (p2 : Int32) {k5 : hS → Int32 → Int32 → Option (Unit × hS)} (hk5 : ∀ c v3 v4, l1_G (wN wV) Q am_i_X12_layCodes 5 [some (.ref 201), some (.int p1), some (.int p2), some (.int v3), some (.int v4)] [] c (k5 c v3 v4)) : ∀ n : Nat, ∀ (c : hS) (v3 : Int32) (v4 : Int32) (v5 : Int32), l1_G (wN wV) Q am_i_X12_layCodes 19 [some (.ref 201), some (.int p1), some (.int p2), some (.int v3), some (.int v4), some (.int v5)] [] c (f_X12_layCodes_19 N p1 p2 k5 n c v3 v4 v5) := by
  intro n
  induction n with
  | zero => intro c v3 v4 v5; exact l1_none
  | succ n ih =>
    intro c v3 v4 v5
    rw [f_X12_layCodes_19]
    refine l1_many mt_X12_layCodes (pc' := bif am_cc .ge v5 (p1 + p2) then 56 else 27) (L' := [some (.ref 201), some (.int p1), some (.int p2), some (.int v3), some (.int v4), some (.int v5)]) (st' := []) 5 rfl ?_
    refine l1_bif rfl ?_ ?_
    · refine l1_many mt_X12_layCodes (pc' := 5) (L' := [some (.ref 201), some (.int p1), some (.int p2), some (.int v3), some (.int (v4 + 1)), some (.int v5)]) (st' := []) 2 rfl ?_
      refine l1_weak (m := [true, true, true, true, true, false]) (L' := [some (.ref 201), some (.int p1), some (.int p2), some (.int v3), some (.int (v4 + 1))]) rfl ?_
      exact hk5 c v3 (v4 + 1)
    · refine l1_many mt_X12_layCodes (pc' := 28) (L' := [some (.ref 201), some (.int p1), some (.int p2), some (.int v3), some (.int v4), some (.int v5)]) (st' := [.ref 201]) 1 rfl ?_
      refine l1_getR hQ mt_X12_layCodes rfl (o := 201) (ci := 11) (k := 27) (a := 0) (b := 0) rfl rfl rfl rfl rfl (q := 212) rfl ?_
      refine l1_many mt_X12_layCodes (pc' := 33) (L' := [some (.ref 201), some (.int p1), some (.int p2), some (.int v3), some (.int v4), some (.int v5)]) (st' := [.int v5, .ref 212]) 1 rfl ?_
      refine l1_ck (fun hx => ?_)
      refine l1_ald hQ mt_X12_layCodes rfl (o := 212) rfl hx ?_
      refine l1_many mt_X12_layCodes (pc' := bif am_cc .ne (c.1 212 v5.toNatClampNeg) v4 then 50 else 39) (L' := [some (.ref 201), some (.int p1), some (.int p2), some (.int v3), some (.int v4), some (.int v5)]) (st' := []) 2 rfl ?_
      refine l1_bin rfl ?_ ?_
      · refine l1_many mt_X12_layCodes (pc' := 40) (L' := [some (.ref 201), some (.int p1), some (.int p2), some (.int v3), some (.int v4), some (.int v5)]) (st' := [.ref 201]) 1 rfl ?_
        refine l1_getR hQ mt_X12_layCodes rfl (o := 201) (ci := 11) (k := 28) (a := 0) (b := 0) rfl rfl rfl rfl rfl (q := 213) rfl ?_
        refine l1_many mt_X12_layCodes (pc' := 46) (L' := [some (.ref 201), some (.int p1), some (.int p2), some (.int v3), some (.int v4), some (.int v5)]) (st' := [.int v3, .int v5, .ref 213]) 2 rfl ?_
        refine l1_ck (fun hx => ?_)
        refine l1_ast hQ mt_X12_layCodes rfl (o := 213) rfl hx (fun c1 => ?_)
        refine l1_many mt_X12_layCodes (pc' := 19) (L' := [some (.ref 201), some (.int p1), some (.int p2), some (.int (v3 + 1)), some (.int v4), some (.int (v5 + 1))]) (st' := []) 3 rfl ?_
        exact ih c1 (v3 + 1) v4 (v5 + 1)
      · refine l1_many mt_X12_layCodes (pc' := 19) (L' := [some (.ref 201), some (.int p1), some (.int p2), some (.int v3), some (.int v4), some (.int (v5 + 1))]) (st' := []) 2 rfl ?_
        exact ih c v3 v4 (v5 + 1)
set_option maxRecDepth 100000 in
theorem ok_X12_layCodes_5 {Q : hS → am_H → Prop} (hQ : l1_em km Q) (N : Nat) (p1 : Int32) (p2 : Int32) : ∀ n : Nat, ∀ (c : hS) (v3 : Int32) (v4 : Int32), l1_G (wN wV) Q am_i_X12_layCodes 5 [some (.ref 201), some (.int p1), some (.int p2), some (.int v3), some (.int v4)] [] c (f_X12_layCodes_5 N p1 p2 n c v3 v4) := by
  intro n
  induction n with
  | zero => intro c v3 v4; exact l1_none
  | succ n ih =>
    intro c v3 v4
    rw [f_X12_layCodes_5]
    refine l1_many mt_X12_layCodes (pc' := bif am_cc .ge v4 16 then 62 else 12) (L' := [some (.ref 201), some (.int p1), some (.int p2), some (.int v3), some (.int v4)]) (st' := []) 3 rfl ?_
    refine l1_bif rfl ?_ ?_
    · exact l1_ret mt_X12_layCodes rfl rfl rfl
    · refine l1_many mt_X12_layCodes (pc' := 19) (L' := [some (.ref 201), some (.int p1), some (.int p2), some (.int (2 * v3)), some (.int v4), some (.int p1)]) (st' := []) 6 rfl ?_
      exact ok_X12_layCodes_19 hQ N p1 p2 ih N c (2 * v3) v4 p1
set_option maxRecDepth 100000 in
theorem en_X12_layCodes {Q : hS → am_H → Prop} (hQ : l1_em km Q) (N : Nat) (c : hS) (p1 : Int32) (p2 : Int32) : l1_G (wN wV) Q am_i_X12_layCodes 0 [some (.ref 201), some (.int p1), some (.int p2)] [] c (f_X12_layCodes N c p1 p2) := by
  rw [f_X12_layCodes]
  refine l1_many mt_X12_layCodes (pc' := 5) (L' := [some (.ref 201), some (.int p1), some (.int p2), some (.int 0), some (.int 1)]) (st' := []) 4 rfl ?_
  exact ok_X12_layCodes_5 hQ N p1 p2 N c 0 1
theorem ok_X12_layCodes {Q : hS → am_H → Prop} (hQ : l1_em km Q) (N : Nat) (c : hS) (p1 : Int32) (p2 : Int32) : l1_T wV Q am_i_X12_layCodes [.ref 201, .int p1, .int p2] c (f_X12_layCodes N c p1 p2) := l1_of (en_X12_layCodes hQ N c p1 p2) ⟨rfl, rfl, rfl, trivial⟩
set_option maxRecDepth 100000 in
theorem ok_X12_layFixed_61 {Q : hS → am_H → Prop} (hQ : l1_em km Q) (N : Nat) : ∀ n : Nat, ∀ (c : hS) (v1 : Int32), l1_G (wN wV) Q am_i_X12_layFixed 61 [some (.ref 201), some (.int v1)] [] c (f_X12_layFixed_61 N n c v1) := by
  intro n
  induction n with
  | zero => intro c v1; exact l1_none
  | succ n ih =>
    intro c v1
    rw [f_X12_layFixed_61]
    refine l1_many mt_X12_layFixed (pc' := bif am_cc .ge v1 32 then 84 else 67) (L' := [some (.ref 201), some (.int v1)]) (st' := []) 3 rfl ?_
    refine l1_bif rfl ?_ ?_
    · refine l1_many mt_X12_layFixed (pc' := 89) (L' := [some (.ref 201), some (.int v1)]) (st' := [.int 288, .int 0, .ref 201]) 3 rfl ?_
      refine l1_callV hQ mt_X12_layFixed mt_X12_layCodes rfl rfl (o := 201) (ci := 11) (As := [.int 0, .int 288]) (rest := []) rfl rfl rfl rfl rfl rfl (st1 := fun _ => []) (fun _ => rfl) (ok_X12_layCodes hQ N c 0 288) (fun _ c1 => ?_)
      refine l1_many mt_X12_layFixed (pc' := 98) (L' := [some (.ref 201), some (.int v1)]) (st' := [.int 32, .int 300, .ref 201]) 3 rfl ?_
      refine l1_callV hQ mt_X12_layFixed mt_X12_layCodes rfl rfl (o := 201) (ci := 11) (As := [.int 300, .int 32]) (rest := []) rfl rfl rfl rfl rfl rfl (st1 := fun _ => []) (fun _ => rfl) (ok_X12_layCodes hQ N c1 300 32) (fun _ c2 => ?_)
      exact l1_ret mt_X12_layFixed rfl rfl rfl
    · refine l1_many mt_X12_layFixed (pc' := 68) (L' := [some (.ref 201), some (.int v1)]) (st' := [.ref 201]) 1 rfl ?_
      refine l1_getR hQ mt_X12_layFixed rfl (o := 201) (ci := 11) (k := 27) (a := 0) (b := 0) rfl rfl rfl rfl rfl (q := 212) rfl ?_
      refine l1_many mt_X12_layFixed (pc' := 77) (L' := [some (.ref 201), some (.int v1)]) (st' := [.int 5, .int (300 + v1), .ref 212]) 4 rfl ?_
      refine l1_ck (fun hx => ?_)
      refine l1_ast hQ mt_X12_layFixed rfl (o := 212) rfl hx (fun c3 => ?_)
      refine l1_many mt_X12_layFixed (pc' := 61) (L' := [some (.ref 201), some (.int (v1 + 1))]) (st' := []) 2 rfl ?_
      exact ih c3 (v1 + 1)
set_option maxRecDepth 100000 in
theorem ok_X12_layFixed_2 {Q : hS → am_H → Prop} (hQ : l1_em km Q) (N : Nat) : ∀ n : Nat, ∀ (c : hS) (v1 : Int32), l1_G (wN wV) Q am_i_X12_layFixed 2 [some (.ref 201), some (.int v1)] [] c (f_X12_layFixed_2 N n c v1) := by
  intro n
  induction n with
  | zero => intro c v1; exact l1_none
  | succ n ih =>
    intro c v1
    rw [f_X12_layFixed_2]
    refine l1_many mt_X12_layFixed (pc' := bif am_cc .ge v1 288 then 59 else 9) (L' := [some (.ref 201), some (.int v1)]) (st' := []) 3 rfl ?_
    refine l1_bif rfl ?_ ?_
    · refine l1_many mt_X12_layFixed (pc' := 61) (L' := [some (.ref 201), some (.int 0)]) (st' := []) 2 rfl ?_
      exact ok_X12_layFixed_61 hQ N N c 0
    · refine l1_many mt_X12_layFixed (pc' := 10) (L' := [some (.ref 201), some (.int v1)]) (st' := [.ref 201]) 1 rfl ?_
      refine l1_getR hQ mt_X12_layFixed rfl (o := 201) (ci := 11) (k := 27) (a := 0) (b := 0) rfl rfl rfl rfl rfl (q := 212) rfl ?_
      refine l1_many mt_X12_layFixed (pc' := bif am_cc .ge v1 144 then 26 else 21) (L' := [some (.ref 201), some (.int v1)]) (st' := [.int v1, .ref 212]) 4 rfl ?_
      refine l1_bif rfl ?_ ?_
      · refine l1_many mt_X12_layFixed (pc' := bif am_cc .ge v1 256 then 38 else 33) (L' := [some (.ref 201), some (.int v1)]) (st' := [.int v1, .ref 212]) 3 rfl ?_
        refine l1_bif rfl ?_ ?_
        · refine l1_many mt_X12_layFixed (pc' := bif am_cc .ge v1 280 then 50 else 45) (L' := [some (.ref 201), some (.int v1)]) (st' := [.int v1, .ref 212]) 3 rfl ?_
          refine l1_bif rfl ?_ ?_
          · refine l1_many mt_X12_layFixed (pc' := 52) (L' := [some (.ref 201), some (.int v1)]) (st' := [.int 8, .int v1, .ref 212]) 1 rfl ?_
            refine l1_ck (fun hx => ?_)
            refine l1_ast hQ mt_X12_layFixed rfl (o := 212) rfl hx (fun c1 => ?_)
            refine l1_many mt_X12_layFixed (pc' := 2) (L' := [some (.ref 201), some (.int (v1 + 1))]) (st' := []) 2 rfl ?_
            exact ih c1 (v1 + 1)
          · refine l1_many mt_X12_layFixed (pc' := 52) (L' := [some (.ref 201), some (.int v1)]) (st' := [.int 7, .int v1, .ref 212]) 2 rfl ?_
            refine l1_ck (fun hx => ?_)
            refine l1_ast hQ mt_X12_layFixed rfl (o := 212) rfl hx (fun c2 => ?_)
            refine l1_many mt_X12_layFixed (pc' := 2) (L' := [some (.ref 201), some (.int (v1 + 1))]) (st' := []) 2 rfl ?_
            exact ih c2 (v1 + 1)
        · refine l1_many mt_X12_layFixed (pc' := 52) (L' := [some (.ref 201), some (.int v1)]) (st' := [.int 9, .int v1, .ref 212]) 2 rfl ?_
          refine l1_ck (fun hx => ?_)
          refine l1_ast hQ mt_X12_layFixed rfl (o := 212) rfl hx (fun c3 => ?_)
          refine l1_many mt_X12_layFixed (pc' := 2) (L' := [some (.ref 201), some (.int (v1 + 1))]) (st' := []) 2 rfl ?_
          exact ih c3 (v1 + 1)
      · refine l1_many mt_X12_layFixed (pc' := 52) (L' := [some (.ref 201), some (.int v1)]) (st' := [.int 8, .int v1, .ref 212]) 2 rfl ?_
        refine l1_ck (fun hx => ?_)
        refine l1_ast hQ mt_X12_layFixed rfl (o := 212) rfl hx (fun c4 => ?_)
        refine l1_many mt_X12_layFixed (pc' := 2) (L' := [some (.ref 201), some (.int (v1 + 1))]) (st' := []) 2 rfl ?_
        exact ih c4 (v1 + 1)
set_option maxRecDepth 100000 in
theorem en_X12_layFixed {Q : hS → am_H → Prop} (hQ : l1_em km Q) (N : Nat) (c : hS) : l1_G (wN wV) Q am_i_X12_layFixed 0 [some (.ref 201)] [] c (f_X12_layFixed N c) := by
  rw [f_X12_layFixed]
  refine l1_many mt_X12_layFixed (pc' := 2) (L' := [some (.ref 201), some (.int 0)]) (st' := []) 2 rfl ?_
  exact ok_X12_layFixed_2 hQ N N c 0
theorem ok_X12_layFixed {Q : hS → am_H → Prop} (hQ : l1_em km Q) (N : Nat) (c : hS) : l1_T wV Q am_i_X12_layFixed [.ref 201] c (f_X12_layFixed N c) := l1_of (en_X12_layFixed hQ N c) ⟨rfl, trivial⟩
set_option maxRecDepth 100000 in
theorem en_X12_add {Q : hS → am_H → Prop} (hQ : l1_em km Q) (c : hS) (p1 : Int32) (p2 : Int32) : l1_G (wN wI) Q am_i_X12_add 0 [some (.ref 201), some (.int p1), some (.int p2)] [] c (f_X12_add c p1 p2) := by
  rw [f_X12_add]
  refine l1_many mt_X12_add (pc' := 1) (L' := [some (.ref 201), some (.int p1), some (.int p2)]) (st' := [.ref 201]) 1 rfl ?_
  refine l1_getI hQ mt_X12_add rfl (o := 201) (ci := 11) (k := 23) (a := 0) (b := 0) rfl rfl rfl rfl rfl ?_
  refine l1_many mt_X12_add (pc' := 5) (L' := [some (.ref 201), some (.int p1), some (.int p2)]) (st' := [.ref 201, .int (c.1 201 23)]) 1 rfl ?_
  refine l1_getI hQ mt_X12_add rfl (o := 201) (ci := 11) (k := 24) (a := 0) (b := 0) rfl rfl rfl rfl rfl ?_
  refine l1_many mt_X12_add (pc' := bif am_cc .ne (c.1 201 23) (c.1 201 24) then 19 else 11) (L' := [some (.ref 201), some (.int p1), some (.int p2)]) (st' := []) 1 rfl ?_
  refine l1_bin rfl ?_ ?_
  · refine l1_many mt_X12_add (pc' := 15) (L' := [some (.ref 201), some (.int p1), some (.int p2)]) (st' := [.int p2, .int 23, .ref 201]) 3 rfl ?_
    refine l1_callV hQ mt_X12_add mt_X12_fails rfl rfl (o := 201) (ci := 11) (As := [.int 23, .int p2]) (rest := []) rfl rfl rfl rfl rfl rfl (st1 := fun x3 => [.int x3]) (fun _ => rfl) (ok_X12_fails hQ c 23 p2) (fun x3 c4 => ?_)
    refine l1_ck (fun hz => ?_)
    exact l1_retZ mt_X12_add rfl rfl rfl hz
  · refine l1_many mt_X12_add (pc' := 20) (L' := [some (.ref 201), some (.int p1), some (.int p2)]) (st' := [.ref 201]) 1 rfl ?_
    refine l1_getR hQ mt_X12_add rfl (o := 201) (ci := 11) (k := 22) (a := 0) (b := 0) rfl rfl rfl rfl rfl (q := 211) rfl ?_
    refine l1_many mt_X12_add (pc' := 24) (L' := [some (.ref 201), some (.int p1), some (.int p2)]) (st' := [.ref 201, .ref 211]) 1 rfl ?_
    refine l1_getI hQ mt_X12_add rfl (o := 201) (ci := 11) (k := 23) (a := 0) (b := 0) rfl rfl rfl rfl rfl ?_
    refine l1_many mt_X12_add (pc' := 28) (L' := [some (.ref 201), some (.int p1), some (.int p2)]) (st' := [.int p1, .int (c.1 201 23), .ref 211]) 1 rfl ?_
    refine l1_ck (fun hx => ?_)
    refine l1_ast hQ mt_X12_add rfl (o := 211) rfl hx (fun c1 => ?_)
    refine l1_many mt_X12_add (pc' := 31) (L' := [some (.ref 201), some (.int p1), some (.int p2)]) (st' := [.ref 201, .ref 201]) 2 rfl ?_
    refine l1_getI hQ mt_X12_add rfl (o := 201) (ci := 11) (k := 23) (a := 0) (b := 0) rfl rfl rfl rfl rfl ?_
    refine l1_many mt_X12_add (pc' := 36) (L' := [some (.ref 201), some (.int p1), some (.int p2)]) (st' := [.int ((c1.1 201 23) + 1), .ref 201]) 2 rfl ?_
    refine l1_putI hQ mt_X12_add rfl (o := 201) (ci := 11) (k := 23) (a := 0) rfl rfl rfl rfl rfl rfl (fun c2 => ?_)
    refine l1_many mt_X12_add (pc' := 40) (L' := [some (.ref 201), some (.int p1), some (.int p2)]) (st' := [.int 1]) 1 rfl ?_
    exact l1_ret mt_X12_add rfl rfl rfl
theorem ok_X12_add {Q : hS → am_H → Prop} (hQ : l1_em km Q) (c : hS) (p1 : Int32) (p2 : Int32) : l1_T wI Q am_i_X12_add [.ref 201, .int p1, .int p2] c (f_X12_add c p1 p2) := l1_of (en_X12_add hQ c p1 p2) ⟨rfl, rfl, rfl, trivial⟩
set_option maxRecDepth 100000 in
theorem ok_X12_plain_60 {Q : hS → am_H → Prop} (hQ : l1_em km Q) (N : Nat) (p1 : Int32) : ∀ n : Nat, ∀ (c : hS) (v2 : Int32) (v4 : Int32), l1_G (wN wI) Q am_i_X12_plain 60 [some (.ref 201), none, some (.int v2), none, some (.int v4)] [] c (f_X12_plain_60 N p1 n c v2 v4) := by
  intro n
  induction n with
  | zero => intro c v2 v4; exact l1_none
  | succ n ih =>
    intro c v2 v4
    rw [f_X12_plain_60]
    refine l1_many mt_X12_plain (pc' := bif am_cc .ge v4 v2 then 109 else 66) (L' := [some (.ref 201), none, some (.int v2), none, some (.int v4)]) (st' := []) 3 rfl ?_
    refine l1_bif rfl ?_ ?_
    · refine l1_many mt_X12_plain (pc' := 110) (L' := [some (.ref 201), none, some (.int v2), none, some (.int v4)]) (st' := [.int 1]) 1 rfl ?_
      exact l1_ret mt_X12_plain rfl rfl rfl
    · refine l1_many mt_X12_plain (pc' := 67) (L' := [some (.ref 201), none, some (.int v2), none, some (.int v4)]) (st' := [.ref 201]) 1 rfl ?_
      refine l1_getI hQ mt_X12_plain rfl (o := 201) (ci := 11) (k := 25) (a := 0) (b := 0) rfl rfl rfl rfl rfl ?_
      refine l1_many mt_X12_plain (pc' := 78) (L' := [some (.ref 201), none, some (.int v2), none, some (.int v4), some (.int ((c.1 201 25) / 8))]) (st' := [.int 8, .ref 201]) 5 rfl ?_
      refine l1_callV hQ mt_X12_plain mt_X12_bits rfl rfl (o := 201) (ci := 11) (As := [.int 8]) (rest := []) rfl rfl rfl rfl rfl rfl (st1 := fun x1 => [.int x1]) (fun _ => rfl) (ok_X12_bits hQ N c 8) (fun x1 c2 => ?_)
      refine l1_many mt_X12_plain (pc' := 84) (L' := [some (.ref 201), none, some (.int v2), none, some (.int v4), some (.int ((c.1 201 25) / 8)), some (.int x1)]) (st' := [.ref 201]) 2 rfl ?_
      refine l1_getI hQ mt_X12_plain rfl (o := 201) (ci := 11) (k := 5) (a := 0) (b := 0) rfl rfl rfl rfl rfl ?_
      refine l1_many mt_X12_plain (pc' := bif am_cc .ne (c2.1 201 5) 0 then 101 else 90) (L' := [some (.ref 201), none, some (.int v2), none, some (.int v4), some (.int ((c.1 201 25) / 8)), some (.int x1)]) (st' := []) 1 rfl ?_
      refine l1_bin rfl ?_ ?_
      · refine l1_many mt_X12_plain (pc' := 95) (L' := [some (.ref 201), none, some (.int v2), none, some (.int v4), some (.int ((c.1 201 25) / 8)), some (.int x1)]) (st' := [.int ((c.1 201 25) / 8), .int x1, .ref 201]) 3 rfl ?_
        refine l1_callV hQ mt_X12_plain mt_X12_add rfl rfl (o := 201) (ci := 11) (As := [.int x1, .int ((c.1 201 25) / 8)]) (rest := []) rfl rfl rfl rfl rfl rfl (st1 := fun x3 => [.int x3]) (fun _ => rfl) (ok_X12_add hQ c2 x1 ((c.1 201 25) / 8)) (fun x3 c4 => ?_)
        refine l1_many mt_X12_plain (pc' := bif am_cc .ne x3 0 then 103 else 101) (L' := [some (.ref 201), none, some (.int v2), none, some (.int v4), some (.int ((c.1 201 25) / 8)), some (.int x1)]) (st' := []) 1 rfl ?_
        refine l1_bin rfl ?_ ?_
        · refine l1_many mt_X12_plain (pc' := 102) (L' := [some (.ref 201), none, some (.int v2), none, some (.int v4), some (.int ((c.1 201 25) / 8)), some (.int x1)]) (st' := [.int 0]) 1 rfl ?_
          exact l1_ret mt_X12_plain rfl rfl rfl
        · refine l1_many mt_X12_plain (pc' := 60) (L' := [some (.ref 201), none, some (.int v2), none, some (.int (v4 + 1)), some (.int ((c.1 201 25) / 8)), some (.int x1)]) (st' := []) 2 rfl ?_
          refine l1_weak (m := [true, false, true, false, true, false, false]) (L' := [some (.ref 201), none, some (.int v2), none, some (.int (v4 + 1))]) rfl ?_
          exact ih c4 v2 (v4 + 1)
      · refine l1_many mt_X12_plain (pc' := 102) (L' := [some (.ref 201), none, some (.int v2), none, some (.int v4), some (.int ((c.1 201 25) / 8)), some (.int x1)]) (st' := [.int 0]) 1 rfl ?_
        exact l1_ret mt_X12_plain rfl rfl rfl
set_option maxRecDepth 100000 in
theorem en_X12_plain {Q : hS → am_H → Prop} (hQ : l1_em km Q) (N : Nat) (c : hS) (p1 : Int32) : l1_G (wN wI) Q am_i_X12_plain 0 [some (.ref 201), some (.int p1)] [] c (f_X12_plain N c p1) := by
  rw [f_X12_plain]
  refine l1_many mt_X12_plain (pc' := 2) (L' := [some (.ref 201), some (.int p1)]) (st' := [.ref 201, .ref 201]) 2 rfl ?_
  refine l1_getI hQ mt_X12_plain rfl (o := 201) (ci := 11) (k := 25) (a := 0) (b := 0) rfl rfl rfl rfl rfl ?_
  refine l1_many mt_X12_plain (pc' := 14) (L' := [some (.ref 201), some (.int p1)]) (st' := [.int ((((c.1 201 25) + 7) / 8) * 8), .ref 201]) 6 rfl ?_
  refine l1_putI hQ mt_X12_plain rfl (o := 201) (ci := 11) (k := 25) (a := 0) rfl rfl rfl rfl rfl rfl (fun c1 => ?_)
  refine l1_many mt_X12_plain (pc' := 20) (L' := [some (.ref 201), some (.int p1)]) (st' := [.int 16, .ref 201]) 2 rfl ?_
  refine l1_callV hQ mt_X12_plain mt_X12_bits rfl rfl (o := 201) (ci := 11) (As := [.int 16]) (rest := []) rfl rfl rfl rfl rfl rfl (st1 := fun x2 => [.int x2]) (fun _ => rfl) (ok_X12_bits hQ N c1 16) (fun x2 c3 => ?_)
  refine l1_many mt_X12_plain (pc' := 27) (L' := [some (.ref 201), some (.int p1), some (.int x2)]) (st' := [.int 16, .ref 201]) 3 rfl ?_
  refine l1_callV hQ mt_X12_plain mt_X12_bits rfl rfl (o := 201) (ci := 11) (As := [.int 16]) (rest := []) rfl rfl rfl rfl rfl rfl (st1 := fun x4 => [.int x4]) (fun _ => rfl) (ok_X12_bits hQ N c3 16) (fun x4 c5 => ?_)
  refine l1_many mt_X12_plain (pc' := 32) (L' := [some (.ref 201), some (.int p1), some (.int x2), some (.int x4)]) (st' := [.ref 201]) 2 rfl ?_
  refine l1_getI hQ mt_X12_plain rfl (o := 201) (ci := 11) (k := 5) (a := 0) (b := 0) rfl rfl rfl rfl rfl ?_
  refine l1_many mt_X12_plain (pc' := bif am_cc .eq (c5.1 201 5) 0 then 40 else 38) (L' := [some (.ref 201), some (.int p1), some (.int x2), some (.int x4)]) (st' := []) 1 rfl ?_
  refine l1_bif rfl ?_ ?_
  · refine l1_many mt_X12_plain (pc' := bif am_cc .eq (x2 + x4) 65535 then 57 else 49) (L' := [some (.ref 201), some (.int p1), some (.int x2), some (.int x4)]) (st' := []) 5 rfl ?_
    refine l1_bif rfl ?_ ?_
    · refine l1_many mt_X12_plain (pc' := 60) (L' := [some (.ref 201), some (.int p1), some (.int x2), some (.int x4), some (.int 0)]) (st' := []) 2 rfl ?_
      refine l1_weak (m := [true, false, true, false, true, false, false]) (L' := [some (.ref 201), none, some (.int x2), none, some (.int 0)]) rfl ?_
      exact ok_X12_plain_60 hQ N p1 N c5 x2 0
    · refine l1_many mt_X12_plain (pc' := 53) (L' := [some (.ref 201), some (.int p1), some (.int x2), some (.int x4)]) (st' := [.int p1, .int 22, .ref 201]) 3 rfl ?_
      refine l1_callV hQ mt_X12_plain mt_X12_fails rfl rfl (o := 201) (ci := 11) (As := [.int 22, .int p1]) (rest := []) rfl rfl rfl rfl rfl rfl (st1 := fun x6 => [.int x6]) (fun _ => rfl) (ok_X12_fails hQ c5 22 p1) (fun x6 c7 => ?_)
      refine l1_ck (fun hz => ?_)
      exact l1_retZ mt_X12_plain rfl rfl rfl hz
  · refine l1_many mt_X12_plain (pc' := 39) (L' := [some (.ref 201), some (.int p1), some (.int x2), some (.int x4)]) (st' := [.int 0]) 1 rfl ?_
    exact l1_ret mt_X12_plain rfl rfl rfl
theorem ok_X12_plain {Q : hS → am_H → Prop} (hQ : l1_em km Q) (N : Nat) (c : hS) (p1 : Int32) : l1_T wI Q am_i_X12_plain [.ref 201, .int p1] c (f_X12_plain N c p1) := l1_of (en_X12_plain hQ N c p1) ⟨rfl, rfl, trivial⟩
set_option maxRecDepth 100000 in
theorem ok_X12_fullness_5 {Q : hS → am_H → Prop} (hQ : l1_em km Q) (N : Nat) (p1 : Int32) (p2 : Int32) : ∀ n : Nat, ∀ (c : hS) (v3 : Int32) (v4 : Int32), l1_G (wN wI) Q am_i_X12_fullness 5 [some (.ref 201), some (.int p1), some (.int p2), some (.int v3), some (.int v4)] [] c (f_X12_fullness_5 N p1 p2 n c v3 v4) := by
  intro n
  induction n with
  | zero => intro c v3 v4; exact l1_none
  | succ n ih =>
    intro c v3 v4
    rw [f_X12_fullness_5]
    refine l1_many mt_X12_fullness (pc' := bif am_cc .ge v4 (p1 + p2) then 47 else 13) (L' := [some (.ref 201), some (.int p1), some (.int p2), some (.int v3), some (.int v4)]) (st' := []) 5 rfl ?_
    refine l1_bif rfl ?_ ?_
    · refine l1_many mt_X12_fullness (pc' := 48) (L' := [some (.ref 201), some (.int p1), some (.int p2), some (.int v3), some (.int v4)]) (st' := [.int v3]) 1 rfl ?_
      exact l1_ret mt_X12_fullness rfl rfl rfl
    · refine l1_many mt_X12_fullness (pc' := 15) (L' := [some (.ref 201), some (.int p1), some (.int p2), some (.int v3), some (.int v4)]) (st' := [.ref 201, .int v3]) 2 rfl ?_
      refine l1_getR hQ mt_X12_fullness rfl (o := 201) (ci := 11) (k := 27) (a := 0) (b := 0) rfl rfl rfl rfl rfl (q := 212) rfl ?_
      refine l1_many mt_X12_fullness (pc' := 20) (L' := [some (.ref 201), some (.int p1), some (.int p2), some (.int v3), some (.int v4)]) (st' := [.int v4, .ref 212, .int v3]) 1 rfl ?_
      refine l1_ck (fun hx => ?_)
      refine l1_ald hQ mt_X12_fullness rfl (o := 212) rfl hx ?_
      refine l1_many mt_X12_fullness (pc' := bif am_cc .le (c.1 212 v4.toNatClampNeg) 0 then 38 else 24) (L' := [some (.ref 201), some (.int p1), some (.int p2), some (.int v3), some (.int v4)]) (st' := [.int v3]) 1 rfl ?_
      refine l1_bif rfl ?_ ?_
      · refine l1_many mt_X12_fullness (pc' := 5) (L' := [some (.ref 201), some (.int p1), some (.int p2), some (.int (v3 + 0)), some (.int (v4 + 1))]) (st' := []) 5 rfl ?_
        exact ih c (v3 + 0) (v4 + 1)
      · refine l1_many mt_X12_fullness (pc' := 28) (L' := [some (.ref 201), some (.int p1), some (.int p2), some (.int v3), some (.int v4)]) (st' := [.ref 201, .int 32768, .int v3]) 2 rfl ?_
        refine l1_getR hQ mt_X12_fullness rfl (o := 201) (ci := 11) (k := 27) (a := 0) (b := 0) rfl rfl rfl rfl rfl (q := 212) rfl ?_
        refine l1_many mt_X12_fullness (pc' := 33) (L' := [some (.ref 201), some (.int p1), some (.int p2), some (.int v3), some (.int v4)]) (st' := [.int v4, .ref 212, .int 32768, .int v3]) 1 rfl ?_
        refine l1_ck (fun hx => ?_)
        refine l1_ald hQ mt_X12_fullness rfl (o := 212) rfl hx ?_
        refine l1_many mt_X12_fullness (pc' := 5) (L' := [some (.ref 201), some (.int p1), some (.int p2), some (.int (v3 + (j_shr 32768 (c.1 212 v4.toNatClampNeg)))), some (.int (v4 + 1))]) (st' := []) 6 rfl ?_
        exact ih c (v3 + (j_shr 32768 (c.1 212 v4.toNatClampNeg))) (v4 + 1)
set_option maxRecDepth 100000 in
theorem en_X12_fullness {Q : hS → am_H → Prop} (hQ : l1_em km Q) (N : Nat) (c : hS) (p1 : Int32) (p2 : Int32) : l1_G (wN wI) Q am_i_X12_fullness 0 [some (.ref 201), some (.int p1), some (.int p2)] [] c (f_X12_fullness N c p1 p2) := by
  rw [f_X12_fullness]
  refine l1_many mt_X12_fullness (pc' := 5) (L' := [some (.ref 201), some (.int p1), some (.int p2), some (.int 0), some (.int p1)]) (st' := []) 4 rfl ?_
  exact ok_X12_fullness_5 hQ N p1 p2 N c 0 p1
theorem ok_X12_fullness {Q : hS → am_H → Prop} (hQ : l1_em km Q) (N : Nat) (c : hS) (p1 : Int32) (p2 : Int32) : l1_T wI Q am_i_X12_fullness [.ref 201, .int p1, .int p2] c (f_X12_fullness N c p1 p2) := l1_of (en_X12_fullness hQ N c p1 p2) ⟨rfl, rfl, rfl, trivial⟩
set_option maxRecDepth 100000 in
theorem en_X12_order {Q : hS → am_H → Prop} (hQ : l1_em km Q) (c : hS) (p1 : Int32) : l1_G (wN wI) Q am_i_X12_order 0 [some (.ref 201), some (.int p1)] [] c (f_X12_order c p1) := by
  rw [f_X12_order]
  refine l1_many mt_X12_order (pc' := bif am_cc .ge p1 3 then 12 else 5) (L' := [some (.ref 201), some (.int p1)]) (st' := []) 3 rfl ?_
  refine l1_bif rfl ?_ ?_
  · refine l1_many mt_X12_order (pc' := bif am_cc .ne p1 3 then 21 else 17) (L' := [some (.ref 201), some (.int p1)]) (st' := []) 3 rfl ?_
    refine l1_bin rfl ?_ ?_
    · refine l1_many mt_X12_order (pc' := 46) (L' := [some (.ref 201), some (.int p1)]) (st' := [.int 0]) 2 rfl ?_
      exact l1_ret mt_X12_order rfl rfl rfl
    · refine l1_many mt_X12_order (pc' := bif am_cc .ne (j_rem p1 2) 0 then 38 else 27) (L' := [some (.ref 201), some (.int p1)]) (st' := []) 4 rfl ?_
      refine l1_bin rfl ?_ ?_
      · refine l1_many mt_X12_order (pc' := 46) (L' := [some (.ref 201), some (.int p1)]) (st' := [.int (8 + ((p1 - 4) / 2))]) 8 rfl ?_
        exact l1_ret mt_X12_order rfl rfl rfl
      · refine l1_many mt_X12_order (pc' := 46) (L' := [some (.ref 201), some (.int p1)]) (st' := [.int (7 - ((p1 - 5) / 2))]) 7 rfl ?_
        exact l1_ret mt_X12_order rfl rfl rfl
  · refine l1_many mt_X12_order (pc' := 46) (L' := [some (.ref 201), some (.int p1)]) (st' := [.int (16 + p1)]) 4 rfl ?_
    exact l1_ret mt_X12_order rfl rfl rfl
theorem ok_X12_order {Q : hS → am_H → Prop} (hQ : l1_em km Q) (c : hS) (p1 : Int32) : l1_T wI Q am_i_X12_order [.ref 201, .int p1] c (f_X12_order c p1) := l1_of (en_X12_order hQ c p1) ⟨rfl, rfl, trivial⟩
set_option maxRecDepth 100000 in
theorem ok_X12_symbol_83 {Q : hS → am_H → Prop} (hQ : l1_em km Q) (N : Nat) (p1 : Int32) (p2 : Int32) {k48 : hS → Int32 → Int32 → Int32 → Option (Int32 × hS)} (hk48 : ∀ c v3 v4 v5, l1_G (wN wI) Q am_i_X12_symbol 48 [some (.ref 201), some (.int p1), some (.int p2), some (.int v3), some (.int v4), some (.int v5)] [] c (k48 c v3 v4 v5)) : ∀ n : Nat, ∀ (c : hS) (v3 : Int32) (v4 : Int32) (v5 : Int32) (v6 : Int32), l1_G (wN wI) Q am_i_X12_symbol 83 [some (.ref 201), some (.int p1), some (.int p2), some (.int v3), some (.int v4), some (.int v5), some (.int v6)] [] c (f_X12_symbol_83 N p1 p2 k48 n c v3 v4 v5 v6) := by
  intro n
  induction n with
  | zero => intro c v3 v4 v5 v6; exact l1_none
  | succ n ih =>
    intro c v3 v4 v5 v6
    rw [f_X12_symbol_83]
    refine l1_many mt_X12_symbol (pc' := bif am_cc .ge v6 (p1 + p2) then 126 else 91) (L' := [some (.ref 201), some (.int p1), some (.int p2), some (.int v3), some (.int v4), some (.int v5), some (.int v6)]) (st' := []) 5 rfl ?_
    refine l1_bif rfl ?_ ?_
    · refine l1_many mt_X12_symbol (pc' := 48) (L' := [some (.ref 201), some (.int p1), some (.int p2), some (.int v3), some (.int v4), some (.int (v5 + 1)), some (.int v6)]) (st' := []) 2 rfl ?_
      refine l1_weak (m := [true, true, true, true, true, true, false]) (L' := [some (.ref 201), some (.int p1), some (.int p2), some (.int v3), some (.int v4), some (.int (v5 + 1))]) rfl ?_
      exact hk48 c v3 v4 (v5 + 1)
    · refine l1_many mt_X12_symbol (pc' := 92) (L' := [some (.ref 201), some (.int p1), some (.int p2), some (.int v3), some (.int v4), some (.int v5), some (.int v6)]) (st' := [.ref 201]) 1 rfl ?_
      refine l1_getR hQ mt_X12_symbol rfl (o := 201) (ci := 11) (k := 27) (a := 0) (b := 0) rfl rfl rfl rfl rfl (q := 212) rfl ?_
      refine l1_many mt_X12_symbol (pc' := 97) (L' := [some (.ref 201), some (.int p1), some (.int p2), some (.int v3), some (.int v4), some (.int v5), some (.int v6)]) (st' := [.int v6, .ref 212]) 1 rfl ?_
      refine l1_ck (fun hx => ?_)
      refine l1_ald hQ mt_X12_symbol rfl (o := 212) rfl hx ?_
      refine l1_many mt_X12_symbol (pc' := bif am_cc .ne (c.1 212 v6.toNatClampNeg) v5 then 120 else 103) (L' := [some (.ref 201), some (.int p1), some (.int p2), some (.int v3), some (.int v4), some (.int v5), some (.int v6)]) (st' := []) 2 rfl ?_
      refine l1_bin rfl ?_ ?_
      · refine l1_many mt_X12_symbol (pc' := 104) (L' := [some (.ref 201), some (.int p1), some (.int p2), some (.int v3), some (.int v4), some (.int v5), some (.int v6)]) (st' := [.ref 201]) 1 rfl ?_
        refine l1_getR hQ mt_X12_symbol rfl (o := 201) (ci := 11) (k := 28) (a := 0) (b := 0) rfl rfl rfl rfl rfl (q := 213) rfl ?_
        refine l1_many mt_X12_symbol (pc' := 109) (L' := [some (.ref 201), some (.int p1), some (.int p2), some (.int v3), some (.int v4), some (.int v5), some (.int v6)]) (st' := [.int v6, .ref 213]) 1 rfl ?_
        refine l1_ck (fun hx => ?_)
        refine l1_ald hQ mt_X12_symbol rfl (o := 213) rfl hx ?_
        refine l1_many mt_X12_symbol (pc' := bif am_cc .ne (c.1 213 v6.toNatClampNeg) v4 then 120 else 115) (L' := [some (.ref 201), some (.int p1), some (.int p2), some (.int v3), some (.int v4), some (.int v5), some (.int v6)]) (st' := []) 2 rfl ?_
        refine l1_bin rfl ?_ ?_
        · refine l1_many mt_X12_symbol (pc' := 119) (L' := [some (.ref 201), some (.int p1), some (.int p2), some (.int v3), some (.int v4), some (.int v5), some (.int v6)]) (st' := [.int (v6 - p1)]) 3 rfl ?_
          exact l1_ret mt_X12_symbol rfl rfl rfl
        · refine l1_many mt_X12_symbol (pc' := 83) (L' := [some (.ref 201), some (.int p1), some (.int p2), some (.int v3), some (.int v4), some (.int v5), some (.int (v6 + 1))]) (st' := []) 2 rfl ?_
          exact ih c v3 v4 v5 (v6 + 1)
      · refine l1_many mt_X12_symbol (pc' := 83) (L' := [some (.ref 201), some (.int p1), some (.int p2), some (.int v3), some (.int v4), some (.int v5), some (.int (v6 + 1))]) (st' := []) 2 rfl ?_
        exact ih c v3 v4 v5 (v6 + 1)
set_option maxRecDepth 100000 in
theorem ok_X12_symbol_60 {Q : hS → am_H → Prop} (hQ : l1_em km Q) (N : Nat) (p1 : Int32) (p2 : Int32) {k48 : hS → Int32 → Int32 → Int32 → Option (Int32 × hS)} (hk48 : ∀ c v3 v4 v5, l1_G (wN wI) Q am_i_X12_symbol 48 [some (.ref 201), some (.int p1), some (.int p2), some (.int v3), some (.int v4), some (.int v5)] [] c (k48 c v3 v4 v5)) : ∀ (c : hS) (v3 : Int32) (v4 : Int32) (v5 : Int32), l1_G (wN wI) Q am_i_X12_symbol 60 [some (.ref 201), some (.int p1), some (.int p2), some (.int v3), some (.int v4), some (.int v5)] [] c (f_X12_symbol_60 N p1 p2 k48 c v3 v4 v5) := by
  intro c v3 v4 v5
  rw [f_X12_symbol_60]
  refine l1_many mt_X12_symbol (pc' := 65) (L' := [some (.ref 201), some (.int p1), some (.int p2), some (.int v3), some (.int v4), some (.int v5)]) (st' := [.ref 201, .int (j_shl v4 1)]) 4 rfl ?_
  refine l1_callV hQ mt_X12_symbol mt_X12_bit rfl rfl (o := 201) (ci := 11) (As := []) (rest := [.int (j_shl v4 1)]) rfl rfl rfl rfl rfl rfl (st1 := fun x1 => [.int x1, .int (j_shl v4 1)]) (fun _ => rfl) (ok_X12_bit hQ c) (fun x1 c2 => ?_)
  refine l1_many mt_X12_symbol (pc' := 72) (L' := [some (.ref 201), some (.int p1), some (.int p2), some (.int v3), some (.int ((j_shl v4 1) ||| x1)), some (.int v5)]) (st' := [.ref 201]) 3 rfl ?_
  refine l1_getI hQ mt_X12_symbol rfl (o := 201) (ci := 11) (k := 5) (a := 0) (b := 0) rfl rfl rfl rfl rfl ?_
  refine l1_many mt_X12_symbol (pc' := bif am_cc .eq (c2.1 201 5) 0 then 80 else 78) (L' := [some (.ref 201), some (.int p1), some (.int p2), some (.int v3), some (.int ((j_shl v4 1) ||| x1)), some (.int v5)]) (st' := []) 1 rfl ?_
  refine l1_bif rfl ?_ ?_
  · refine l1_many mt_X12_symbol (pc' := 83) (L' := [some (.ref 201), some (.int p1), some (.int p2), some (.int v3), some (.int ((j_shl v4 1) ||| x1)), some (.int v5), some (.int p1)]) (st' := []) 2 rfl ?_
    exact ok_X12_symbol_83 hQ N p1 p2 hk48 N c2 v3 ((j_shl v4 1) ||| x1) v5 p1
  · refine l1_many mt_X12_symbol (pc' := 79) (L' := [some (.ref 201), some (.int p1), some (.int p2), some (.int v3), some (.int ((j_shl v4 1) ||| x1)), some (.int v5)]) (st' := [.int (-1)]) 1 rfl ?_
    exact l1_ret mt_X12_symbol rfl rfl rfl
set_option maxRecDepth 100000 in
theorem ok_X12_symbol_48 {Q : hS → am_H → Prop} (hQ : l1_em km Q) (N : Nat) (p1 : Int32) (p2 : Int32) : ∀ n : Nat, ∀ (c : hS) (v3 : Int32) (v4 : Int32) (v5 : Int32), l1_G (wN wI) Q am_i_X12_symbol 48 [some (.ref 201), some (.int p1), some (.int p2), some (.int v3), some (.int v4), some (.int v5)] [] c (f_X12_symbol_48 N p1 p2 n c v3 v4 v5) := by
  intro n
  induction n with
  | zero => intro c v3 v4 v5; exact l1_none
  | succ n ih =>
    intro c v3 v4 v5
    rw [f_X12_symbol_48]
    refine l1_many mt_X12_symbol (pc' := bif am_cc .le v5 v3 then 60 else 54) (L' := [some (.ref 201), some (.int p1), some (.int p2), some (.int v3), some (.int v4), some (.int v5)]) (st' := []) 3 rfl ?_
    refine l1_bif rfl ?_ ?_
    · exact ok_X12_symbol_60 hQ N p1 p2 ih c v3 v4 v5
    · refine l1_many mt_X12_symbol (pc' := bif am_cc .ne v5 1 then 132 else 60) (L' := [some (.ref 201), some (.int p1), some (.int p2), some (.int v3), some (.int v4), some (.int v5)]) (st' := []) 3 rfl ?_
      refine l1_bin rfl ?_ ?_
      · exact ok_X12_symbol_60 hQ N p1 p2 ih c v3 v4 v5
      · refine l1_many mt_X12_symbol (pc' := 134) (L' := [some (.ref 201), some (.int p1), some (.int p2), some (.int v3), some (.int v4), some (.int v5)]) (st' := [.int (-2)]) 1 rfl ?_
        exact l1_ret mt_X12_symbol rfl rfl rfl
set_option maxRecDepth 100000 in
theorem ok_X12_symbol_5 {Q : hS → am_H → Prop} (hQ : l1_em km Q) (N : Nat) (p1 : Int32) (p2 : Int32) : ∀ n : Nat, ∀ (c : hS) (v3 : Int32) (v4 : Int32), l1_G (wN wI) Q am_i_X12_symbol 5 [some (.ref 201), some (.int p1), some (.int p2), some (.int v3), some (.int v4)] [] c (f_X12_symbol_5 N p1 p2 n c v3 v4) := by
  intro n
  induction n with
  | zero => intro c v3 v4; exact l1_none
  | succ n ih =>
    intro c v3 v4
    rw [f_X12_symbol_5]
    refine l1_many mt_X12_symbol (pc' := bif am_cc .ge v4 (p1 + p2) then 42 else 13) (L' := [some (.ref 201), some (.int p1), some (.int p2), some (.int v3), some (.int v4)]) (st' := []) 5 rfl ?_
    refine l1_bif rfl ?_ ?_
    · refine l1_many mt_X12_symbol (pc' := 48) (L' := [some (.ref 201), some (.int p1), some (.int p2), some (.int v3), some (.int 0), some (.int 1)]) (st' := []) 4 rfl ?_
      exact ok_X12_symbol_48 hQ N p1 p2 N c v3 0 1
    · refine l1_many mt_X12_symbol (pc' := 14) (L' := [some (.ref 201), some (.int p1), some (.int p2), some (.int v3), some (.int v4)]) (st' := [.ref 201]) 1 rfl ?_
      refine l1_getR hQ mt_X12_symbol rfl (o := 201) (ci := 11) (k := 27) (a := 0) (b := 0) rfl rfl rfl rfl rfl (q := 212) rfl ?_
      refine l1_many mt_X12_symbol (pc' := 19) (L' := [some (.ref 201), some (.int p1), some (.int p2), some (.int v3), some (.int v4)]) (st' := [.int v4, .ref 212]) 1 rfl ?_
      refine l1_ck (fun hx => ?_)
      refine l1_ald hQ mt_X12_symbol rfl (o := 212) rfl hx ?_
      refine l1_many mt_X12_symbol (pc' := bif am_cc .le (c.1 212 v4.toNatClampNeg) v3 then 34 else 24) (L' := [some (.ref 201), some (.int p1), some (.int p2), some (.int v3), some (.int v4)]) (st' := []) 2 rfl ?_
      refine l1_bif rfl ?_ ?_
      · refine l1_many mt_X12_symbol (pc' := 5) (L' := [some (.ref 201), some (.int p1), some (.int p2), some (.int v3), some (.int (v4 + 1))]) (st' := []) 4 rfl ?_
        exact ih c v3 (v4 + 1)
      · refine l1_many mt_X12_symbol (pc' := 25) (L' := [some (.ref 201), some (.int p1), some (.int p2), some (.int v3), some (.int v4)]) (st' := [.ref 201]) 1 rfl ?_
        refine l1_getR hQ mt_X12_symbol rfl (o := 201) (ci := 11) (k := 27) (a := 0) (b := 0) rfl rfl rfl rfl rfl (q := 212) rfl ?_
        refine l1_many mt_X12_symbol (pc' := 30) (L' := [some (.ref 201), some (.int p1), some (.int p2), some (.int v3), some (.int v4)]) (st' := [.int v4, .ref 212]) 1 rfl ?_
        refine l1_ck (fun hx => ?_)
        refine l1_ald hQ mt_X12_symbol rfl (o := 212) rfl hx ?_
        refine l1_many mt_X12_symbol (pc' := 5) (L' := [some (.ref 201), some (.int p1), some (.int p2), some (.int (c.1 212 v4.toNatClampNeg)), some (.int (v4 + 1))]) (st' := []) 4 rfl ?_
        exact ih c (c.1 212 v4.toNatClampNeg) (v4 + 1)
set_option maxRecDepth 100000 in
theorem en_X12_symbol {Q : hS → am_H → Prop} (hQ : l1_em km Q) (N : Nat) (c : hS) (p1 : Int32) (p2 : Int32) : l1_G (wN wI) Q am_i_X12_symbol 0 [some (.ref 201), some (.int p1), some (.int p2)] [] c (f_X12_symbol N c p1 p2) := by
  rw [f_X12_symbol]
  refine l1_many mt_X12_symbol (pc' := 5) (L' := [some (.ref 201), some (.int p1), some (.int p2), some (.int 0), some (.int p1)]) (st' := []) 4 rfl ?_
  exact ok_X12_symbol_5 hQ N p1 p2 N c 0 p1
theorem ok_X12_symbol {Q : hS → am_H → Prop} (hQ : l1_em km Q) (N : Nat) (c : hS) (p1 : Int32) (p2 : Int32) : l1_T wI Q am_i_X12_symbol [.ref 201, .int p1, .int p2] c (f_X12_symbol N c p1 p2) := l1_of (en_X12_symbol hQ N c p1 p2) ⟨rfl, rfl, rfl, trivial⟩
