/-! THAT THE MACHINE FOLLOWS THEM, printed by gen_l1.py -/
set_option maxRecDepth 100000 in
theorem ok_X12_isBlank_4 {Q : hS → am_H → Prop} (hQ : l1_em km Q) (N : Nat) (p1 : Int32) : ∀ n : Nat, ∀ (c : hS) (v2 : Int32) (v3 : Int32), l1_G (wN wI) Q am_i_X12_isBlank 4 [some (.ref 201), some (.int p1), some (.int v2), some (.int v3)] [] c (f_X12_isBlank_4 N p1 n c v2 v3) := by
  intro n
  induction n with
  | zero => intro c v2 v3; exact l1_none
  | succ n ih =>
    intro c v2 v3
    rw [f_X12_isBlank_4]
    refine l1_many mt_X12_isBlank (pc' := bif am_cc .ge v3 512 then 38 else 11) (L' := [some (.ref 201), some (.int p1), some (.int v2), some (.int v3)]) (st' := []) 3 rfl ?_
    refine l1_bif rfl ?_ ?_
    · refine l1_many mt_X12_isBlank (pc' := 39) (L' := [some (.ref 201), some (.int p1), some (.int v2), some (.int v3)]) (st' := [.int v2]) 1 rfl ?_
      refine l1_ck (fun hz => ?_)
      exact l1_retZ mt_X12_isBlank rfl rfl rfl hz
    · refine l1_many mt_X12_isBlank (pc' := bif am_cc .eq v2 0 then 30 else 15) (L' := [some (.ref 201), some (.int p1), some (.int v2), some (.int v3)]) (st' := []) 2 rfl ?_
      refine l1_bif rfl ?_ ?_
      · refine l1_many mt_X12_isBlank (pc' := 4) (L' := [some (.ref 201), some (.int p1), some (.int 0), some (.int (v3 + 1))]) (st' := []) 4 rfl ?_
        exact ih c 0 (v3 + 1)
      · refine l1_many mt_X12_isBlank (pc' := 16) (L' := [some (.ref 201), some (.int p1), some (.int v2), some (.int v3)]) (st' := [.ref 201]) 1 rfl ?_
        refine l1_getR hQ mt_X12_isBlank rfl (o := 201) (ci := 11) (k := 3) (a := 0) (b := 0) rfl rfl rfl rfl rfl (q := 203) rfl ?_
        refine l1_many mt_X12_isBlank (pc' := 22) (L' := [some (.ref 201), some (.int p1), some (.int v2), some (.int v3)]) (st' := [.int (p1 + v3), .ref 203]) 3 rfl ?_
        refine l1_ck (fun hx => ?_)
        refine l1_ald hQ mt_X12_isBlank rfl (o := 203) rfl hx ?_
        refine l1_many mt_X12_isBlank (pc' := bif am_cc .ne (c.1 203 (p1 + v3).toNatClampNeg) 0 then 30 else 26) (L' := [some (.ref 201), some (.int p1), some (.int v2), some (.int v3)]) (st' := []) 1 rfl ?_
        refine l1_bin rfl ?_ ?_
        · refine l1_many mt_X12_isBlank (pc' := 4) (L' := [some (.ref 201), some (.int p1), some (.int 1), some (.int (v3 + 1))]) (st' := []) 5 rfl ?_
          exact ih c 1 (v3 + 1)
        · refine l1_many mt_X12_isBlank (pc' := 4) (L' := [some (.ref 201), some (.int p1), some (.int 0), some (.int (v3 + 1))]) (st' := []) 4 rfl ?_
          exact ih c 0 (v3 + 1)
set_option maxRecDepth 100000 in
theorem en_X12_isBlank {Q : hS → am_H → Prop} (hQ : l1_em km Q) (N : Nat) (c : hS) (p1 : Int32) : l1_G (wN wI) Q am_i_X12_isBlank 0 [some (.ref 201), some (.int p1)] [] c (f_X12_isBlank N c p1) := by
  rw [f_X12_isBlank]
  refine l1_many mt_X12_isBlank (pc' := 4) (L' := [some (.ref 201), some (.int p1), some (.int 1), some (.int 0)]) (st' := []) 4 rfl ?_
  exact ok_X12_isBlank_4 hQ N p1 N c 1 0
theorem ok_X12_isBlank {Q : hS → am_H → Prop} (hQ : l1_em km Q) (N : Nat) (c : hS) (p1 : Int32) : l1_T wI Q am_i_X12_isBlank [.ref 201, .int p1] c (f_X12_isBlank N c p1) := l1_of (en_X12_isBlank hQ N c p1) ⟨rfl, rfl, trivial⟩
set_option maxRecDepth 100000 in
theorem ok_X12_readBlocks_2 {Q : hS → am_H → Prop} (hQ : l1_em km Q) (N : Nat) : ∀ n : Nat, ∀ (c : hS) (v1 : Int32), l1_G (wN wI) Q am_i_X12_readBlocks 2 [some (.ref 201), some (.int v1)] [] c (f_X12_readBlocks_2 N n c v1) := by
  intro n
  induction n with
  | zero => intro c v1; exact l1_none
  | succ n ih =>
    intro c v1
    rw [f_X12_readBlocks_2]
    refine l1_many mt_X12_readBlocks (pc' := 9) (L' := [some (.ref 201), some (.int v1)]) (st' := [.long ((v1 + 512).toInt64), .ref 201]) 5 rfl ?_
    refine l1_callV hQ mt_X12_readBlocks mt_X12_reaches rfl rfl (o := 201) (ci := 11) (As := [.long ((v1 + 512).toInt64)]) (rest := []) rfl rfl rfl rfl rfl rfl (st1 := fun x1 => [.int x1]) (fun _ => rfl) (ok_X12_reaches hQ c ((v1 + 512).toInt64)) (fun x1 c2 => ?_)
    refine l1_many mt_X12_readBlocks (pc' := bif am_cc .ne x1 0 then 17 else 15) (L' := [some (.ref 201), some (.int v1)]) (st' := []) 1 rfl ?_
    refine l1_bin rfl ?_ ?_
    · refine l1_many mt_X12_readBlocks (pc' := 16) (L' := [some (.ref 201), some (.int v1)]) (st' := [.int 0]) 1 rfl ?_
      exact l1_ret mt_X12_readBlocks rfl rfl rfl
    · refine l1_many mt_X12_readBlocks (pc' := 19) (L' := [some (.ref 201), some (.int v1)]) (st' := [.int v1, .ref 201]) 2 rfl ?_
      refine l1_callV hQ mt_X12_readBlocks mt_X12_isBlank rfl rfl (o := 201) (ci := 11) (As := [.int v1]) (rest := []) rfl rfl rfl rfl rfl rfl (st1 := fun x3 => [.int x3]) (fun _ => rfl) (ok_X12_isBlank hQ N c2 v1) (fun x3 c4 => ?_)
      refine l1_many mt_X12_readBlocks (pc' := bif am_cc .eq x3 0 then 56 else 25) (L' := [some (.ref 201), some (.int v1)]) (st' := []) 1 rfl ?_
      refine l1_bif rfl ?_ ?_
      · refine l1_many mt_X12_readBlocks (pc' := 58) (L' := [some (.ref 201), some (.int v1)]) (st' := [.int v1, .ref 201]) 2 rfl ?_
        refine l1_callV hQ mt_X12_readBlocks mt_X12_readBlockHead rfl rfl (o := 201) (ci := 11) (As := [.int v1]) (rest := []) rfl rfl rfl rfl rfl rfl (st1 := fun x5 => [.int x5]) (fun _ => rfl) (ok_X12_readBlockHead hQ N c4 v1) (fun x5 c6 => ?_)
        refine l1_many mt_X12_readBlocks (pc' := bif am_cc .ne x5 0 then 66 else 64) (L' := [some (.ref 201), some (.int v1)]) (st' := []) 1 rfl ?_
        refine l1_bin rfl ?_ ?_
        · refine l1_many mt_X12_readBlocks (pc' := 65) (L' := [some (.ref 201), some (.int v1)]) (st' := [.int 0]) 1 rfl ?_
          exact l1_ret mt_X12_readBlocks rfl rfl rfl
        · refine l1_many mt_X12_readBlocks (pc' := 72) (L' := [some (.ref 201), some (.int v1)]) (st' := [.ref 201, .int (v1 + 512)]) 4 rfl ?_
          refine l1_getI hQ mt_X12_readBlocks rfl (o := 201) (ci := 11) (k := 16) (a := 0) (b := 0) rfl rfl rfl rfl rfl ?_
          refine l1_many mt_X12_readBlocks (pc' := 92) (L' := [some (.ref 201), some (.int v1), some (.int ((v1 + 512) + ((((c6.1 201 16) + 511) / 512) * 512)))]) (st' := [.long (((v1 + 512) + ((((c6.1 201 16) + 511) / 512) * 512)).toInt64), .ref 201]) 11 rfl ?_
          refine l1_callV hQ mt_X12_readBlocks mt_X12_reaches rfl rfl (o := 201) (ci := 11) (As := [.long (((v1 + 512) + ((((c6.1 201 16) + 511) / 512) * 512)).toInt64)]) (rest := []) rfl rfl rfl rfl rfl rfl (st1 := fun x7 => [.int x7]) (fun _ => rfl) (ok_X12_reaches hQ c6 (((v1 + 512) + ((((c6.1 201 16) + 511) / 512) * 512)).toInt64)) (fun x7 c8 => ?_)
          refine l1_many mt_X12_readBlocks (pc' := bif am_cc .ne x7 0 then 100 else 98) (L' := [some (.ref 201), some (.int v1), some (.int ((v1 + 512) + ((((c6.1 201 16) + 511) / 512) * 512)))]) (st' := []) 1 rfl ?_
          refine l1_bin rfl ?_ ?_
          · refine l1_many mt_X12_readBlocks (pc' := 99) (L' := [some (.ref 201), some (.int v1), some (.int ((v1 + 512) + ((((c6.1 201 16) + 511) / 512) * 512)))]) (st' := [.int 0]) 1 rfl ?_
            exact l1_ret mt_X12_readBlocks rfl rfl rfl
          · refine l1_many mt_X12_readBlocks (pc' := 107) (L' := [some (.ref 201), some (.int v1), some (.int ((v1 + 512) + ((((c6.1 201 16) + 511) / 512) * 512)))]) (st' := [.ref 201, .int (v1 + 512), .ref 201]) 5 rfl ?_
            refine l1_getI hQ mt_X12_readBlocks rfl (o := 201) (ci := 11) (k := 16) (a := 0) (b := 0) rfl rfl rfl rfl rfl ?_
            refine l1_callV hQ mt_X12_readBlocks mt_X12_takeBytes rfl rfl (o := 201) (ci := 11) (As := [.int (v1 + 512), .int (c8.1 201 16)]) (rest := []) rfl rfl rfl rfl rfl rfl (st1 := fun _ => []) (fun _ => rfl) (ok_X12_takeBytes hQ N c8 (v1 + 512) (c8.1 201 16)) (fun _ c9 => ?_)
            refine l1_many mt_X12_readBlocks (pc' := 115) (L' := [some (.ref 201), some (.int v1), some (.int ((v1 + 512) + ((((c6.1 201 16) + 511) / 512) * 512)))]) (st' := [.int v1, .ref 201]) 2 rfl ?_
            refine l1_callV hQ mt_X12_readBlocks mt_X12_comes rfl rfl (o := 201) (ci := 11) (As := [.int v1]) (rest := []) rfl rfl rfl rfl rfl rfl (st1 := fun x10 => [.int x10]) (fun _ => rfl) (ok_X12_comes hQ N c9 v1) (fun x10 c11 => ?_)
            refine l1_many mt_X12_readBlocks (pc' := bif am_cc .ne x10 0 then 123 else 121) (L' := [some (.ref 201), some (.int v1), some (.int ((v1 + 512) + ((((c6.1 201 16) + 511) / 512) * 512)))]) (st' := []) 1 rfl ?_
            refine l1_bin rfl ?_ ?_
            · refine l1_many mt_X12_readBlocks (pc' := 122) (L' := [some (.ref 201), some (.int v1), some (.int ((v1 + 512) + ((((c6.1 201 16) + 511) / 512) * 512)))]) (st' := [.int 0]) 1 rfl ?_
              exact l1_ret mt_X12_readBlocks rfl rfl rfl
            · refine l1_many mt_X12_readBlocks (pc' := 2) (L' := [some (.ref 201), some (.int ((v1 + 512) + ((((c6.1 201 16) + 511) / 512) * 512))), some (.int ((v1 + 512) + ((((c6.1 201 16) + 511) / 512) * 512)))]) (st' := []) 3 rfl ?_
              refine l1_weak (m := [true, true, false]) (L' := [some (.ref 201), some (.int ((v1 + 512) + ((((c6.1 201 16) + 511) / 512) * 512)))]) rfl ?_
              exact ih c11 ((v1 + 512) + ((((c6.1 201 16) + 511) / 512) * 512))
      · refine l1_many mt_X12_readBlocks (pc' := 32) (L' := [some (.ref 201), some (.int v1)]) (st' := [.long ((v1 + 1024).toInt64), .ref 201]) 5 rfl ?_
        refine l1_callV hQ mt_X12_readBlocks mt_X12_reaches rfl rfl (o := 201) (ci := 11) (As := [.long ((v1 + 1024).toInt64)]) (rest := []) rfl rfl rfl rfl rfl rfl (st1 := fun x12 => [.int x12]) (fun _ => rfl) (ok_X12_reaches hQ c4 ((v1 + 1024).toInt64)) (fun x12 c13 => ?_)
        refine l1_many mt_X12_readBlocks (pc' := bif am_cc .eq x12 0 then 54 else 38) (L' := [some (.ref 201), some (.int v1)]) (st' := []) 1 rfl ?_
        refine l1_bif rfl ?_ ?_
        · refine l1_many mt_X12_readBlocks (pc' := 55) (L' := [some (.ref 201), some (.int v1)]) (st' := [.int 0]) 1 rfl ?_
          exact l1_ret mt_X12_readBlocks rfl rfl rfl
        · refine l1_many mt_X12_readBlocks (pc' := 44) (L' := [some (.ref 201), some (.int v1)]) (st' := [.int (v1 + 512), .ref 201]) 4 rfl ?_
          refine l1_callV hQ mt_X12_readBlocks mt_X12_areZeros rfl rfl (o := 201) (ci := 11) (As := [.int (v1 + 512)]) (rest := []) rfl rfl rfl rfl rfl rfl (st1 := fun x14 => [.int x14]) (fun _ => rfl) (ok_X12_areZeros hQ N c13 (v1 + 512)) (fun x14 c15 => ?_)
          refine l1_many mt_X12_readBlocks (pc' := bif am_cc .eq x14 0 then 54 else 50) (L' := [some (.ref 201), some (.int v1)]) (st' := []) 1 rfl ?_
          refine l1_bif rfl ?_ ?_
          · refine l1_many mt_X12_readBlocks (pc' := 55) (L' := [some (.ref 201), some (.int v1)]) (st' := [.int 0]) 1 rfl ?_
            exact l1_ret mt_X12_readBlocks rfl rfl rfl
          · refine l1_many mt_X12_readBlocks (pc' := 55) (L' := [some (.ref 201), some (.int v1)]) (st' := [.int 1]) 2 rfl ?_
            exact l1_ret mt_X12_readBlocks rfl rfl rfl
set_option maxRecDepth 100000 in
theorem en_X12_readBlocks {Q : hS → am_H → Prop} (hQ : l1_em km Q) (N : Nat) (c : hS) : l1_G (wN wI) Q am_i_X12_readBlocks 0 [some (.ref 201)] [] c (f_X12_readBlocks N c) := by
  rw [f_X12_readBlocks]
  refine l1_many mt_X12_readBlocks (pc' := 2) (L' := [some (.ref 201), some (.int 0)]) (st' := []) 2 rfl ?_
  exact ok_X12_readBlocks_2 hQ N N c 0
theorem ok_X12_readBlocks {Q : hS → am_H → Prop} (hQ : l1_em km Q) (N : Nat) (c : hS) : l1_T wI Q am_i_X12_readBlocks [.ref 201] c (f_X12_readBlocks N c) := l1_of (en_X12_readBlocks hQ N c) ⟨rfl, trivial⟩
set_option maxRecDepth 100000 in
theorem en_X12_digitOf {Q : hS → am_H → Prop} (hQ : l1_em km Q) (c : hS) (p0 : Int32) : l1_G (wN wI) Q am_i_X12_digitOf 0 [some (.int p0)] [] c (f_X12_digitOf c p0) := by
  rw [f_X12_digitOf]
  refine l1_many mt_X12_digitOf (pc' := 8) (L' := [some (.int p0)]) (st' := [.long 57, .long 48, .long p0.toInt64]) 4 rfl ?_
  refine l1_callS mt_X12_digitOf mt_X12_in rfl rfl (As := [.long p0.toInt64, .long 48, .long 57]) (rest := []) rfl rfl rfl (st1 := fun x1 => [.int x1]) (fun _ => rfl) (ok_X12_in hQ c p0.toInt64 48 57) (fun x1 c2 => ?_)
  refine l1_many mt_X12_digitOf (pc' := bif am_cc .eq x1 0 then 21 else 14) (L' := [some (.int p0)]) (st' := []) 1 rfl ?_
  refine l1_bif rfl ?_ ?_
  · refine l1_many mt_X12_digitOf (pc' := 29) (L' := [some (.int p0)]) (st' := [.long 102, .long 97, .long p0.toInt64]) 4 rfl ?_
    refine l1_callS mt_X12_digitOf mt_X12_in rfl rfl (As := [.long p0.toInt64, .long 97, .long 102]) (rest := []) rfl rfl rfl (st1 := fun x3 => [.int x3]) (fun _ => rfl) (ok_X12_in hQ c2 p0.toInt64 97 102) (fun x3 c4 => ?_)
    refine l1_many mt_X12_digitOf (pc' := bif am_cc .eq x3 0 then 42 else 35) (L' := [some (.int p0)]) (st' := []) 1 rfl ?_
    refine l1_bif rfl ?_ ?_
    · refine l1_many mt_X12_digitOf (pc' := 50) (L' := [some (.int p0)]) (st' := [.long 70, .long 65, .long p0.toInt64]) 4 rfl ?_
      refine l1_callS mt_X12_digitOf mt_X12_in rfl rfl (As := [.long p0.toInt64, .long 65, .long 70]) (rest := []) rfl rfl rfl (st1 := fun x5 => [.int x5]) (fun _ => rfl) (ok_X12_in hQ c4 p0.toInt64 65 70) (fun x5 c6 => ?_)
      refine l1_many mt_X12_digitOf (pc' := bif am_cc .eq x5 0 then 63 else 56) (L' := [some (.int p0)]) (st' := []) 1 rfl ?_
      refine l1_bif rfl ?_ ?_
      · refine l1_many mt_X12_digitOf (pc' := 64) (L' := [some (.int p0)]) (st' := [.int (-1)]) 1 rfl ?_
        exact l1_ret mt_X12_digitOf rfl rfl rfl
      · refine l1_many mt_X12_digitOf (pc' := 64) (L' := [some (.int p0)]) (st' := [.int (p0 - 55)]) 4 rfl ?_
        exact l1_ret mt_X12_digitOf rfl rfl rfl
    · refine l1_many mt_X12_digitOf (pc' := 64) (L' := [some (.int p0)]) (st' := [.int (p0 - 87)]) 4 rfl ?_
      exact l1_ret mt_X12_digitOf rfl rfl rfl
  · refine l1_many mt_X12_digitOf (pc' := 64) (L' := [some (.int p0)]) (st' := [.int (p0 - 48)]) 4 rfl ?_
    exact l1_ret mt_X12_digitOf rfl rfl rfl
theorem ok_X12_digitOf {Q : hS → am_H → Prop} (hQ : l1_em km Q) (c : hS) (p0 : Int32) : l1_T wI Q am_i_X12_digitOf [.int p0] c (f_X12_digitOf c p0) := l1_of (en_X12_digitOf hQ c p0) ⟨rfl, trivial⟩
set_option maxRecDepth 100000 in
theorem ok_X12_hexAt_5 {Q : hS → am_H → Prop} (hQ : l1_em km Q) (N : Nat) (p1 : Int32) : ∀ n : Nat, ∀ (c : hS) (v2 : Int64) (v4 : Int32), l1_G (wN wL) Q am_i_X12_hexAt 5 [some (.ref 201), some (.int p1), some (.long v2), none, some (.int v4)] [] c (f_X12_hexAt_5 N p1 n c v2 v4) := by
  intro n
  induction n with
  | zero => intro c v2 v4; exact l1_none
  | succ n ih =>
    intro c v2 v4
    rw [f_X12_hexAt_5]
    refine l1_many mt_X12_hexAt (pc' := bif am_cc .ge v4 8 then 38 else 12) (L' := [some (.ref 201), some (.int p1), some (.long v2), none, some (.int v4)]) (st' := []) 3 rfl ?_
    refine l1_bif rfl ?_ ?_
    · refine l1_many mt_X12_hexAt (pc' := 39) (L' := [some (.ref 201), some (.int p1), some (.long v2), none, some (.int v4)]) (st' := [.long v2]) 1 rfl ?_
      exact l1_ret mt_X12_hexAt rfl rfl rfl
    · refine l1_many mt_X12_hexAt (pc' := 18) (L' := [some (.ref 201), some (.int p1), some (.long v2), none, some (.int v4)]) (st' := [.ref 201, .long (16 * v2)]) 4 rfl ?_
      refine l1_getR hQ mt_X12_hexAt rfl (o := 201) (ci := 11) (k := 3) (a := 0) (b := 0) rfl rfl rfl rfl rfl (q := 203) rfl ?_
      refine l1_many mt_X12_hexAt (pc' := 25) (L' := [some (.ref 201), some (.int p1), some (.long v2), none, some (.int v4)]) (st' := [.int (p1 + v4), .ref 203, .long (16 * v2)]) 3 rfl ?_
      refine l1_ck (fun hx => ?_)
      refine l1_ald hQ mt_X12_hexAt rfl (o := 203) rfl hx ?_
      refine l1_callS mt_X12_hexAt mt_X12_digitOf rfl rfl (As := [.int (c.1 203 (p1 + v4).toNatClampNeg)]) (rest := [.long (16 * v2)]) rfl rfl rfl (st1 := fun x1 => [.int x1, .long (16 * v2)]) (fun _ => rfl) (ok_X12_digitOf hQ c (c.1 203 (p1 + v4).toNatClampNeg)) (fun x1 c2 => ?_)
      refine l1_many mt_X12_hexAt (pc' := 5) (L' := [some (.ref 201), some (.int p1), some (.long ((16 * v2) + x1.toInt64)), none, some (.int (v4 + 1))]) (st' := []) 5 rfl ?_
      exact ih c2 ((16 * v2) + x1.toInt64) (v4 + 1)
set_option maxRecDepth 100000 in
theorem en_X12_hexAt {Q : hS → am_H → Prop} (hQ : l1_em km Q) (N : Nat) (c : hS) (p1 : Int32) : l1_G (wN wL) Q am_i_X12_hexAt 0 [some (.ref 201), some (.int p1)] [] c (f_X12_hexAt N c p1) := by
  rw [f_X12_hexAt]
  refine l1_many mt_X12_hexAt (pc' := 5) (L' := [some (.ref 201), some (.int p1), some (.long 0), none, some (.int 0)]) (st' := []) 4 rfl ?_
  exact ok_X12_hexAt_5 hQ N p1 N c 0 0
theorem ok_X12_hexAt {Q : hS → am_H → Prop} (hQ : l1_em km Q) (N : Nat) (c : hS) (p1 : Int32) : l1_T wL Q am_i_X12_hexAt [.ref 201, .int p1] c (f_X12_hexAt N c p1) := l1_of (en_X12_hexAt hQ N c p1) ⟨rfl, rfl, trivial⟩
set_option maxRecDepth 100000 in
theorem ok_X12_readDigitsHead_49 {Q : hS → am_H → Prop} (hQ : l1_em km Q) (N : Nat) (p1 : Int32) {k16 : hS → Int32 → Option (Int32 × hS)} (hk16 : ∀ c v2, l1_G (wN wI) Q am_i_X12_readDigitsHead 16 [some (.ref 201), some (.int p1), some (.int v2)] [] c (k16 c v2)) : ∀ (c : hS) (v2 : Int32) (w0 : Int32), l1_G (wN wI) Q am_i_X12_readDigitsHead 49 [some (.ref 201), some (.int p1), some (.int v2)] [.int w0] c (f_X12_readDigitsHead_49 N p1 k16 c v2 w0) := by
  intro c v2 w0
  rw [f_X12_readDigitsHead_49]
  refine l1_many mt_X12_readDigitsHead (pc' := 51) (L' := [some (.ref 201), some (.int p1), some (.int v2), some (.int w0)]) (st' := [.ref 201]) 2 rfl ?_
  refine l1_getR hQ mt_X12_readDigitsHead rfl (o := 201) (ci := 11) (k := 3) (a := 0) (b := 0) rfl rfl rfl rfl rfl (q := 203) rfl ?_
  refine l1_many mt_X12_readDigitsHead (pc' := 57) (L' := [some (.ref 201), some (.int p1), some (.int v2), some (.int w0)]) (st' := [.int (p1 + v2), .ref 203]) 3 rfl ?_
  refine l1_ck (fun hx => ?_)
  refine l1_ald hQ mt_X12_readDigitsHead rfl (o := 203) rfl hx ?_
  refine l1_many mt_X12_readDigitsHead (pc' := bif am_cc .eq (c.1 203 (p1 + v2).toNatClampNeg) w0 then 71 else 62) (L' := [some (.ref 201), some (.int p1), some (.int v2), some (.int w0)]) (st' := []) 2 rfl ?_
  refine l1_bif rfl ?_ ?_
  · refine l1_many mt_X12_readDigitsHead (pc' := 16) (L' := [some (.ref 201), some (.int p1), some (.int (v2 + 1)), some (.int w0)]) (st' := []) 2 rfl ?_
    refine l1_weak (m := [true, true, true, false, false]) (L' := [some (.ref 201), some (.int p1), some (.int (v2 + 1))]) rfl ?_
    exact hk16 c (v2 + 1)
  · refine l1_many mt_X12_readDigitsHead (pc' := 67) (L' := [some (.ref 201), some (.int p1), some (.int v2), some (.int w0)]) (st' := [.int (p1 + v2), .int 3, .ref 201]) 5 rfl ?_
    refine l1_callV hQ mt_X12_readDigitsHead mt_X12_fails rfl rfl (o := 201) (ci := 11) (As := [.int 3, .int (p1 + v2)]) (rest := []) rfl rfl rfl rfl rfl rfl (st1 := fun x1 => [.int x1]) (fun _ => rfl) (ok_X12_fails hQ c 3 (p1 + v2)) (fun x1 c2 => ?_)
    refine l1_ck (fun hz => ?_)
    exact l1_retZ mt_X12_readDigitsHead rfl rfl rfl hz
set_option maxRecDepth 100000 in
theorem ok_X12_readDigitsHead_32 {Q : hS → am_H → Prop} (hQ : l1_em km Q) (N : Nat) (p1 : Int32) {k16 : hS → Int32 → Option (Int32 × hS)} (hk16 : ∀ c v2, l1_G (wN wI) Q am_i_X12_readDigitsHead 16 [some (.ref 201), some (.int p1), some (.int v2)] [] c (k16 c v2)) : ∀ (c : hS) (v2 : Int32), l1_G (wN wI) Q am_i_X12_readDigitsHead 32 [some (.ref 201), some (.int p1), some (.int v2)] [] c (f_X12_readDigitsHead_32 N p1 k16 c v2) := by
  intro c v2
  rw [f_X12_readDigitsHead_32]
  refine l1_many mt_X12_readDigitsHead (pc' := 49) (L' := [some (.ref 201), some (.int p1), some (.int v2)]) (st' := [.int 55]) 2 rfl ?_
  exact ok_X12_readDigitsHead_49 hQ N p1 hk16 c v2 55
set_option maxRecDepth 100000 in
theorem ok_X12_readDigitsHead_207 {Q : hS → am_H → Prop} (hQ : l1_em km Q) (N : Nat) (p1 : Int32) : ∀ n : Nat, ∀ (c : hS) (v4 : Int32), l1_G (wN wI) Q am_i_X12_readDigitsHead 207 [some (.ref 201), some (.int p1), none, none, some (.int v4)] [] c (f_X12_readDigitsHead_207 N p1 n c v4) := by
  intro n
  induction n with
  | zero => intro c v4; exact l1_none
  | succ n ih =>
    intro c v4
    rw [f_X12_readDigitsHead_207]
    refine l1_many mt_X12_readDigitsHead (pc' := 210) (L' := [some (.ref 201), some (.int p1), none, none, some (.int v4)]) (st' := [.ref 201, .int v4]) 2 rfl ?_
    refine l1_getI hQ mt_X12_readDigitsHead rfl (o := 201) (ci := 11) (k := 14) (a := 0) (b := 0) rfl rfl rfl rfl rfl ?_
    refine l1_many mt_X12_readDigitsHead (pc' := bif am_cc .ge v4 (c.1 201 14) then 241 else 216) (L' := [some (.ref 201), some (.int p1), none, none, some (.int v4)]) (st' := []) 1 rfl ?_
    refine l1_bif rfl ?_ ?_
    · refine l1_many mt_X12_readDigitsHead (pc' := 242) (L' := [some (.ref 201), some (.int p1), none, none, some (.int v4)]) (st' := [.int 1]) 1 rfl ?_
      exact l1_ret mt_X12_readDigitsHead rfl rfl rfl
    · refine l1_many mt_X12_readDigitsHead (pc' := 217) (L' := [some (.ref 201), some (.int p1), none, none, some (.int v4)]) (st' := [.ref 201]) 1 rfl ?_
      refine l1_getR hQ mt_X12_readDigitsHead rfl (o := 201) (ci := 11) (k := 15) (a := 0) (b := 0) rfl rfl rfl rfl rfl (q := 209) rfl ?_
      refine l1_many mt_X12_readDigitsHead (pc' := 223) (L' := [some (.ref 201), some (.int p1), none, none, some (.int v4)]) (st' := [.ref 201, .int v4, .ref 209]) 2 rfl ?_
      refine l1_getR hQ mt_X12_readDigitsHead rfl (o := 201) (ci := 11) (k := 3) (a := 0) (b := 0) rfl rfl rfl rfl rfl (q := 203) rfl ?_
      refine l1_many mt_X12_readDigitsHead (pc' := 233) (L' := [some (.ref 201), some (.int p1), none, none, some (.int v4)]) (st' := [.int ((p1 + 110) + v4), .ref 203, .int v4, .ref 209]) 5 rfl ?_
      refine l1_ck (fun hx => ?_)
      refine l1_ald hQ mt_X12_readDigitsHead rfl (o := 203) rfl hx ?_
      refine l1_ck (fun hx => ?_)
      refine l1_ast hQ mt_X12_readDigitsHead rfl (o := 209) rfl hx (fun c1 => ?_)
      refine l1_many mt_X12_readDigitsHead (pc' := 207) (L' := [some (.ref 201), some (.int p1), none, none, some (.int (v4 + 1))]) (st' := []) 2 rfl ?_
      exact ih c1 (v4 + 1)
set_option maxRecDepth 100000 in
theorem ok_X12_readDigitsHead_80 {Q : hS → am_H → Prop} (hQ : l1_em km Q) (N : Nat) (p1 : Int32) : ∀ n : Nat, ∀ (c : hS) (v2 : Int32), l1_G (wN wI) Q am_i_X12_readDigitsHead 80 [some (.ref 201), some (.int p1), some (.int v2)] [] c (f_X12_readDigitsHead_80 N p1 n c v2) := by
  intro n
  induction n with
  | zero => intro c v2; exact l1_none
  | succ n ih =>
    intro c v2
    rw [f_X12_readDigitsHead_80]
    refine l1_many mt_X12_readDigitsHead (pc' := bif am_cc .ge v2 110 then 116 else 86) (L' := [some (.ref 201), some (.int p1), some (.int v2)]) (st' := []) 3 rfl ?_
    refine l1_bif rfl ?_ ?_
    · refine l1_many mt_X12_readDigitsHead (pc' := 121) (L' := [some (.ref 201), some (.int p1), some (.int v2)]) (st' := [.int (p1 + 94), .ref 201]) 4 rfl ?_
      refine l1_callV hQ mt_X12_readDigitsHead mt_X12_hexAt rfl rfl (o := 201) (ci := 11) (As := [.int (p1 + 94)]) (rest := []) rfl rfl rfl rfl rfl rfl (st1 := fun x1 => [.long x1]) (fun _ => rfl) (ok_X12_hexAt hQ N c (p1 + 94)) (fun x1 c2 => ?_)
      refine l1_many mt_X12_readDigitsHead (pc' := 130) (L' := [some (.ref 201), some (.int p1), some (.long x1)]) (st' := [.long 100, .long 1, .long x1]) 4 rfl ?_
      refine l1_callS mt_X12_readDigitsHead mt_X12_in rfl rfl (As := [.long x1, .long 1, .long 100]) (rest := []) rfl rfl rfl (st1 := fun x3 => [.int x3]) (fun _ => rfl) (ok_X12_in hQ c2 x1 1 100) (fun x3 c4 => ?_)
      refine l1_many mt_X12_readDigitsHead (pc' := bif am_cc .ne x3 0 then 147 else 136) (L' := [some (.ref 201), some (.int p1), some (.long x1)]) (st' := []) 1 rfl ?_
      refine l1_bin rfl ?_ ?_
      · refine l1_many mt_X12_readDigitsHead (pc' := 143) (L' := [some (.ref 201), some (.int p1), some (.long x1)]) (st' := [.int (p1 + 94), .int 10, .ref 201]) 5 rfl ?_
        refine l1_callV hQ mt_X12_readDigitsHead mt_X12_fails rfl rfl (o := 201) (ci := 11) (As := [.int 10, .int (p1 + 94)]) (rest := []) rfl rfl rfl rfl rfl rfl (st1 := fun x10 => [.int x10]) (fun _ => rfl) (ok_X12_fails hQ c4 10 (p1 + 94)) (fun x10 c11 => ?_)
        refine l1_ck (fun hz => ?_)
        exact l1_retZ mt_X12_readDigitsHead rfl rfl rfl hz
      · refine l1_many mt_X12_readDigitsHead (pc' := 155) (L' := [some (.ref 201), some (.int p1), some (.long x1)]) (st' := [.long (((p1 + 110).toInt64) + x1), .ref 201]) 7 rfl ?_
        refine l1_callV hQ mt_X12_readDigitsHead mt_X12_reaches rfl rfl (o := 201) (ci := 11) (As := [.long (((p1 + 110).toInt64) + x1)]) (rest := []) rfl rfl rfl rfl rfl rfl (st1 := fun x5 => [.int x5]) (fun _ => rfl) (ok_X12_reaches hQ c4 (((p1 + 110).toInt64) + x1)) (fun x5 c6 => ?_)
        refine l1_many mt_X12_readDigitsHead (pc' := bif am_cc .ne x5 0 then 163 else 161) (L' := [some (.ref 201), some (.int p1), some (.long x1)]) (st' := []) 1 rfl ?_
        refine l1_bin rfl ?_ ?_
        · refine l1_many mt_X12_readDigitsHead (pc' := 162) (L' := [some (.ref 201), some (.int p1), some (.long x1)]) (st' := [.int 0]) 1 rfl ?_
          exact l1_ret mt_X12_readDigitsHead rfl rfl rfl
        · refine l1_many mt_X12_readDigitsHead (pc' := 168) (L' := [some (.ref 201), some (.int p1), some (.long x1)]) (st' := [.int (x1.toInt32 - 1), .ref 201]) 5 rfl ?_
          refine l1_putI hQ mt_X12_readDigitsHead rfl (o := 201) (ci := 11) (k := 14) (a := 0) rfl rfl rfl rfl rfl rfl (fun c7 => ?_)
          refine l1_many mt_X12_readDigitsHead (pc' := 172) (L' := [some (.ref 201), some (.int p1), some (.long x1)]) (st' := [.ref 201]) 1 rfl ?_
          refine l1_getR hQ mt_X12_readDigitsHead rfl (o := 201) (ci := 11) (k := 3) (a := 0) (b := 0) rfl rfl rfl rfl rfl (q := 203) rfl ?_
          refine l1_many mt_X12_readDigitsHead (pc' := 180) (L' := [some (.ref 201), some (.int p1), some (.long x1)]) (st' := [.ref 201, .int (p1 + 110), .ref 203]) 4 rfl ?_
          refine l1_getI hQ mt_X12_readDigitsHead rfl (o := 201) (ci := 11) (k := 14) (a := 0) (b := 0) rfl rfl rfl rfl rfl ?_
          refine l1_many mt_X12_readDigitsHead (pc' := 184) (L' := [some (.ref 201), some (.int p1), some (.long x1)]) (st' := [.int ((p1 + 110) + (c7.1 201 14)), .ref 203]) 1 rfl ?_
          refine l1_ck (fun hx => ?_)
          refine l1_ald hQ mt_X12_readDigitsHead rfl (o := 203) rfl hx ?_
          refine l1_many mt_X12_readDigitsHead (pc' := bif am_cc .eq (c7.1 203 ((p1 + 110) + (c7.1 201 14)).toNatClampNeg) 0 then 204 else 188) (L' := [some (.ref 201), some (.int p1), some (.long x1)]) (st' := []) 1 rfl ?_
          refine l1_bif rfl ?_ ?_
          · refine l1_many mt_X12_readDigitsHead (pc' := 207) (L' := [some (.ref 201), some (.int p1), some (.long x1), none, some (.int 0)]) (st' := []) 2 rfl ?_
            refine l1_weak (m := [true, true, false, false, true]) (L' := [some (.ref 201), some (.int p1), none, none, some (.int 0)]) rfl ?_
            exact ok_X12_readDigitsHead_207 hQ N p1 N c7 0
          · refine l1_many mt_X12_readDigitsHead (pc' := 196) (L' := [some (.ref 201), some (.int p1), some (.long x1)]) (st' := [.ref 201, .int (p1 + 110), .int 10, .ref 201]) 6 rfl ?_
            refine l1_getI hQ mt_X12_readDigitsHead rfl (o := 201) (ci := 11) (k := 14) (a := 0) (b := 0) rfl rfl rfl rfl rfl ?_
            refine l1_many mt_X12_readDigitsHead (pc' := 200) (L' := [some (.ref 201), some (.int p1), some (.long x1)]) (st' := [.int ((p1 + 110) + (c7.1 201 14)), .int 10, .ref 201]) 1 rfl ?_
            refine l1_callV hQ mt_X12_readDigitsHead mt_X12_fails rfl rfl (o := 201) (ci := 11) (As := [.int 10, .int ((p1 + 110) + (c7.1 201 14))]) (rest := []) rfl rfl rfl rfl rfl rfl (st1 := fun x8 => [.int x8]) (fun _ => rfl) (ok_X12_fails hQ c7 10 ((p1 + 110) + (c7.1 201 14))) (fun x8 c9 => ?_)
            refine l1_ck (fun hz => ?_)
            exact l1_retZ mt_X12_readDigitsHead rfl rfl rfl hz
    · refine l1_many mt_X12_readDigitsHead (pc' := 87) (L' := [some (.ref 201), some (.int p1), some (.int v2)]) (st' := [.ref 201]) 1 rfl ?_
      refine l1_getR hQ mt_X12_readDigitsHead rfl (o := 201) (ci := 11) (k := 3) (a := 0) (b := 0) rfl rfl rfl rfl rfl (q := 203) rfl ?_
      refine l1_many mt_X12_readDigitsHead (pc' := 93) (L' := [some (.ref 201), some (.int p1), some (.int v2)]) (st' := [.int (p1 + v2), .ref 203]) 3 rfl ?_
      refine l1_ck (fun hx => ?_)
      refine l1_ald hQ mt_X12_readDigitsHead rfl (o := 203) rfl hx ?_
      refine l1_callS mt_X12_readDigitsHead mt_X12_digitOf rfl rfl (As := [.int (c.1 203 (p1 + v2).toNatClampNeg)]) (rest := []) rfl rfl rfl (st1 := fun x12 => [.int x12]) (fun _ => rfl) (ok_X12_digitOf hQ c (c.1 203 (p1 + v2).toNatClampNeg)) (fun x12 c13 => ?_)
      refine l1_many mt_X12_readDigitsHead (pc' := bif am_cc .ge x12 0 then 110 else 100) (L' := [some (.ref 201), some (.int p1), some (.int v2)]) (st' := []) 1 rfl ?_
      refine l1_bif rfl ?_ ?_
      · refine l1_many mt_X12_readDigitsHead (pc' := 80) (L' := [some (.ref 201), some (.int p1), some (.int (v2 + 1))]) (st' := []) 2 rfl ?_
        exact ih c13 (v2 + 1)
      · refine l1_many mt_X12_readDigitsHead (pc' := 106) (L' := [some (.ref 201), some (.int p1), some (.int v2)]) (st' := [.int (p1 + v2), .int 6, .ref 201]) 5 rfl ?_
        refine l1_callV hQ mt_X12_readDigitsHead mt_X12_fails rfl rfl (o := 201) (ci := 11) (As := [.int 6, .int (p1 + v2)]) (rest := []) rfl rfl rfl rfl rfl rfl (st1 := fun x14 => [.int x14]) (fun _ => rfl) (ok_X12_fails hQ c13 6 (p1 + v2)) (fun x14 c15 => ?_)
        refine l1_ck (fun hz => ?_)
        exact l1_retZ mt_X12_readDigitsHead rfl rfl rfl hz
set_option maxRecDepth 100000 in
theorem ok_X12_readDigitsHead_16 {Q : hS → am_H → Prop} (hQ : l1_em km Q) (N : Nat) (p1 : Int32) : ∀ n : Nat, ∀ (c : hS) (v2 : Int32), l1_G (wN wI) Q am_i_X12_readDigitsHead 16 [some (.ref 201), some (.int p1), some (.int v2)] [] c (f_X12_readDigitsHead_16 N p1 n c v2) := by
  intro n
  induction n with
  | zero => intro c v2; exact l1_none
  | succ n ih =>
    intro c v2
    rw [f_X12_readDigitsHead_16]
    refine l1_many mt_X12_readDigitsHead (pc' := bif am_cc .ge v2 6 then 77 else 22) (L' := [some (.ref 201), some (.int p1), some (.int v2)]) (st' := []) 3 rfl ?_
    refine l1_bif rfl ?_ ?_
    · refine l1_many mt_X12_readDigitsHead (pc' := 80) (L' := [some (.ref 201), some (.int p1), some (.int 6)]) (st' := []) 2 rfl ?_
      exact ok_X12_readDigitsHead_80 hQ N p1 N c 6
    · refine l1_many mt_X12_readDigitsHead (pc' := bif am_cc .eq v2 1 then 32 else 27) (L' := [some (.ref 201), some (.int p1), some (.int v2)]) (st' := []) 3 rfl ?_
      refine l1_bif rfl ?_ ?_
      · exact ok_X12_readDigitsHead_32 hQ N p1 ih c v2
      · refine l1_many mt_X12_readDigitsHead (pc' := bif am_cc .ne v2 3 then 37 else 32) (L' := [some (.ref 201), some (.int p1), some (.int v2)]) (st' := []) 3 rfl ?_
        refine l1_bin rfl ?_ ?_
        · exact ok_X12_readDigitsHead_32 hQ N p1 ih c v2
        · refine l1_many mt_X12_readDigitsHead (pc' := bif am_cc .ne v2 5 then 47 else 42) (L' := [some (.ref 201), some (.int p1), some (.int v2)]) (st' := []) 3 rfl ?_
          refine l1_bin rfl ?_ ?_
          · refine l1_many mt_X12_readDigitsHead (pc' := 49) (L' := [some (.ref 201), some (.int p1), some (.int v2)]) (st' := [.int 49]) 2 rfl ?_
            exact ok_X12_readDigitsHead_49 hQ N p1 ih c v2 49
          · refine l1_many mt_X12_readDigitsHead (pc' := 49) (L' := [some (.ref 201), some (.int p1), some (.int v2)]) (st' := [.int 48]) 1 rfl ?_
            exact ok_X12_readDigitsHead_49 hQ N p1 ih c v2 48
set_option maxRecDepth 100000 in
theorem en_X12_readDigitsHead {Q : hS → am_H → Prop} (hQ : l1_em km Q) (N : Nat) (c : hS) (p1 : Int32) : l1_G (wN wI) Q am_i_X12_readDigitsHead 0 [some (.ref 201), some (.int p1)] [] c (f_X12_readDigitsHead N c p1) := by
  rw [f_X12_readDigitsHead]
  refine l1_many mt_X12_readDigitsHead (pc' := 6) (L' := [some (.ref 201), some (.int p1)]) (st' := [.long ((p1 + 110).toInt64), .ref 201]) 5 rfl ?_
  refine l1_callV hQ mt_X12_readDigitsHead mt_X12_reaches rfl rfl (o := 201) (ci := 11) (As := [.long ((p1 + 110).toInt64)]) (rest := []) rfl rfl rfl rfl rfl rfl (st1 := fun x1 => [.int x1]) (fun _ => rfl) (ok_X12_reaches hQ c ((p1 + 110).toInt64)) (fun x1 c2 => ?_)
  refine l1_many mt_X12_readDigitsHead (pc' := bif am_cc .ne x1 0 then 14 else 12) (L' := [some (.ref 201), some (.int p1)]) (st' := []) 1 rfl ?_
  refine l1_bin rfl ?_ ?_
  · refine l1_many mt_X12_readDigitsHead (pc' := 13) (L' := [some (.ref 201), some (.int p1)]) (st' := [.int 0]) 1 rfl ?_
    exact l1_ret mt_X12_readDigitsHead rfl rfl rfl
  · refine l1_many mt_X12_readDigitsHead (pc' := 16) (L' := [some (.ref 201), some (.int p1), some (.int 0)]) (st' := []) 2 rfl ?_
    exact ok_X12_readDigitsHead_16 hQ N p1 N c2 0
theorem ok_X12_readDigitsHead {Q : hS → am_H → Prop} (hQ : l1_em km Q) (N : Nat) (c : hS) (p1 : Int32) : l1_T wI Q am_i_X12_readDigitsHead [.ref 201, .int p1] c (f_X12_readDigitsHead N c p1) := l1_of (en_X12_readDigitsHead hQ N c p1) ⟨rfl, rfl, trivial⟩
set_option maxRecDepth 100000 in
theorem en_X12_trailerAt {Q : hS → am_H → Prop} (hQ : l1_em km Q) (c : hS) (p0 : Int32) : l1_G (wN wI) Q am_i_X12_trailerAt 0 [some (.int p0)] [] c (f_X12_trailerAt c p0) := by
  rw [f_X12_trailerAt]
  refine l1_many mt_X12_trailerAt (pc' := bif am_cc .ne p0 0 then 9 else 4) (L' := [some (.int p0)]) (st' := []) 2 rfl ?_
  refine l1_bin rfl ?_ ?_
  · refine l1_many mt_X12_trailerAt (pc' := 67) (L' := [some (.int p0)]) (st' := [.int 84]) 2 rfl ?_
    exact l1_ret mt_X12_trailerAt rfl rfl rfl
  · refine l1_many mt_X12_trailerAt (pc' := bif am_cc .eq p0 1 then 20 else 14) (L' := [some (.int p0)]) (st' := []) 3 rfl ?_
    refine l1_bif rfl ?_ ?_
    · refine l1_many mt_X12_trailerAt (pc' := 67) (L' := [some (.int p0)]) (st' := [.int 82]) 2 rfl ?_
      exact l1_ret mt_X12_trailerAt rfl rfl rfl
    · refine l1_many mt_X12_trailerAt (pc' := bif am_cc .ne p0 6 then 25 else 20) (L' := [some (.int p0)]) (st' := []) 3 rfl ?_
      refine l1_bin rfl ?_ ?_
      · refine l1_many mt_X12_trailerAt (pc' := 67) (L' := [some (.int p0)]) (st' := [.int 82]) 2 rfl ?_
        exact l1_ret mt_X12_trailerAt rfl rfl rfl
      · refine l1_many mt_X12_trailerAt (pc' := bif am_cc .ne p0 2 then 35 else 30) (L' := [some (.int p0)]) (st' := []) 3 rfl ?_
        refine l1_bin rfl ?_ ?_
        · refine l1_many mt_X12_trailerAt (pc' := 67) (L' := [some (.int p0)]) (st' := [.int 65]) 2 rfl ?_
          exact l1_ret mt_X12_trailerAt rfl rfl rfl
        · refine l1_many mt_X12_trailerAt (pc' := bif am_cc .ne p0 3 then 45 else 40) (L' := [some (.int p0)]) (st' := []) 3 rfl ?_
          refine l1_bin rfl ?_ ?_
          · refine l1_many mt_X12_trailerAt (pc' := 67) (L' := [some (.int p0)]) (st' := [.int 73]) 2 rfl ?_
            exact l1_ret mt_X12_trailerAt rfl rfl rfl
          · refine l1_many mt_X12_trailerAt (pc' := bif am_cc .ne p0 4 then 55 else 50) (L' := [some (.int p0)]) (st' := []) 3 rfl ?_
            refine l1_bin rfl ?_ ?_
            · refine l1_many mt_X12_trailerAt (pc' := 67) (L' := [some (.int p0)]) (st' := [.int 76]) 2 rfl ?_
              exact l1_ret mt_X12_trailerAt rfl rfl rfl
            · refine l1_many mt_X12_trailerAt (pc' := bif am_cc .ne p0 5 then 65 else 60) (L' := [some (.int p0)]) (st' := []) 3 rfl ?_
              refine l1_bin rfl ?_ ?_
              · refine l1_many mt_X12_trailerAt (pc' := 67) (L' := [some (.int p0)]) (st' := [.int 69]) 2 rfl ?_
                exact l1_ret mt_X12_trailerAt rfl rfl rfl
              · refine l1_many mt_X12_trailerAt (pc' := 67) (L' := [some (.int p0)]) (st' := [.int 33]) 1 rfl ?_
                exact l1_ret mt_X12_trailerAt rfl rfl rfl
theorem ok_X12_trailerAt {Q : hS → am_H → Prop} (hQ : l1_em km Q) (c : hS) (p0 : Int32) : l1_T wI Q am_i_X12_trailerAt [.int p0] c (f_X12_trailerAt c p0) := l1_of (en_X12_trailerAt hQ c p0) ⟨rfl, trivial⟩
set_option maxRecDepth 100000 in
theorem ok_X12_isTrailer_17 {Q : hS → am_H → Prop} (hQ : l1_em km Q) (N : Nat) : ∀ n : Nat, ∀ (c : hS) (v1 : Int32) (v2 : Int32), l1_G (wN wI) Q am_i_X12_isTrailer 17 [some (.ref 201), some (.int v1), some (.int v2)] [] c (f_X12_isTrailer_17 N n c v1 v2) := by
  intro n
  induction n with
  | zero => intro c v1 v2; exact l1_none
  | succ n ih =>
    intro c v1 v2
    rw [f_X12_isTrailer_17]
    refine l1_many mt_X12_isTrailer (pc' := bif am_cc .ge v2 10 then 52 else 23) (L' := [some (.ref 201), some (.int v1), some (.int v2)]) (st' := []) 3 rfl ?_
    refine l1_bif rfl ?_ ?_
    · refine l1_many mt_X12_isTrailer (pc' := 53) (L' := [some (.ref 201), some (.int v1), some (.int v2)]) (st' := [.int v1]) 1 rfl ?_
      refine l1_ck (fun hz => ?_)
      exact l1_retZ mt_X12_isTrailer rfl rfl rfl hz
    · refine l1_many mt_X12_isTrailer (pc' := bif am_cc .eq v1 0 then 52 else 27) (L' := [some (.ref 201), some (.int v1), some (.int v2)]) (st' := []) 2 rfl ?_
      refine l1_bif rfl ?_ ?_
      · refine l1_many mt_X12_isTrailer (pc' := 53) (L' := [some (.ref 201), some (.int v1), some (.int v2)]) (st' := [.int v1]) 1 rfl ?_
        refine l1_ck (fun hz => ?_)
        exact l1_retZ mt_X12_isTrailer rfl rfl rfl hz
      · refine l1_many mt_X12_isTrailer (pc' := 28) (L' := [some (.ref 201), some (.int v1), some (.int v2)]) (st' := [.ref 201]) 1 rfl ?_
        refine l1_getR hQ mt_X12_isTrailer rfl (o := 201) (ci := 11) (k := 15) (a := 0) (b := 0) rfl rfl rfl rfl rfl (q := 209) rfl ?_
        refine l1_many mt_X12_isTrailer (pc' := 32) (L' := [some (.ref 201), some (.int v1), some (.int v2)]) (st' := [.int v2, .ref 209]) 1 rfl ?_
        refine l1_ck (fun hx => ?_)
        refine l1_ald hQ mt_X12_isTrailer rfl (o := 209) rfl hx ?_
        refine l1_many mt_X12_isTrailer (pc' := 34) (L' := [some (.ref 201), some (.int v1), some (.int v2)]) (st' := [.int v2, .int (c.1 209 v2.toNatClampNeg)]) 1 rfl ?_
        refine l1_callS mt_X12_isTrailer mt_X12_trailerAt rfl rfl (As := [.int v2]) (rest := [.int (c.1 209 v2.toNatClampNeg)]) rfl rfl rfl (st1 := fun x1 => [.int x1, .int (c.1 209 v2.toNatClampNeg)]) (fun _ => rfl) (ok_X12_trailerAt hQ c v2) (fun x1 c2 => ?_)
        refine l1_many mt_X12_isTrailer (pc' := bif am_cc .ne (c.1 209 v2.toNatClampNeg) x1 then 44 else 40) (L' := [some (.ref 201), some (.int v1), some (.int v2)]) (st' := []) 1 rfl ?_
        refine l1_bin rfl ?_ ?_
        · refine l1_many mt_X12_isTrailer (pc' := 17) (L' := [some (.ref 201), some (.int 1), some (.int (v2 + 1))]) (st' := []) 5 rfl ?_
          exact ih c2 1 (v2 + 1)
        · refine l1_many mt_X12_isTrailer (pc' := 17) (L' := [some (.ref 201), some (.int 0), some (.int (v2 + 1))]) (st' := []) 4 rfl ?_
          exact ih c2 0 (v2 + 1)
set_option maxRecDepth 100000 in
theorem en_X12_isTrailer {Q : hS → am_H → Prop} (hQ : l1_em km Q) (N : Nat) (c : hS) : l1_G (wN wI) Q am_i_X12_isTrailer 0 [some (.ref 201)] [] c (f_X12_isTrailer N c) := by
  rw [f_X12_isTrailer]
  refine l1_many mt_X12_isTrailer (pc' := 1) (L' := [some (.ref 201)]) (st' := [.ref 201]) 1 rfl ?_
  refine l1_getI hQ mt_X12_isTrailer rfl (o := 201) (ci := 11) (k := 14) (a := 0) (b := 0) rfl rfl rfl rfl rfl ?_
  refine l1_many mt_X12_isTrailer (pc' := bif am_cc .ne (c.1 201 14) 10 then 13 else 9) (L' := [some (.ref 201)]) (st' := []) 2 rfl ?_
  refine l1_bin rfl ?_ ?_
  · refine l1_many mt_X12_isTrailer (pc' := 17) (L' := [some (.ref 201), some (.int 1), some (.int 0)]) (st' := []) 5 rfl ?_
    exact ok_X12_isTrailer_17 hQ N N c 1 0
  · refine l1_many mt_X12_isTrailer (pc' := 17) (L' := [some (.ref 201), some (.int 0), some (.int 0)]) (st' := []) 4 rfl ?_
    exact ok_X12_isTrailer_17 hQ N N c 0 0
theorem ok_X12_isTrailer {Q : hS → am_H → Prop} (hQ : l1_em km Q) (N : Nat) (c : hS) : l1_T wI Q am_i_X12_isTrailer [.ref 201] c (f_X12_isTrailer N c) := l1_of (en_X12_isTrailer hQ N c) ⟨rfl, trivial⟩
set_option maxRecDepth 100000 in
theorem en_X12_upToFour {Q : hS → am_H → Prop} (hQ : l1_em km Q) (c : hS) (p0 : Int32) : l1_G (wN wI) Q am_i_X12_upToFour 0 [some (.int p0)] [] c (f_X12_upToFour c p0) := by
  rw [f_X12_upToFour]
  refine l1_many mt_X12_upToFour (pc' := 7) (L' := [some (.int p0)]) (st' := [.int (((p0 + 3) / 4) * 4)]) 7 rfl ?_
  exact l1_ret mt_X12_upToFour rfl rfl rfl
theorem ok_X12_upToFour {Q : hS → am_H → Prop} (hQ : l1_em km Q) (c : hS) (p0 : Int32) : l1_T wI Q am_i_X12_upToFour [.int p0] c (f_X12_upToFour c p0) := l1_of (en_X12_upToFour hQ c p0) ⟨rfl, trivial⟩
set_option maxRecDepth 100000 in
theorem ok_X12_readDigits_160 {Q : hS → am_H → Prop} (hQ : l1_em km Q) (N : Nat) {k2 : hS → Int32 → Option (Int32 × hS)} (hk2 : ∀ c v1, l1_G (wN wI) Q am_i_X12_readDigits 2 [some (.ref 201), some (.int v1)] [] c (k2 c v1)) : ∀ (c : hS) (v1 : Int32) (v2 : Int64) (v4 : Int32) (w0 : Int64) (w1 : Int64), l1_G (wN wI) Q am_i_X12_readDigits 160 [some (.ref 201), some (.int v1), some (.long v2), none, some (.int v4)] [.long w0, .long w1] c (f_X12_readDigits_160 N k2 c v1 v2 v4 w0 w1) := by
  intro c v1 v2 v4 w0 w1
  rw [f_X12_readDigits_160]
  refine l1_many mt_X12_readDigits (pc' := bif am_cc .le (j_cmp w1 w0) 0 then 175 else 164) (L' := [some (.ref 201), some (.int v1), some (.long v2), none, some (.int v4)]) (st' := []) 2 rfl ?_
  refine l1_bif rfl ?_ ?_
  · refine l1_many mt_X12_readDigits (pc' := 176) (L' := [some (.ref 201), some (.int v1), some (.long v2), none, some (.int v4)]) (st' := [.ref 201]) 1 rfl ?_
    refine l1_callV hQ mt_X12_readDigits mt_X12_isName rfl rfl (o := 201) (ci := 11) (As := []) (rest := []) rfl rfl rfl rfl rfl rfl (st1 := fun x1 => [.int x1]) (fun _ => rfl) (ok_X12_isName hQ N c) (fun x1 c2 => ?_)
    refine l1_many mt_X12_readDigits (pc' := bif am_cc .ne x1 0 then 193 else 182) (L' := [some (.ref 201), some (.int v1), some (.long v2), none, some (.int v4)]) (st' := []) 1 rfl ?_
    refine l1_bin rfl ?_ ?_
    · refine l1_many mt_X12_readDigits (pc' := 189) (L' := [some (.ref 201), some (.int v1), some (.long v2), none, some (.int v4)]) (st' := [.int (v1 + 110), .int 10, .ref 201]) 5 rfl ?_
      refine l1_callV hQ mt_X12_readDigits mt_X12_fails rfl rfl (o := 201) (ci := 11) (As := [.int 10, .int (v1 + 110)]) (rest := []) rfl rfl rfl rfl rfl rfl (st1 := fun x12 => [.int x12]) (fun _ => rfl) (ok_X12_fails hQ c2 10 (v1 + 110)) (fun x12 c13 => ?_)
      refine l1_ck (fun hz => ?_)
      exact l1_retZ mt_X12_readDigits rfl rfl rfl hz
    · refine l1_many mt_X12_readDigits (pc' := 195) (L' := [some (.ref 201), some (.int v1), some (.long v2), none, some (.int v4)]) (st' := [.int v4]) 1 rfl ?_
      refine l1_callS mt_X12_readDigits mt_X12_upToFour rfl rfl (As := [.int v4]) (rest := []) rfl rfl rfl (st1 := fun x3 => [.int x3]) (fun _ => rfl) (ok_X12_upToFour hQ c2 v4) (fun x3 c4 => ?_)
      refine l1_many mt_X12_readDigits (pc' := 205) (L' := [some (.ref 201), some (.int v1), some (.long v2), none, some (.int v4), none, some (.int x3)]) (st' := [.int (x3 + v2.toInt32)]) 5 rfl ?_
      refine l1_callS mt_X12_readDigits mt_X12_upToFour rfl rfl (As := [.int (x3 + v2.toInt32)]) (rest := []) rfl rfl rfl (st1 := fun x5 => [.int x5]) (fun _ => rfl) (ok_X12_upToFour hQ c4 (x3 + v2.toInt32)) (fun x5 c6 => ?_)
      refine l1_many mt_X12_readDigits (pc' := 214) (L' := [some (.ref 201), some (.int v1), some (.long v2), none, some (.int v4), none, some (.int x3), some (.int x5)]) (st' := [.long x5.toInt64, .ref 201]) 4 rfl ?_
      refine l1_callV hQ mt_X12_readDigits mt_X12_reaches rfl rfl (o := 201) (ci := 11) (As := [.long x5.toInt64]) (rest := []) rfl rfl rfl rfl rfl rfl (st1 := fun x7 => [.int x7]) (fun _ => rfl) (ok_X12_reaches hQ c6 x5.toInt64) (fun x7 c8 => ?_)
      refine l1_many mt_X12_readDigits (pc' := bif am_cc .ne x7 0 then 222 else 220) (L' := [some (.ref 201), some (.int v1), some (.long v2), none, some (.int v4), none, some (.int x3), some (.int x5)]) (st' := []) 1 rfl ?_
      refine l1_bin rfl ?_ ?_
      · refine l1_many mt_X12_readDigits (pc' := 221) (L' := [some (.ref 201), some (.int v1), some (.long v2), none, some (.int v4), none, some (.int x3), some (.int x5)]) (st' := [.int 0]) 1 rfl ?_
        exact l1_ret mt_X12_readDigits rfl rfl rfl
      · refine l1_many mt_X12_readDigits (pc' := 227) (L' := [some (.ref 201), some (.int v1), some (.long v2), none, some (.int v4), none, some (.int x3), some (.int x5)]) (st' := [.int v2.toInt32, .int x3, .ref 201]) 4 rfl ?_
        refine l1_callV hQ mt_X12_readDigits mt_X12_takeBytes rfl rfl (o := 201) (ci := 11) (As := [.int x3, .int v2.toInt32]) (rest := []) rfl rfl rfl rfl rfl rfl (st1 := fun _ => []) (fun _ => rfl) (ok_X12_takeBytes hQ N c8 x3 v2.toInt32) (fun _ c9 => ?_)
        refine l1_many mt_X12_readDigits (pc' := 232) (L' := [some (.ref 201), some (.int v1), some (.long v2), none, some (.int v4), none, some (.int x3), some (.int x5)]) (st' := [.int v1, .ref 201]) 2 rfl ?_
        refine l1_callV hQ mt_X12_readDigits mt_X12_comes rfl rfl (o := 201) (ci := 11) (As := [.int v1]) (rest := []) rfl rfl rfl rfl rfl rfl (st1 := fun x10 => [.int x10]) (fun _ => rfl) (ok_X12_comes hQ N c9 v1) (fun x10 c11 => ?_)
        refine l1_many mt_X12_readDigits (pc' := bif am_cc .ne x10 0 then 240 else 238) (L' := [some (.ref 201), some (.int v1), some (.long v2), none, some (.int v4), none, some (.int x3), some (.int x5)]) (st' := []) 1 rfl ?_
        refine l1_bin rfl ?_ ?_
        · refine l1_many mt_X12_readDigits (pc' := 239) (L' := [some (.ref 201), some (.int v1), some (.long v2), none, some (.int v4), none, some (.int x3), some (.int x5)]) (st' := [.int 0]) 1 rfl ?_
          exact l1_ret mt_X12_readDigits rfl rfl rfl
        · refine l1_many mt_X12_readDigits (pc' := 2) (L' := [some (.ref 201), some (.int x5), some (.long v2), none, some (.int v4), none, some (.int x3), some (.int x5)]) (st' := []) 3 rfl ?_
          refine l1_weak (m := [true, true, false, false, false, false, false, false]) (L' := [some (.ref 201), some (.int x5)]) rfl ?_
          exact hk2 c11 x5
  · refine l1_many mt_X12_readDigits (pc' := 171) (L' := [some (.ref 201), some (.int v1), some (.long v2), none, some (.int v4)]) (st' := [.int (v1 + 54), .int 7, .ref 201]) 5 rfl ?_
    refine l1_callV hQ mt_X12_readDigits mt_X12_fails rfl rfl (o := 201) (ci := 11) (As := [.int 7, .int (v1 + 54)]) (rest := []) rfl rfl rfl rfl rfl rfl (st1 := fun x14 => [.int x14]) (fun _ => rfl) (ok_X12_fails hQ c 7 (v1 + 54)) (fun x14 c15 => ?_)
    refine l1_ck (fun hz => ?_)
    exact l1_retZ mt_X12_readDigits rfl rfl rfl hz
set_option maxRecDepth 100000 in
theorem ok_X12_readDigits_142 {Q : hS → am_H → Prop} (hQ : l1_em km Q) (N : Nat) {k2 : hS → Int32 → Option (Int32 × hS)} (hk2 : ∀ c v1, l1_G (wN wI) Q am_i_X12_readDigits 2 [some (.ref 201), some (.int v1)] [] c (k2 c v1)) : ∀ (c : hS) (v1 : Int32) (v2 : Int64) (v4 : Int32) (w0 : Int32), l1_G (wN wI) Q am_i_X12_readDigits 142 [some (.ref 201), some (.int v1), some (.long v2), none, some (.int v4)] [.int w0, .ref 201] c (f_X12_readDigits_142 N k2 c v1 v2 v4 w0) := by
  intro c v1 v2 v4 w0
  rw [f_X12_readDigits_142]
  refine l1_ck (fun hz => ?_)
  refine l1_putI hQ mt_X12_readDigits rfl (o := 201) (ci := 11) (k := 18) (a := 0) rfl rfl rfl rfl rfl (l1_fz (ci := 11) (j := 18) rfl hz) (fun c1 => ?_)
  refine l1_many mt_X12_readDigits (pc' := 147) (L' := [some (.ref 201), some (.int v1), some (.long v2), none, some (.int v4)]) (st' := [.ref 201, .long v2]) 2 rfl ?_
  refine l1_getI hQ mt_X12_readDigits rfl (o := 201) (ci := 11) (k := 18) (a := 0) (b := 0) rfl rfl rfl rfl rfl ?_
  refine l1_many mt_X12_readDigits (pc' := bif am_cc .eq (c1.1 201 18) 0 then 157 else 153) (L' := [some (.ref 201), some (.int v1), some (.long v2), none, some (.int v4)]) (st' := [.long v2]) 1 rfl ?_
  refine l1_bif rfl ?_ ?_
  · refine l1_many mt_X12_readDigits (pc' := 160) (L' := [some (.ref 201), some (.int v1), some (.long v2), none, some (.int v4)]) (st' := [.long 400, .long v2]) 1 rfl ?_
    exact ok_X12_readDigits_160 hQ N hk2 c1 v1 v2 v4 400 v2
  · refine l1_many mt_X12_readDigits (pc' := 160) (L' := [some (.ref 201), some (.int v1), some (.long v2), none, some (.int v4)]) (st' := [.long 0, .long v2]) 2 rfl ?_
    exact ok_X12_readDigits_160 hQ N hk2 c1 v1 v2 v4 0 v2
set_option maxRecDepth 100000 in
theorem ok_X12_readDigits_107 {Q : hS → am_H → Prop} (hQ : l1_em km Q) (N : Nat) {k2 : hS → Int32 → Option (Int32 × hS)} (hk2 : ∀ c v1, l1_G (wN wI) Q am_i_X12_readDigits 2 [some (.ref 201), some (.int v1)] [] c (k2 c v1)) : ∀ (c : hS) (v1 : Int32) (v2 : Int64) (v4 : Int32) (v5 : Int32), l1_G (wN wI) Q am_i_X12_readDigits 107 [some (.ref 201), some (.int v1), some (.long v2), none, some (.int v4), some (.int v5)] [] c (f_X12_readDigits_107 N k2 c v1 v2 v4 v5) := by
  intro c v1 v2 v4 v5
  rw [f_X12_readDigits_107]
  refine l1_many mt_X12_readDigits (pc' := 112) (L' := [some (.ref 201), some (.int v1), some (.long v2), none, some (.int v4), some (.int v5)]) (st' := [.int (v1 + 102), .ref 201]) 4 rfl ?_
  refine l1_callV hQ mt_X12_readDigits mt_X12_hexAt rfl rfl (o := 201) (ci := 11) (As := [.int (v1 + 102)]) (rest := []) rfl rfl rfl rfl rfl rfl (st1 := fun x1 => [.long x1]) (fun _ => rfl) (ok_X12_hexAt hQ N c (v1 + 102)) (fun x1 c2 => ?_)
  refine l1_many mt_X12_readDigits (pc' := bif am_cc .eq (j_cmp x1 0) 0 then 130 else 120) (L' := [some (.ref 201), some (.int v1), some (.long v2), none, some (.int v4), some (.int v5)]) (st' := []) 3 rfl ?_
  refine l1_bif rfl ?_ ?_
  · refine l1_many mt_X12_readDigits (pc' := bif am_cc .ne v5 4 then 141 else 137) (L' := [some (.ref 201), some (.int v1), some (.long v2), none, some (.int v4), some (.int v5)]) (st' := [.ref 201]) 4 rfl ?_
    refine l1_bin rfl ?_ ?_
    · refine l1_many mt_X12_readDigits (pc' := 142) (L' := [some (.ref 201), some (.int v1), some (.long v2), none, some (.int v4), some (.int v5)]) (st' := [.int 1, .ref 201]) 2 rfl ?_
      refine l1_weak (m := [true, true, true, false, true, false, false, false]) (L' := [some (.ref 201), some (.int v1), some (.long v2), none, some (.int v4)]) rfl ?_
      exact ok_X12_readDigits_142 hQ N hk2 c2 v1 v2 v4 1
    · refine l1_many mt_X12_readDigits (pc' := 142) (L' := [some (.ref 201), some (.int v1), some (.long v2), none, some (.int v4), some (.int v5)]) (st' := [.int 0, .ref 201]) 1 rfl ?_
      refine l1_weak (m := [true, true, true, false, true, false, false, false]) (L' := [some (.ref 201), some (.int v1), some (.long v2), none, some (.int v4)]) rfl ?_
      exact ok_X12_readDigits_142 hQ N hk2 c2 v1 v2 v4 0
  · refine l1_many mt_X12_readDigits (pc' := 126) (L' := [some (.ref 201), some (.int v1), some (.long v2), none, some (.int v4), some (.int v5)]) (st' := [.int (v1 + 102), .int 4, .ref 201]) 5 rfl ?_
    refine l1_callV hQ mt_X12_readDigits mt_X12_fails rfl rfl (o := 201) (ci := 11) (As := [.int 4, .int (v1 + 102)]) (rest := []) rfl rfl rfl rfl rfl rfl (st1 := fun x3 => [.int x3]) (fun _ => rfl) (ok_X12_fails hQ c2 4 (v1 + 102)) (fun x3 c4 => ?_)
    refine l1_ck (fun hz => ?_)
    exact l1_retZ mt_X12_readDigits rfl rfl rfl hz
set_option maxRecDepth 100000 in
theorem ok_X12_readDigits_2 {Q : hS → am_H → Prop} (hQ : l1_em km Q) (N : Nat) : ∀ n : Nat, ∀ (c : hS) (v1 : Int32), l1_G (wN wI) Q am_i_X12_readDigits 2 [some (.ref 201), some (.int v1)] [] c (f_X12_readDigits_2 N n c v1) := by
  intro n
  induction n with
  | zero => intro c v1; exact l1_none
  | succ n ih =>
    intro c v1
    rw [f_X12_readDigits_2]
    refine l1_many mt_X12_readDigits (pc' := 4) (L' := [some (.ref 201), some (.int v1)]) (st' := [.int v1, .ref 201]) 2 rfl ?_
    refine l1_callV hQ mt_X12_readDigits mt_X12_readDigitsHead rfl rfl (o := 201) (ci := 11) (As := [.int v1]) (rest := []) rfl rfl rfl rfl rfl rfl (st1 := fun x1 => [.int x1]) (fun _ => rfl) (ok_X12_readDigitsHead hQ N c v1) (fun x1 c2 => ?_)
    refine l1_many mt_X12_readDigits (pc' := bif am_cc .ne x1 0 then 12 else 10) (L' := [some (.ref 201), some (.int v1)]) (st' := []) 1 rfl ?_
    refine l1_bin rfl ?_ ?_
    · refine l1_many mt_X12_readDigits (pc' := 11) (L' := [some (.ref 201), some (.int v1)]) (st' := [.int 0]) 1 rfl ?_
      exact l1_ret mt_X12_readDigits rfl rfl rfl
    · refine l1_many mt_X12_readDigits (pc' := 17) (L' := [some (.ref 201), some (.int v1)]) (st' := [.int (v1 + 54), .ref 201]) 4 rfl ?_
      refine l1_callV hQ mt_X12_readDigits mt_X12_hexAt rfl rfl (o := 201) (ci := 11) (As := [.int (v1 + 54)]) (rest := []) rfl rfl rfl rfl rfl rfl (st1 := fun x3 => [.long x3]) (fun _ => rfl) (ok_X12_hexAt hQ N c2 (v1 + 54)) (fun x3 c4 => ?_)
      refine l1_many mt_X12_readDigits (pc' := 26) (L' := [some (.ref 201), some (.int v1), some (.long x3)]) (st' := [.ref 201, .int (v1 + 111)]) 5 rfl ?_
      refine l1_getI hQ mt_X12_readDigits rfl (o := 201) (ci := 11) (k := 14) (a := 0) (b := 0) rfl rfl rfl rfl rfl ?_
      refine l1_many mt_X12_readDigits (pc' := 33) (L' := [some (.ref 201), some (.int v1), some (.long x3), none, some (.int ((v1 + 111) + (c4.1 201 14)))]) (st' := [.ref 201]) 3 rfl ?_
      refine l1_callV hQ mt_X12_readDigits mt_X12_isTrailer rfl rfl (o := 201) (ci := 11) (As := []) (rest := []) rfl rfl rfl rfl rfl rfl (st1 := fun x5 => [.int x5]) (fun _ => rfl) (ok_X12_isTrailer hQ N c4) (fun x5 c6 => ?_)
      refine l1_many mt_X12_readDigits (pc' := bif am_cc .eq x5 0 then 65 else 39) (L' := [some (.ref 201), some (.int v1), some (.long x3), none, some (.int ((v1 + 111) + (c4.1 201 14)))]) (st' := []) 1 rfl ?_
      refine l1_bif rfl ?_ ?_
      · refine l1_many mt_X12_readDigits (pc' := 70) (L' := [some (.ref 201), some (.int v1), some (.long x3), none, some (.int ((v1 + 111) + (c4.1 201 14)))]) (st' := [.int (v1 + 14), .ref 201]) 4 rfl ?_
        refine l1_callV hQ mt_X12_readDigits mt_X12_hexAt rfl rfl (o := 201) (ci := 11) (As := [.int (v1 + 14)]) (rest := []) rfl rfl rfl rfl rfl rfl (st1 := fun x7 => [.long x7]) (fun _ => rfl) (ok_X12_hexAt hQ N c6 (v1 + 14)) (fun x7 c8 => ?_)
        refine l1_many mt_X12_readDigits (pc' := bif am_cc .eq (((j_lshr x7 12) &&& 15).toInt32) 8 then 107 else 90) (L' := [some (.ref 201), some (.int v1), some (.long x3), none, some (.int ((v1 + 111) + (c4.1 201 14))), some (.int (((j_lshr x7 12) &&& 15).toInt32))]) (st' := []) 9 rfl ?_
        refine l1_bif rfl ?_ ?_
        · exact ok_X12_readDigits_107 hQ N ih c8 v1 x3 ((v1 + 111) + (c4.1 201 14)) (((j_lshr x7 12) &&& 15).toInt32)
        · refine l1_many mt_X12_readDigits (pc' := bif am_cc .eq (((j_lshr x7 12) &&& 15).toInt32) 4 then 107 else 96) (L' := [some (.ref 201), some (.int v1), some (.long x3), none, some (.int ((v1 + 111) + (c4.1 201 14))), some (.int (((j_lshr x7 12) &&& 15).toInt32))]) (st' := []) 3 rfl ?_
          refine l1_bif rfl ?_ ?_
          · exact ok_X12_readDigits_107 hQ N ih c8 v1 x3 ((v1 + 111) + (c4.1 201 14)) (((j_lshr x7 12) &&& 15).toInt32)
          · refine l1_many mt_X12_readDigits (pc' := 103) (L' := [some (.ref 201), some (.int v1), some (.long x3), none, some (.int ((v1 + 111) + (c4.1 201 14))), some (.int (((j_lshr x7 12) &&& 15).toInt32))]) (st' := [.int (v1 + 14), .int 8, .ref 201]) 5 rfl ?_
            refine l1_callV hQ mt_X12_readDigits mt_X12_fails rfl rfl (o := 201) (ci := 11) (As := [.int 8, .int (v1 + 14)]) (rest := []) rfl rfl rfl rfl rfl rfl (st1 := fun x9 => [.int x9]) (fun _ => rfl) (ok_X12_fails hQ c8 8 (v1 + 14)) (fun x9 c10 => ?_)
            refine l1_ck (fun hz => ?_)
            exact l1_retZ mt_X12_readDigits rfl rfl rfl hz
      · refine l1_many mt_X12_readDigits (pc' := bif am_cc .ne (j_cmp x3 0) 0 then 54 else 45) (L' := [some (.ref 201), some (.int v1), some (.long x3), none, some (.int ((v1 + 111) + (c4.1 201 14)))]) (st' := []) 4 rfl ?_
        refine l1_bin rfl ?_ ?_
        · refine l1_many mt_X12_readDigits (pc' := 48) (L' := [some (.ref 201), some (.int v1), some (.long x3), none, some (.int ((v1 + 111) + (c4.1 201 14)))]) (st' := [.int ((v1 + 111) + (c4.1 201 14)), .ref 201]) 2 rfl ?_
          refine l1_callV hQ mt_X12_readDigits mt_X12_areZeros rfl rfl (o := 201) (ci := 11) (As := [.int ((v1 + 111) + (c4.1 201 14))]) (rest := []) rfl rfl rfl rfl rfl rfl (st1 := fun x13 => [.int x13]) (fun _ => rfl) (ok_X12_areZeros hQ N c6 ((v1 + 111) + (c4.1 201 14))) (fun x13 c14 => ?_)
          refine l1_many mt_X12_readDigits (pc' := 64) (L' := [some (.ref 201), some (.int v1), some (.long x3), none, some (.int ((v1 + 111) + (c4.1 201 14)))]) (st' := [.int x13]) 1 rfl ?_
          refine l1_ck (fun hz => ?_)
          exact l1_retZ mt_X12_readDigits rfl rfl rfl hz
        · refine l1_many mt_X12_readDigits (pc' := 61) (L' := [some (.ref 201), some (.int v1), some (.long x3), none, some (.int ((v1 + 111) + (c4.1 201 14)))]) (st' := [.int (v1 + 54), .int 7, .ref 201]) 5 rfl ?_
          refine l1_callV hQ mt_X12_readDigits mt_X12_fails rfl rfl (o := 201) (ci := 11) (As := [.int 7, .int (v1 + 54)]) (rest := []) rfl rfl rfl rfl rfl rfl (st1 := fun x11 => [.int x11]) (fun _ => rfl) (ok_X12_fails hQ c6 7 (v1 + 54)) (fun x11 c12 => ?_)
          refine l1_ck (fun hz => ?_)
          exact l1_retZ mt_X12_readDigits rfl rfl rfl hz
set_option maxRecDepth 100000 in
theorem en_X12_readDigits {Q : hS → am_H → Prop} (hQ : l1_em km Q) (N : Nat) (c : hS) : l1_G (wN wI) Q am_i_X12_readDigits 0 [some (.ref 201)] [] c (f_X12_readDigits N c) := by
  rw [f_X12_readDigits]
  refine l1_many mt_X12_readDigits (pc' := 2) (L' := [some (.ref 201), some (.int 0)]) (st' := []) 2 rfl ?_
  exact ok_X12_readDigits_2 hQ N N c 0
theorem ok_X12_readDigits {Q : hS → am_H → Prop} (hQ : l1_em km Q) (N : Nat) (c : hS) : l1_T wI Q am_i_X12_readDigits [.ref 201] c (f_X12_readDigits N c) := l1_of (en_X12_readDigits hQ N c) ⟨rfl, trivial⟩
set_option maxRecDepth 100000 in
theorem en_X12_twoAt {Q : hS → am_H → Prop} (hQ : l1_em km Q) (c : hS) (p1 : Int32) : l1_G (wN wI) Q am_i_X12_twoAt 0 [some (.ref 201), some (.int p1)] [] c (f_X12_twoAt c p1) := by
  rw [f_X12_twoAt]
  refine l1_many mt_X12_twoAt (pc' := 1) (L' := [some (.ref 201), some (.int p1)]) (st' := [.ref 201]) 1 rfl ?_
  refine l1_getR hQ mt_X12_twoAt rfl (o := 201) (ci := 11) (k := 3) (a := 0) (b := 0) rfl rfl rfl rfl rfl (q := 203) rfl ?_
  refine l1_many mt_X12_twoAt (pc' := 5) (L' := [some (.ref 201), some (.int p1)]) (st' := [.int p1, .ref 203]) 1 rfl ?_
  refine l1_ck (fun hx => ?_)
  refine l1_ald hQ mt_X12_twoAt rfl (o := 203) rfl hx ?_
  refine l1_many mt_X12_twoAt (pc' := 7) (L' := [some (.ref 201), some (.int p1)]) (st' := [.ref 201, .int (c.1 203 p1.toNatClampNeg)]) 1 rfl ?_
  refine l1_getR hQ mt_X12_twoAt rfl (o := 201) (ci := 11) (k := 3) (a := 0) (b := 0) rfl rfl rfl rfl rfl (q := 203) rfl ?_
  refine l1_many mt_X12_twoAt (pc' := 13) (L' := [some (.ref 201), some (.int p1)]) (st' := [.int (p1 + 1), .ref 203, .int (c.1 203 p1.toNatClampNeg)]) 3 rfl ?_
  refine l1_ck (fun hx => ?_)
  refine l1_ald hQ mt_X12_twoAt rfl (o := 203) rfl hx ?_
  refine l1_many mt_X12_twoAt (pc' := 18) (L' := [some (.ref 201), some (.int p1)]) (st' := [.int ((c.1 203 p1.toNatClampNeg) ||| (j_shl (c.1 203 (p1 + 1).toNatClampNeg) 8))]) 3 rfl ?_
  exact l1_ret mt_X12_twoAt rfl rfl rfl
theorem ok_X12_twoAt {Q : hS → am_H → Prop} (hQ : l1_em km Q) (c : hS) (p1 : Int32) : l1_T wI Q am_i_X12_twoAt [.ref 201, .int p1] c (f_X12_twoAt c p1) := l1_of (en_X12_twoAt hQ c p1) ⟨rfl, rfl, trivial⟩
set_option maxRecDepth 100000 in
theorem en_X12_fourAt {Q : hS → am_H → Prop} (hQ : l1_em km Q) (c : hS) (p1 : Int32) : l1_G (wN wL) Q am_i_X12_fourAt 0 [some (.ref 201), some (.int p1)] [] c (f_X12_fourAt c p1) := by
  rw [f_X12_fourAt]
  refine l1_many mt_X12_fourAt (pc' := 2) (L' := [some (.ref 201), some (.int p1)]) (st' := [.int p1, .ref 201]) 2 rfl ?_
  refine l1_callV hQ mt_X12_fourAt mt_X12_twoAt rfl rfl (o := 201) (ci := 11) (As := [.int p1]) (rest := []) rfl rfl rfl rfl rfl rfl (st1 := fun x1 => [.int x1]) (fun _ => rfl) (ok_X12_twoAt hQ c p1) (fun x1 c2 => ?_)
  refine l1_many mt_X12_fourAt (pc' := 10) (L' := [some (.ref 201), some (.int p1)]) (st' := [.int (p1 + 2), .ref 201, .long x1.toInt64]) 5 rfl ?_
  refine l1_callV hQ mt_X12_fourAt mt_X12_twoAt rfl rfl (o := 201) (ci := 11) (As := [.int (p1 + 2)]) (rest := [.long x1.toInt64]) rfl rfl rfl rfl rfl rfl (st1 := fun x3 => [.int x3, .long x1.toInt64]) (fun _ => rfl) (ok_X12_twoAt hQ c2 (p1 + 2)) (fun x3 c4 => ?_)
  refine l1_many mt_X12_fourAt (pc' := 18) (L' := [some (.ref 201), some (.int p1)]) (st' := [.long (x1.toInt64 ||| (j_lshl x3.toInt64 16))]) 4 rfl ?_
  exact l1_ret mt_X12_fourAt rfl rfl rfl
theorem ok_X12_fourAt {Q : hS → am_H → Prop} (hQ : l1_em km Q) (c : hS) (p1 : Int32) : l1_T wL Q am_i_X12_fourAt [.ref 201, .int p1] c (f_X12_fourAt c p1) := l1_of (en_X12_fourAt hQ c p1) ⟨rfl, rfl, trivial⟩
set_option maxRecDepth 100000 in
theorem ok_X12_isZeroAt_19 {Q : hS → am_H → Prop} (hQ : l1_em km Q) (p1 : Int32) (p2 : Int32) (p3 : Int32) : ∀ (c : hS) (w0 : Int64), l1_G (wN wI) Q am_i_X12_isZeroAt 19 [some (.ref 201), some (.int p1), none, some (.int p3)] [.long w0] c (f_X12_isZeroAt_19 p1 p2 p3 c w0) := by
  intro c w0
  rw [f_X12_isZeroAt_19]
  refine l1_many mt_X12_isZeroAt (pc' := bif am_cc .eq (j_cmp w0 0) 0 then 33 else 24) (L' := [some (.ref 201), some (.int p1), none, some (.int p3)]) (st' := []) 3 rfl ?_
  refine l1_bif rfl ?_ ?_
  · refine l1_many mt_X12_isZeroAt (pc' := 38) (L' := [some (.ref 201), some (.int p1), none, some (.int p3)]) (st' := [.int 1]) 2 rfl ?_
    exact l1_ret mt_X12_isZeroAt rfl rfl rfl
  · refine l1_many mt_X12_isZeroAt (pc' := 27) (L' := [some (.ref 201), some (.int p1), none, some (.int p3)]) (st' := [.int p1, .int p3, .ref 201]) 3 rfl ?_
    refine l1_callV hQ mt_X12_isZeroAt mt_X12_fails rfl rfl (o := 201) (ci := 11) (As := [.int p3, .int p1]) (rest := []) rfl rfl rfl rfl rfl rfl (st1 := fun x1 => [.int x1]) (fun _ => rfl) (ok_X12_fails hQ c p3 p1) (fun x1 c2 => ?_)
    refine l1_many mt_X12_isZeroAt (pc' := bif am_cc .eq x1 0 then 37 else 33) (L' := [some (.ref 201), some (.int p1), none, some (.int p3)]) (st' := []) 1 rfl ?_
    refine l1_bif rfl ?_ ?_
    · refine l1_many mt_X12_isZeroAt (pc' := 38) (L' := [some (.ref 201), some (.int p1), none, some (.int p3)]) (st' := [.int 0]) 1 rfl ?_
      exact l1_ret mt_X12_isZeroAt rfl rfl rfl
    · refine l1_many mt_X12_isZeroAt (pc' := 38) (L' := [some (.ref 201), some (.int p1), none, some (.int p3)]) (st' := [.int 1]) 2 rfl ?_
      exact l1_ret mt_X12_isZeroAt rfl rfl rfl
set_option maxRecDepth 100000 in
theorem en_X12_isZeroAt {Q : hS → am_H → Prop} (hQ : l1_em km Q) (c : hS) (p1 : Int32) (p2 : Int32) (p3 : Int32) : l1_G (wN wI) Q am_i_X12_isZeroAt 0 [some (.ref 201), some (.int p1), some (.int p2), some (.int p3)] [] c (f_X12_isZeroAt c p1 p2 p3) := by
  rw [f_X12_isZeroAt]
  refine l1_many mt_X12_isZeroAt (pc' := bif am_cc .ne p2 2 then 14 else 5) (L' := [some (.ref 201), some (.int p1), some (.int p2), some (.int p3)]) (st' := []) 3 rfl ?_
  refine l1_bin rfl ?_ ?_
  · refine l1_many mt_X12_isZeroAt (pc' := 7) (L' := [some (.ref 201), some (.int p1), some (.int p2), some (.int p3)]) (st' := [.int p1, .ref 201]) 2 rfl ?_
    refine l1_callV hQ mt_X12_isZeroAt mt_X12_twoAt rfl rfl (o := 201) (ci := 11) (As := [.int p1]) (rest := []) rfl rfl rfl rfl rfl rfl (st1 := fun x3 => [.int x3]) (fun _ => rfl) (ok_X12_twoAt hQ c p1) (fun x3 c4 => ?_)
    refine l1_many mt_X12_isZeroAt (pc' := 19) (L' := [some (.ref 201), some (.int p1), some (.int p2), some (.int p3)]) (st' := [.long x3.toInt64]) 2 rfl ?_
    refine l1_weak (m := [true, true, false, true]) (L' := [some (.ref 201), some (.int p1), none, some (.int p3)]) rfl ?_
    exact ok_X12_isZeroAt_19 hQ p1 p2 p3 c4 x3.toInt64
  · refine l1_many mt_X12_isZeroAt (pc' := 16) (L' := [some (.ref 201), some (.int p1), some (.int p2), some (.int p3)]) (st' := [.int p1, .ref 201]) 2 rfl ?_
    refine l1_callV hQ mt_X12_isZeroAt mt_X12_fourAt rfl rfl (o := 201) (ci := 11) (As := [.int p1]) (rest := []) rfl rfl rfl rfl rfl rfl (st1 := fun x1 => [.long x1]) (fun _ => rfl) (ok_X12_fourAt hQ c p1) (fun x1 c2 => ?_)
    refine l1_weak (m := [true, true, false, true]) (L' := [some (.ref 201), some (.int p1), none, some (.int p3)]) rfl ?_
    exact ok_X12_isZeroAt_19 hQ p1 p2 p3 c2 x1
theorem ok_X12_isZeroAt {Q : hS → am_H → Prop} (hQ : l1_em km Q) (c : hS) (p1 : Int32) (p2 : Int32) (p3 : Int32) : l1_T wI Q am_i_X12_isZeroAt [.ref 201, .int p1, .int p2, .int p3] c (f_X12_isZeroAt c p1 p2 p3) := l1_of (en_X12_isZeroAt hQ c p1 p2 p3) ⟨rfl, rfl, rfl, rfl, trivial⟩
set_option maxRecDepth 100000 in
theorem en_X12_readEnd {Q : hS → am_H → Prop} (hQ : l1_em km Q) (N : Nat) (c : hS) (p1 : Int32) : l1_G (wN wI) Q am_i_X12_readEnd 0 [some (.ref 201), some (.int p1)] [] c (f_X12_readEnd N c p1) := by
  rw [f_X12_readEnd]
  refine l1_many mt_X12_readEnd (pc' := 10) (L' := [some (.ref 201), some (.int p1)]) (st' := [.int 3, .int 6, .int 5, .int 75, .int 80, .int p1, .ref 201]) 7 rfl ?_
  refine l1_callV hQ mt_X12_readEnd mt_X12_isRow rfl rfl (o := 201) (ci := 11) (As := [.int p1, .int 80, .int 75, .int 5, .int 6, .int 3]) (rest := []) rfl rfl rfl rfl rfl rfl (st1 := fun x1 => [.int x1]) (fun _ => rfl) (ok_X12_isRow hQ N c p1 80 75 5 6 3) (fun x1 c2 => ?_)
  refine l1_many mt_X12_readEnd (pc' := bif am_cc .eq x1 0 then 43 else 16) (L' := [some (.ref 201), some (.int p1)]) (st' := []) 1 rfl ?_
  refine l1_bif rfl ?_ ?_
  · refine l1_many mt_X12_readEnd (pc' := 44) (L' := [some (.ref 201), some (.int p1)]) (st' := [.int 0]) 1 rfl ?_
    exact l1_ret mt_X12_readEnd rfl rfl rfl
  · refine l1_many mt_X12_readEnd (pc' := 23) (L' := [some (.ref 201), some (.int p1)]) (st' := [.int 6, .int 2, .int (p1 + 4), .ref 201]) 6 rfl ?_
    refine l1_callV hQ mt_X12_readEnd mt_X12_isZeroAt rfl rfl (o := 201) (ci := 11) (As := [.int (p1 + 4), .int 2, .int 6]) (rest := []) rfl rfl rfl rfl rfl rfl (st1 := fun x3 => [.int x3]) (fun _ => rfl) (ok_X12_isZeroAt hQ c2 (p1 + 4) 2 6) (fun x3 c4 => ?_)
    refine l1_many mt_X12_readEnd (pc' := bif am_cc .eq x3 0 then 43 else 29) (L' := [some (.ref 201), some (.int p1)]) (st' := []) 1 rfl ?_
    refine l1_bif rfl ?_ ?_
    · refine l1_many mt_X12_readEnd (pc' := 44) (L' := [some (.ref 201), some (.int p1)]) (st' := [.int 0]) 1 rfl ?_
      exact l1_ret mt_X12_readEnd rfl rfl rfl
    · refine l1_many mt_X12_readEnd (pc' := 37) (L' := [some (.ref 201), some (.int p1)]) (st' := [.int 6, .int 2, .int (p1 + 6), .ref 201]) 6 rfl ?_
      refine l1_callV hQ mt_X12_readEnd mt_X12_isZeroAt rfl rfl (o := 201) (ci := 11) (As := [.int (p1 + 6), .int 2, .int 6]) (rest := []) rfl rfl rfl rfl rfl rfl (st1 := fun x5 => [.int x5]) (fun _ => rfl) (ok_X12_isZeroAt hQ c4 (p1 + 6) 2 6) (fun x5 c6 => ?_)
      refine l1_many mt_X12_readEnd (pc' := bif am_cc .ne x5 0 then 45 else 43) (L' := [some (.ref 201), some (.int p1)]) (st' := []) 1 rfl ?_
      refine l1_bin rfl ?_ ?_
      · refine l1_many mt_X12_readEnd (pc' := 44) (L' := [some (.ref 201), some (.int p1)]) (st' := [.int 0]) 1 rfl ?_
        exact l1_ret mt_X12_readEnd rfl rfl rfl
      · refine l1_many mt_X12_readEnd (pc' := 50) (L' := [some (.ref 201), some (.int p1)]) (st' := [.int (p1 + 8), .ref 201]) 4 rfl ?_
        refine l1_callV hQ mt_X12_readEnd mt_X12_twoAt rfl rfl (o := 201) (ci := 11) (As := [.int (p1 + 8)]) (rest := []) rfl rfl rfl rfl rfl rfl (st1 := fun x7 => [.int x7]) (fun _ => rfl) (ok_X12_twoAt hQ c6 (p1 + 8)) (fun x7 c8 => ?_)
        refine l1_many mt_X12_readEnd (pc' := 58) (L' := [some (.ref 201), some (.int p1)]) (st' := [.int (p1 + 10), .ref 201, .int x7]) 4 rfl ?_
        refine l1_callV hQ mt_X12_readEnd mt_X12_twoAt rfl rfl (o := 201) (ci := 11) (As := [.int (p1 + 10)]) (rest := [.int x7]) rfl rfl rfl rfl rfl rfl (st1 := fun x9 => [.int x9, .int x7]) (fun _ => rfl) (ok_X12_twoAt hQ c8 (p1 + 10)) (fun x9 c10 => ?_)
        refine l1_many mt_X12_readEnd (pc' := bif am_cc .eq x7 x9 then 75 else 64) (L' := [some (.ref 201), some (.int p1)]) (st' := []) 1 rfl ?_
        refine l1_bif rfl ?_ ?_
        · refine l1_many mt_X12_readEnd (pc' := 80) (L' := [some (.ref 201), some (.int p1)]) (st' := [.int (p1 + 10), .ref 201]) 4 rfl ?_
          refine l1_callV hQ mt_X12_readEnd mt_X12_twoAt rfl rfl (o := 201) (ci := 11) (As := [.int (p1 + 10)]) (rest := []) rfl rfl rfl rfl rfl rfl (st1 := fun x11 => [.int x11]) (fun _ => rfl) (ok_X12_twoAt hQ c10 (p1 + 10)) (fun x11 c12 => ?_)
          refine l1_many mt_X12_readEnd (pc' := bif am_cc .le x11 16 then 99 else 88) (L' := [some (.ref 201), some (.int p1)]) (st' := []) 2 rfl ?_
          refine l1_bif rfl ?_ ?_
          · refine l1_many mt_X12_readEnd (pc' := 104) (L' := [some (.ref 201), some (.int p1)]) (st' := [.int (p1 + 12), .ref 201]) 4 rfl ?_
            refine l1_callV hQ mt_X12_readEnd mt_X12_fourAt rfl rfl (o := 201) (ci := 11) (As := [.int (p1 + 12)]) (rest := []) rfl rfl rfl rfl rfl rfl (st1 := fun x13 => [.long x13]) (fun _ => rfl) (ok_X12_fourAt hQ c12 (p1 + 12)) (fun x13 c14 => ?_)
            refine l1_many mt_X12_readEnd (pc' := 112) (L' := [some (.ref 201), some (.int p1)]) (st' := [.int (p1 + 16), .ref 201, .long x13]) 4 rfl ?_
            refine l1_callV hQ mt_X12_readEnd mt_X12_fourAt rfl rfl (o := 201) (ci := 11) (As := [.int (p1 + 16)]) (rest := [.long x13]) rfl rfl rfl rfl rfl rfl (st1 := fun x15 => [.long x15, .long x13]) (fun _ => rfl) (ok_X12_fourAt hQ c14 (p1 + 16)) (fun x15 c16 => ?_)
            refine l1_many mt_X12_readEnd (pc' := bif am_cc .eq (j_cmp (x13 + x15) p1.toInt64) 0 then 133 else 122) (L' := [some (.ref 201), some (.int p1)]) (st' := []) 5 rfl ?_
            refine l1_bif rfl ?_ ?_
            · refine l1_many mt_X12_readEnd (pc' := 141) (L' := [some (.ref 201), some (.int p1)]) (st' := [.int 6, .int 2, .int (p1 + 20), .ref 201]) 6 rfl ?_
              refine l1_callV hQ mt_X12_readEnd mt_X12_isZeroAt rfl rfl (o := 201) (ci := 11) (As := [.int (p1 + 20), .int 2, .int 6]) (rest := []) rfl rfl rfl rfl rfl rfl (st1 := fun x17 => [.int x17]) (fun _ => rfl) (ok_X12_isZeroAt hQ c16 (p1 + 20) 2 6) (fun x17 c18 => ?_)
              refine l1_ck (fun hz => ?_)
              exact l1_retZ mt_X12_readEnd rfl rfl rfl hz
            · refine l1_many mt_X12_readEnd (pc' := 129) (L' := [some (.ref 201), some (.int p1)]) (st' := [.int (p1 + 12), .int 12, .ref 201]) 5 rfl ?_
              refine l1_callV hQ mt_X12_readEnd mt_X12_fails rfl rfl (o := 201) (ci := 11) (As := [.int 12, .int (p1 + 12)]) (rest := []) rfl rfl rfl rfl rfl rfl (st1 := fun x19 => [.int x19]) (fun _ => rfl) (ok_X12_fails hQ c16 12 (p1 + 12)) (fun x19 c20 => ?_)
              refine l1_ck (fun hz => ?_)
              exact l1_retZ mt_X12_readEnd rfl rfl rfl hz
          · refine l1_many mt_X12_readEnd (pc' := 95) (L' := [some (.ref 201), some (.int p1)]) (st' := [.int (p1 + 10), .int 11, .ref 201]) 5 rfl ?_
            refine l1_callV hQ mt_X12_readEnd mt_X12_fails rfl rfl (o := 201) (ci := 11) (As := [.int 11, .int (p1 + 10)]) (rest := []) rfl rfl rfl rfl rfl rfl (st1 := fun x21 => [.int x21]) (fun _ => rfl) (ok_X12_fails hQ c12 11 (p1 + 10)) (fun x21 c22 => ?_)
            refine l1_ck (fun hz => ?_)
            exact l1_retZ mt_X12_readEnd rfl rfl rfl hz
        · refine l1_many mt_X12_readEnd (pc' := 71) (L' := [some (.ref 201), some (.int p1)]) (st' := [.int (p1 + 8), .int 6, .ref 201]) 5 rfl ?_
          refine l1_callV hQ mt_X12_readEnd mt_X12_fails rfl rfl (o := 201) (ci := 11) (As := [.int 6, .int (p1 + 8)]) (rest := []) rfl rfl rfl rfl rfl rfl (st1 := fun x23 => [.int x23]) (fun _ => rfl) (ok_X12_fails hQ c10 6 (p1 + 8)) (fun x23 c24 => ?_)
          refine l1_ck (fun hz => ?_)
          exact l1_retZ mt_X12_readEnd rfl rfl rfl hz
theorem ok_X12_readEnd {Q : hS → am_H → Prop} (hQ : l1_em km Q) (N : Nat) (c : hS) (p1 : Int32) : l1_T wI Q am_i_X12_readEnd [.ref 201, .int p1] c (f_X12_readEnd N c p1) := l1_of (en_X12_readEnd hQ N c p1) ⟨rfl, rfl, trivial⟩
