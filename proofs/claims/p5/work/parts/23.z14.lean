/-! THAT THE MACHINE FOLLOWS THEM, printed by gen_l1.py -/
set_option maxRecDepth 100000 in
theorem ok_X12_readRow_161 {Q : hS → am_H → Prop} (hQ : l1_em km Q) (N : Nat) (p1 : Int32) (p2 : Int32) {k2 : hS → Int32 → Option (Int32 × hS)} (hk2 : ∀ c v3, l1_G (wN wI) Q am_i_X12_readRow 2 [some (.ref 201), some (.int p1), some (.int p2), some (.int v3)] [] c (k2 c v3)) : ∀ n : Nat, ∀ (c : hS) (v3 : Int32) (v5 : Int32) (v6 : Int32) (v7 : Int32), l1_G (wN wI) Q am_i_X12_readRow 161 [some (.ref 201), some (.int p1), some (.int p2), some (.int v3), none, some (.int v5), some (.int v6), some (.int v7)] [] c (f_X12_readRow_161 N p1 p2 k2 n c v3 v5 v6 v7) := by
  intro n
  induction n with
  | zero => intro c v3 v5 v6 v7; exact l1_none
  | succ n ih =>
    intro c v3 v5 v6 v7
    rw [f_X12_readRow_161]
    refine l1_many mt_X12_readRow (pc' := bif am_cc .ge v7 v5 then 185 else 168) (L' := [some (.ref 201), some (.int p1), some (.int p2), some (.int v3), none, some (.int v5), some (.int v6), some (.int v7)]) (st' := []) 3 rfl ?_
    refine l1_bif rfl ?_ ?_
    · refine l1_many mt_X12_readRow (pc' := 2) (L' := [some (.ref 201), some (.int p1), some (.int p2), some (.int v3), none, some (.int v5), some (.int v6), some (.int v7)]) (st' := []) 1 rfl ?_
      refine l1_weak (m := [true, true, true, true, false, false, false, false]) (L' := [some (.ref 201), some (.int p1), some (.int p2), some (.int v3)]) rfl ?_
      exact hk2 c v3
    · refine l1_many mt_X12_readRow (pc' := 169) (L' := [some (.ref 201), some (.int p1), some (.int p2), some (.int v3), none, some (.int v5), some (.int v6), some (.int v7)]) (st' := [.ref 201]) 1 rfl ?_
      refine l1_getR hQ mt_X12_readRow rfl (o := 201) (ci := 11) (k := 29) (a := 0) (b := 0) rfl rfl rfl rfl rfl (q := 214) rfl ?_
      refine l1_many mt_X12_readRow (pc' := 175) (L' := [some (.ref 201), some (.int p1), some (.int p2), some (.int v3), none, some (.int v5), some (.int v6), some (.int v7)]) (st' := [.int v6, .int v3, .ref 214]) 2 rfl ?_
      refine l1_ck (fun hx => ?_)
      refine l1_ast hQ mt_X12_readRow rfl (o := 214) rfl hx (fun c1 => ?_)
      refine l1_many mt_X12_readRow (pc' := 161) (L' := [some (.ref 201), some (.int p1), some (.int p2), some (.int (v3 + 1)), none, some (.int v5), some (.int v6), some (.int (v7 + 1))]) (st' := []) 3 rfl ?_
      exact ih c1 (v3 + 1) v5 v6 (v7 + 1)
set_option maxRecDepth 100000 in
theorem ok_X12_readRow_110 {Q : hS → am_H → Prop} (hQ : l1_em km Q) (N : Nat) (p1 : Int32) (p2 : Int32) {k2 : hS → Int32 → Option (Int32 × hS)} (hk2 : ∀ c v3, l1_G (wN wI) Q am_i_X12_readRow 2 [some (.ref 201), some (.int p1), some (.int p2), some (.int v3)] [] c (k2 c v3)) : ∀ (c : hS) (v3 : Int32) (v4 : Int32) (w0 : Int32), l1_G (wN wI) Q am_i_X12_readRow 110 [some (.ref 201), some (.int p1), some (.int p2), some (.int v3), some (.int v4)] [.int w0] c (f_X12_readRow_110 N p1 p2 k2 c v3 v4 w0) := by
  intro c v3 v4 w0
  rw [f_X12_readRow_110]
  refine l1_many mt_X12_readRow (pc' := 113) (L' := [some (.ref 201), some (.int p1), some (.int p2), some (.int v3), some (.int v4), some (.int w0)]) (st' := [.ref 201]) 2 rfl ?_
  refine l1_getI hQ mt_X12_readRow rfl (o := 201) (ci := 11) (k := 5) (a := 0) (b := 0) rfl rfl rfl rfl rfl ?_
  refine l1_many mt_X12_readRow (pc' := bif am_cc .eq (c.1 201 5) 0 then 121 else 119) (L' := [some (.ref 201), some (.int p1), some (.int p2), some (.int v3), some (.int v4), some (.int w0)]) (st' := []) 1 rfl ?_
  refine l1_bif rfl ?_ ?_
  · refine l1_many mt_X12_readRow (pc' := bif am_cc .le (v3 + w0) p1 then 137 else 129) (L' := [some (.ref 201), some (.int p1), some (.int p2), some (.int v3), some (.int v4), some (.int w0)]) (st' := []) 5 rfl ?_
    refine l1_bif rfl ?_ ?_
    · refine l1_many mt_X12_readRow (pc' := bif am_cc .ne v4 16 then 155 else 144) (L' := [some (.ref 201), some (.int p1), some (.int p2), some (.int v3), some (.int v4), some (.int w0)]) (st' := []) 3 rfl ?_
      refine l1_bin rfl ?_ ?_
      · refine l1_many mt_X12_readRow (pc' := 145) (L' := [some (.ref 201), some (.int p1), some (.int p2), some (.int v3), some (.int v4), some (.int w0)]) (st' := [.ref 201]) 1 rfl ?_
        refine l1_getR hQ mt_X12_readRow rfl (o := 201) (ci := 11) (k := 29) (a := 0) (b := 0) rfl rfl rfl rfl rfl (q := 214) rfl ?_
        refine l1_many mt_X12_readRow (pc' := 151) (L' := [some (.ref 201), some (.int p1), some (.int p2), some (.int v3), some (.int v4), some (.int w0)]) (st' := [.int (v3 - 1), .ref 214]) 3 rfl ?_
        refine l1_ck (fun hx => ?_)
        refine l1_ald hQ mt_X12_readRow rfl (o := 214) rfl hx ?_
        refine l1_many mt_X12_readRow (pc' := 161) (L' := [some (.ref 201), some (.int p1), some (.int p2), some (.int v3), some (.int v4), some (.int w0), some (.int (c.1 214 (v3 - 1).toNatClampNeg)), some (.int 0)]) (st' := []) 4 rfl ?_
        refine l1_weak (m := [true, true, true, true, false, true, true, true]) (L' := [some (.ref 201), some (.int p1), some (.int p2), some (.int v3), none, some (.int w0), some (.int (c.1 214 (v3 - 1).toNatClampNeg)), some (.int 0)]) rfl ?_
        exact ok_X12_readRow_161 hQ N p1 p2 hk2 N c v3 w0 (c.1 214 (v3 - 1).toNatClampNeg) 0
      · refine l1_many mt_X12_readRow (pc' := 161) (L' := [some (.ref 201), some (.int p1), some (.int p2), some (.int v3), some (.int v4), some (.int w0), some (.int 0), some (.int 0)]) (st' := []) 4 rfl ?_
        refine l1_weak (m := [true, true, true, true, false, true, true, true]) (L' := [some (.ref 201), some (.int p1), some (.int p2), some (.int v3), none, some (.int w0), some (.int 0), some (.int 0)]) rfl ?_
        exact ok_X12_readRow_161 hQ N p1 p2 hk2 N c v3 w0 0 0
    · refine l1_many mt_X12_readRow (pc' := 133) (L' := [some (.ref 201), some (.int p1), some (.int p2), some (.int v3), some (.int v4), some (.int w0)]) (st' := [.int p2, .int 24, .ref 201]) 3 rfl ?_
      refine l1_callV hQ mt_X12_readRow mt_X12_fails rfl rfl (o := 201) (ci := 11) (As := [.int 24, .int p2]) (rest := []) rfl rfl rfl rfl rfl rfl (st1 := fun x1 => [.int x1]) (fun _ => rfl) (ok_X12_fails hQ c 24 p2) (fun x1 c2 => ?_)
      refine l1_ck (fun hz => ?_)
      exact l1_retZ mt_X12_readRow rfl rfl rfl hz
  · refine l1_many mt_X12_readRow (pc' := 120) (L' := [some (.ref 201), some (.int p1), some (.int p2), some (.int v3), some (.int v4), some (.int w0)]) (st' := [.int 0]) 1 rfl ?_
    exact l1_ret mt_X12_readRow rfl rfl rfl
set_option maxRecDepth 100000 in
theorem ok_X12_readRow_67 {Q : hS → am_H → Prop} (hQ : l1_em km Q) (N : Nat) (p1 : Int32) (p2 : Int32) {k2 : hS → Int32 → Option (Int32 × hS)} (hk2 : ∀ c v3, l1_G (wN wI) Q am_i_X12_readRow 2 [some (.ref 201), some (.int p1), some (.int p2), some (.int v3)] [] c (k2 c v3)) : ∀ (c : hS) (v3 : Int32) (v4 : Int32), l1_G (wN wI) Q am_i_X12_readRow 67 [some (.ref 201), some (.int p1), some (.int p2), some (.int v3), some (.int v4)] [] c (f_X12_readRow_67 N p1 p2 k2 c v3 v4) := by
  intro c v3 v4
  rw [f_X12_readRow_67]
  refine l1_many mt_X12_readRow (pc' := bif am_cc .ne v4 16 then 84 else 74) (L' := [some (.ref 201), some (.int p1), some (.int p2), some (.int v3), some (.int v4)]) (st' := []) 3 rfl ?_
  refine l1_bin rfl ?_ ?_
  · refine l1_many mt_X12_readRow (pc' := 77) (L' := [some (.ref 201), some (.int p1), some (.int p2), some (.int v3), some (.int v4)]) (st' := [.int 2, .ref 201, .int 3]) 3 rfl ?_
    refine l1_callV hQ mt_X12_readRow mt_X12_bits rfl rfl (o := 201) (ci := 11) (As := [.int 2]) (rest := [.int 3]) rfl rfl rfl rfl rfl rfl (st1 := fun x5 => [.int x5, .int 3]) (fun _ => rfl) (ok_X12_bits hQ N c 2) (fun x5 c6 => ?_)
    refine l1_many mt_X12_readRow (pc' := 110) (L' := [some (.ref 201), some (.int p1), some (.int p2), some (.int v3), some (.int v4)]) (st' := [.int (3 + x5)]) 2 rfl ?_
    exact ok_X12_readRow_110 hQ N p1 p2 hk2 c6 v3 v4 (3 + x5)
  · refine l1_many mt_X12_readRow (pc' := bif am_cc .ne v4 17 then 101 else 91) (L' := [some (.ref 201), some (.int p1), some (.int p2), some (.int v3), some (.int v4)]) (st' := []) 3 rfl ?_
    refine l1_bin rfl ?_ ?_
    · refine l1_many mt_X12_readRow (pc' := 94) (L' := [some (.ref 201), some (.int p1), some (.int p2), some (.int v3), some (.int v4)]) (st' := [.int 3, .ref 201, .int 3]) 3 rfl ?_
      refine l1_callV hQ mt_X12_readRow mt_X12_bits rfl rfl (o := 201) (ci := 11) (As := [.int 3]) (rest := [.int 3]) rfl rfl rfl rfl rfl rfl (st1 := fun x3 => [.int x3, .int 3]) (fun _ => rfl) (ok_X12_bits hQ N c 3) (fun x3 c4 => ?_)
      refine l1_many mt_X12_readRow (pc' := 110) (L' := [some (.ref 201), some (.int p1), some (.int p2), some (.int v3), some (.int v4)]) (st' := [.int (3 + x3)]) 2 rfl ?_
      exact ok_X12_readRow_110 hQ N p1 p2 hk2 c4 v3 v4 (3 + x3)
    · refine l1_many mt_X12_readRow (pc' := 106) (L' := [some (.ref 201), some (.int p1), some (.int p2), some (.int v3), some (.int v4)]) (st' := [.int 7, .ref 201, .int 11]) 3 rfl ?_
      refine l1_callV hQ mt_X12_readRow mt_X12_bits rfl rfl (o := 201) (ci := 11) (As := [.int 7]) (rest := [.int 11]) rfl rfl rfl rfl rfl rfl (st1 := fun x1 => [.int x1, .int 11]) (fun _ => rfl) (ok_X12_bits hQ N c 7) (fun x1 c2 => ?_)
      refine l1_many mt_X12_readRow (pc' := 110) (L' := [some (.ref 201), some (.int p1), some (.int p2), some (.int v3), some (.int v4)]) (st' := [.int (11 + x1)]) 1 rfl ?_
      exact ok_X12_readRow_110 hQ N p1 p2 hk2 c2 v3 v4 (11 + x1)
set_option maxRecDepth 100000 in
theorem ok_X12_readRow_2 {Q : hS → am_H → Prop} (hQ : l1_em km Q) (N : Nat) (p1 : Int32) (p2 : Int32) : ∀ n : Nat, ∀ (c : hS) (v3 : Int32), l1_G (wN wI) Q am_i_X12_readRow 2 [some (.ref 201), some (.int p1), some (.int p2), some (.int v3)] [] c (f_X12_readRow_2 N p1 p2 n c v3) := by
  intro n
  induction n with
  | zero => intro c v3; exact l1_none
  | succ n ih =>
    intro c v3
    rw [f_X12_readRow_2]
    refine l1_many mt_X12_readRow (pc' := bif am_cc .ge v3 p1 then 188 else 7) (L' := [some (.ref 201), some (.int p1), some (.int p2), some (.int v3)]) (st' := []) 3 rfl ?_
    refine l1_bif rfl ?_ ?_
    · refine l1_many mt_X12_readRow (pc' := 189) (L' := [some (.ref 201), some (.int p1), some (.int p2), some (.int v3)]) (st' := [.int 1]) 1 rfl ?_
      exact l1_ret mt_X12_readRow rfl rfl rfl
    · refine l1_many mt_X12_readRow (pc' := 13) (L' := [some (.ref 201), some (.int p1), some (.int p2), some (.int v3)]) (st' := [.int 19, .int 340, .ref 201]) 3 rfl ?_
      refine l1_callV hQ mt_X12_readRow mt_X12_symbol rfl rfl (o := 201) (ci := 11) (As := [.int 340, .int 19]) (rest := []) rfl rfl rfl rfl rfl rfl (st1 := fun x1 => [.int x1]) (fun _ => rfl) (ok_X12_symbol hQ N c 340 19) (fun x1 c2 => ?_)
      refine l1_many mt_X12_readRow (pc' := 19) (L' := [some (.ref 201), some (.int p1), some (.int p2), some (.int v3), some (.int x1)]) (st' := [.ref 201]) 2 rfl ?_
      refine l1_getI hQ mt_X12_readRow rfl (o := 201) (ci := 11) (k := 5) (a := 0) (b := 0) rfl rfl rfl rfl rfl ?_
      refine l1_many mt_X12_readRow (pc' := bif am_cc .eq (c2.1 201 5) 0 then 27 else 25) (L' := [some (.ref 201), some (.int p1), some (.int p2), some (.int v3), some (.int x1)]) (st' := []) 1 rfl ?_
      refine l1_bif rfl ?_ ?_
      · refine l1_many mt_X12_readRow (pc' := bif am_cc .ge x1 16 then 48 else 34) (L' := [some (.ref 201), some (.int p1), some (.int p2), some (.int v3), some (.int x1)]) (st' := []) 3 rfl ?_
        refine l1_bif rfl ?_ ?_
        · refine l1_many mt_X12_readRow (pc' := bif am_cc .ne x1 16 then 67 else 55) (L' := [some (.ref 201), some (.int p1), some (.int p2), some (.int v3), some (.int x1)]) (st' := []) 3 rfl ?_
          refine l1_bin rfl ?_ ?_
          · refine l1_many mt_X12_readRow (pc' := bif am_cc .ne v3 0 then 67 else 59) (L' := [some (.ref 201), some (.int p1), some (.int p2), some (.int v3), some (.int x1)]) (st' := []) 2 rfl ?_
            refine l1_bin rfl ?_ ?_
            · refine l1_many mt_X12_readRow (pc' := 63) (L' := [some (.ref 201), some (.int p1), some (.int p2), some (.int v3), some (.int x1)]) (st' := [.int p2, .int 24, .ref 201]) 3 rfl ?_
              refine l1_callV hQ mt_X12_readRow mt_X12_fails rfl rfl (o := 201) (ci := 11) (As := [.int 24, .int p2]) (rest := []) rfl rfl rfl rfl rfl rfl (st1 := fun x3 => [.int x3]) (fun _ => rfl) (ok_X12_fails hQ c2 24 p2) (fun x3 c4 => ?_)
              refine l1_ck (fun hz => ?_)
              exact l1_retZ mt_X12_readRow rfl rfl rfl hz
            · exact ok_X12_readRow_67 hQ N p1 p2 ih c2 v3 x1
          · exact ok_X12_readRow_67 hQ N p1 p2 ih c2 v3 x1
        · refine l1_many mt_X12_readRow (pc' := 35) (L' := [some (.ref 201), some (.int p1), some (.int p2), some (.int v3), some (.int x1)]) (st' := [.ref 201]) 1 rfl ?_
          refine l1_getR hQ mt_X12_readRow rfl (o := 201) (ci := 11) (k := 29) (a := 0) (b := 0) rfl rfl rfl rfl rfl (q := 214) rfl ?_
          refine l1_many mt_X12_readRow (pc' := 41) (L' := [some (.ref 201), some (.int p1), some (.int p2), some (.int v3), some (.int x1)]) (st' := [.int x1, .int v3, .ref 214]) 2 rfl ?_
          refine l1_ck (fun hx => ?_)
          refine l1_ast hQ mt_X12_readRow rfl (o := 214) rfl hx (fun c5 => ?_)
          refine l1_many mt_X12_readRow (pc' := 2) (L' := [some (.ref 201), some (.int p1), some (.int p2), some (.int (v3 + 1)), some (.int x1)]) (st' := []) 2 rfl ?_
          refine l1_weak (m := [true, true, true, true, false, false, false, false]) (L' := [some (.ref 201), some (.int p1), some (.int p2), some (.int (v3 + 1))]) rfl ?_
          exact ih c5 (v3 + 1)
      · refine l1_many mt_X12_readRow (pc' := 26) (L' := [some (.ref 201), some (.int p1), some (.int p2), some (.int v3), some (.int x1)]) (st' := [.int 0]) 1 rfl ?_
        exact l1_ret mt_X12_readRow rfl rfl rfl
set_option maxRecDepth 100000 in
theorem en_X12_readRow {Q : hS → am_H → Prop} (hQ : l1_em km Q) (N : Nat) (c : hS) (p1 : Int32) (p2 : Int32) : l1_G (wN wI) Q am_i_X12_readRow 0 [some (.ref 201), some (.int p1), some (.int p2)] [] c (f_X12_readRow N c p1 p2) := by
  rw [f_X12_readRow]
  refine l1_many mt_X12_readRow (pc' := 2) (L' := [some (.ref 201), some (.int p1), some (.int p2), some (.int 0)]) (st' := []) 2 rfl ?_
  exact ok_X12_readRow_2 hQ N p1 p2 N c 0
theorem ok_X12_readRow {Q : hS → am_H → Prop} (hQ : l1_em km Q) (N : Nat) (c : hS) (p1 : Int32) (p2 : Int32) : l1_T wI Q am_i_X12_readRow [.ref 201, .int p1, .int p2] c (f_X12_readRow N c p1 p2) := l1_of (en_X12_readRow hQ N c p1 p2) ⟨rfl, rfl, rfl, trivial⟩
set_option maxRecDepth 100000 in
theorem ok_X12_readCodes_279 {Q : hS → am_H → Prop} (hQ : l1_em km Q) (N : Nat) (p1 : Int32) {k221 : hS → Int32 → Int32 → Int32 → Int32 → Int32 → Option (Int32 × hS)} (hk221 : ∀ c v2 v3 v5 v6 v7, l1_G (wN wI) Q am_i_X12_readCodes 221 [some (.ref 201), some (.int p1), some (.int v2), some (.int v3), none, some (.int v5), some (.int v6), some (.int v7)] [] c (k221 c v2 v3 v5 v6 v7)) : ∀ (c : hS) (v2 : Int32) (v3 : Int32) (v6 : Int32) (v7 : Int32) (w0 : Int32) (w1 : Int32), l1_G (wN wI) Q am_i_X12_readCodes 279 [some (.ref 201), some (.int p1), some (.int v2), some (.int v3), none, none, some (.int v6), some (.int v7)] [.int w0, .int w1] c (f_X12_readCodes_279 N p1 k221 c v2 v3 v6 v7 w0 w1) := by
  intro c v2 v3 v6 v7 w0 w1
  rw [f_X12_readCodes_279]
  refine l1_many mt_X12_readCodes (pc' := 285) (L' := [some (.ref 201), some (.int p1), some (.int v2), some (.int v3), none, some (.int (w1 + w0)), some (.int v6), some (.int v7)]) (st' := [.ref 201, .int v6]) 4 rfl ?_
  refine l1_getR hQ mt_X12_readCodes rfl (o := 201) (ci := 11) (k := 27) (a := 0) (b := 0) rfl rfl rfl rfl rfl (q := 212) rfl ?_
  refine l1_many mt_X12_readCodes (pc' := 294) (L' := [some (.ref 201), some (.int p1), some (.int v2), some (.int v3), none, some (.int (w1 + w0)), some (.int v6), some (.int v7)]) (st' := [.int (300 + v7), .ref 212, .int v6]) 3 rfl ?_
  refine l1_ck (fun hx => ?_)
  refine l1_ald hQ mt_X12_readCodes rfl (o := 212) rfl hx ?_
  refine l1_many mt_X12_readCodes (pc' := bif am_cc .ne (c.1 212 (300 + v7).toNatClampNeg) 1 then 303 else 299) (L' := [some (.ref 201), some (.int p1), some (.int v2), some (.int v3), none, some (.int (w1 + w0)), some (.int v6), some (.int v7)]) (st' := [.int v6]) 2 rfl ?_
  refine l1_bin rfl ?_ ?_
  · refine l1_many mt_X12_readCodes (pc' := 221) (L' := [some (.ref 201), some (.int p1), some (.int v2), some (.int v3), none, some (.int (w1 + w0)), some (.int (v6 + 1)), some (.int (v7 + 1))]) (st' := []) 6 rfl ?_
    exact hk221 c v2 v3 (w1 + w0) (v6 + 1) (v7 + 1)
  · refine l1_many mt_X12_readCodes (pc' := 221) (L' := [some (.ref 201), some (.int p1), some (.int v2), some (.int v3), none, some (.int (w1 + w0)), some (.int (v6 + 0)), some (.int (v7 + 1))]) (st' := []) 5 rfl ?_
    exact hk221 c v2 v3 (w1 + w0) (v6 + 0) (v7 + 1)
set_option maxRecDepth 100000 in
theorem ok_X12_readCodes_257 {Q : hS → am_H → Prop} (hQ : l1_em km Q) (N : Nat) (p1 : Int32) {k221 : hS → Int32 → Int32 → Int32 → Int32 → Int32 → Option (Int32 × hS)} (hk221 : ∀ c v2 v3 v5 v6 v7, l1_G (wN wI) Q am_i_X12_readCodes 221 [some (.ref 201), some (.int p1), some (.int v2), some (.int v3), none, some (.int v5), some (.int v6), some (.int v7)] [] c (k221 c v2 v3 v5 v6 v7)) : ∀ (c : hS) (v2 : Int32) (v3 : Int32) (v5 : Int32) (v6 : Int32) (v7 : Int32) (w0 : Int32) (w1 : Int32), l1_G (wN wI) Q am_i_X12_readCodes 257 [some (.ref 201), some (.int p1), some (.int v2), some (.int v3), none, some (.int v5), some (.int v6), some (.int v7)] [.int w0, .int w1, .ref 212] c (f_X12_readCodes_257 N p1 k221 c v2 v3 v5 v6 v7 w0 w1) := by
  intro c v2 v3 v5 v6 v7 w0 w1
  rw [f_X12_readCodes_257]
  refine l1_ck (fun hx => ?_)
  refine l1_ast hQ mt_X12_readCodes rfl (o := 212) rfl hx (fun c1 => ?_)
  refine l1_many mt_X12_readCodes (pc' := 261) (L' := [some (.ref 201), some (.int p1), some (.int v2), some (.int v3), none, some (.int v5), some (.int v6), some (.int v7)]) (st' := [.ref 201, .int v5]) 2 rfl ?_
  refine l1_getR hQ mt_X12_readCodes rfl (o := 201) (ci := 11) (k := 27) (a := 0) (b := 0) rfl rfl rfl rfl rfl (q := 212) rfl ?_
  refine l1_many mt_X12_readCodes (pc' := 270) (L' := [some (.ref 201), some (.int p1), some (.int v2), some (.int v3), none, some (.int v5), some (.int v6), some (.int v7)]) (st' := [.int (300 + v7), .ref 212, .int v5]) 3 rfl ?_
  refine l1_ck (fun hx => ?_)
  refine l1_ald hQ mt_X12_readCodes rfl (o := 212) rfl hx ?_
  refine l1_many mt_X12_readCodes (pc' := bif am_cc .le (c1.1 212 (300 + v7).toNatClampNeg) 0 then 278 else 274) (L' := [some (.ref 201), some (.int p1), some (.int v2), some (.int v3), none, some (.int v5), some (.int v6), some (.int v7)]) (st' := [.int v5]) 1 rfl ?_
  refine l1_bif rfl ?_ ?_
  · refine l1_many mt_X12_readCodes (pc' := 279) (L' := [some (.ref 201), some (.int p1), some (.int v2), some (.int v3), none, some (.int v5), some (.int v6), some (.int v7)]) (st' := [.int 0, .int v5]) 1 rfl ?_
    refine l1_weak (m := [true, true, true, true, false, false, true, true]) (L' := [some (.ref 201), some (.int p1), some (.int v2), some (.int v3), none, none, some (.int v6), some (.int v7)]) rfl ?_
    exact ok_X12_readCodes_279 hQ N p1 hk221 c1 v2 v3 v6 v7 0 v5
  · refine l1_many mt_X12_readCodes (pc' := 279) (L' := [some (.ref 201), some (.int p1), some (.int v2), some (.int v3), none, some (.int v5), some (.int v6), some (.int v7)]) (st' := [.int 1, .int v5]) 2 rfl ?_
    refine l1_weak (m := [true, true, true, true, false, false, true, true]) (L' := [some (.ref 201), some (.int p1), some (.int v2), some (.int v3), none, none, some (.int v6), some (.int v7)]) rfl ?_
    exact ok_X12_readCodes_279 hQ N p1 hk221 c1 v2 v3 v6 v7 1 v5
set_option maxRecDepth 100000 in
theorem ok_X12_readCodes_350 {Q : hS → am_H → Prop} (hQ : l1_em km Q) (N : Nat) (p1 : Int32) : ∀ (c : hS) (w0 : Int32), l1_G (wN wI) Q am_i_X12_readCodes 350 [some (.ref 201), some (.int p1)] [.int w0] c (f_X12_readCodes_350 N p1 c w0) := by
  intro c w0
  rw [f_X12_readCodes_350]
  refine l1_many mt_X12_readCodes (pc' := 353) (L' := [some (.ref 201), some (.int p1), none, none, none, none, none, some (.int w0)]) (st' := [.ref 201]) 2 rfl ?_
  refine l1_getR hQ mt_X12_readCodes rfl (o := 201) (ci := 11) (k := 27) (a := 0) (b := 0) rfl rfl rfl rfl rfl (q := 212) rfl ?_
  refine l1_many mt_X12_readCodes (pc' := 359) (L' := [some (.ref 201), some (.int p1), none, none, none, none, none, some (.int w0)]) (st' := [.int 256, .ref 212]) 1 rfl ?_
  refine l1_ck (fun hx => ?_)
  refine l1_ald hQ mt_X12_readCodes rfl (o := 212) rfl hx ?_
  refine l1_many mt_X12_readCodes (pc' := bif am_cc .eq (c.1 212 (256 : Int32).toNatClampNeg) 0 then 382 else 363) (L' := [some (.ref 201), some (.int p1), none, none, none, none, none, some (.int w0)]) (st' := []) 1 rfl ?_
  refine l1_bif rfl ?_ ?_
  · refine l1_many mt_X12_readCodes (pc' := 386) (L' := [some (.ref 201), some (.int p1), none, none, none, none, none, some (.int w0)]) (st' := [.int p1, .int 24, .ref 201]) 3 rfl ?_
    refine l1_callV hQ mt_X12_readCodes mt_X12_fails rfl rfl (o := 201) (ci := 11) (As := [.int 24, .int p1]) (rest := []) rfl rfl rfl rfl rfl rfl (st1 := fun x1 => [.int x1]) (fun _ => rfl) (ok_X12_fails hQ c 24 p1) (fun x1 c2 => ?_)
    refine l1_ck (fun hz => ?_)
    exact l1_retZ mt_X12_readCodes rfl rfl rfl hz
  · refine l1_many mt_X12_readCodes (pc' := 368) (L' := [some (.ref 201), some (.int p1), none, none, none, none, none, some (.int w0)]) (st' := [.int 288, .int 0, .ref 201]) 3 rfl ?_
    refine l1_callV hQ mt_X12_readCodes mt_X12_fullness rfl rfl (o := 201) (ci := 11) (As := [.int 0, .int 288]) (rest := []) rfl rfl rfl rfl rfl rfl (st1 := fun x3 => [.int x3]) (fun _ => rfl) (ok_X12_fullness hQ N c 0 288) (fun x3 c4 => ?_)
    refine l1_many mt_X12_readCodes (pc' := bif am_cc .ne x3 32768 then 382 else 377) (L' := [some (.ref 201), some (.int p1), none, none, none, none, none, some (.int w0)]) (st' := []) 2 rfl ?_
    refine l1_bin rfl ?_ ?_
    · refine l1_many mt_X12_readCodes (pc' := bif am_cc .ne w0 0 then 390 else 382) (L' := [some (.ref 201), some (.int p1), none, none, none, none, none, some (.int w0)]) (st' := []) 2 rfl ?_
      refine l1_bin rfl ?_ ?_
      · refine l1_many mt_X12_readCodes (pc' := 386) (L' := [some (.ref 201), some (.int p1), none, none, none, none, none, some (.int w0)]) (st' := [.int p1, .int 24, .ref 201]) 3 rfl ?_
        refine l1_callV hQ mt_X12_readCodes mt_X12_fails rfl rfl (o := 201) (ci := 11) (As := [.int 24, .int p1]) (rest := []) rfl rfl rfl rfl rfl rfl (st1 := fun x9 => [.int x9]) (fun _ => rfl) (ok_X12_fails hQ c4 24 p1) (fun x9 c10 => ?_)
        refine l1_ck (fun hz => ?_)
        exact l1_retZ mt_X12_readCodes rfl rfl rfl hz
      · refine l1_many mt_X12_readCodes (pc' := 395) (L' := [some (.ref 201), some (.int p1), none, none, none, none, none, some (.int w0)]) (st' := [.int 288, .int 0, .ref 201]) 3 rfl ?_
        refine l1_callV hQ mt_X12_readCodes mt_X12_layCodes rfl rfl (o := 201) (ci := 11) (As := [.int 0, .int 288]) (rest := []) rfl rfl rfl rfl rfl rfl (st1 := fun _ => []) (fun _ => rfl) (ok_X12_layCodes hQ N c4 0 288) (fun _ c7 => ?_)
        refine l1_many mt_X12_readCodes (pc' := 404) (L' := [some (.ref 201), some (.int p1), none, none, none, none, none, some (.int w0)]) (st' := [.int 32, .int 300, .ref 201]) 3 rfl ?_
        refine l1_callV hQ mt_X12_readCodes mt_X12_layCodes rfl rfl (o := 201) (ci := 11) (As := [.int 300, .int 32]) (rest := []) rfl rfl rfl rfl rfl rfl (st1 := fun _ => []) (fun _ => rfl) (ok_X12_layCodes hQ N c7 300 32) (fun _ c8 => ?_)
        refine l1_many mt_X12_readCodes (pc' := 408) (L' := [some (.ref 201), some (.int p1), none, none, none, none, none, some (.int w0)]) (st' := [.int 1]) 1 rfl ?_
        exact l1_ret mt_X12_readCodes rfl rfl rfl
    · refine l1_many mt_X12_readCodes (pc' := 386) (L' := [some (.ref 201), some (.int p1), none, none, none, none, none, some (.int w0)]) (st' := [.int p1, .int 24, .ref 201]) 3 rfl ?_
      refine l1_callV hQ mt_X12_readCodes mt_X12_fails rfl rfl (o := 201) (ci := 11) (As := [.int 24, .int p1]) (rest := []) rfl rfl rfl rfl rfl rfl (st1 := fun x5 => [.int x5]) (fun _ => rfl) (ok_X12_fails hQ c4 24 p1) (fun x5 c6 => ?_)
      refine l1_ck (fun hz => ?_)
      exact l1_retZ mt_X12_readCodes rfl rfl rfl hz
set_option maxRecDepth 100000 in
theorem ok_X12_readCodes_345 {Q : hS → am_H → Prop} (hQ : l1_em km Q) (N : Nat) (p1 : Int32) : ∀ (c : hS), l1_G (wN wI) Q am_i_X12_readCodes 345 [some (.ref 201), some (.int p1)] [] c (f_X12_readCodes_345 N p1 c) := by
  intro c
  rw [f_X12_readCodes_345]
  refine l1_many mt_X12_readCodes (pc' := 350) (L' := [some (.ref 201), some (.int p1)]) (st' := [.int 1]) 2 rfl ?_
  exact ok_X12_readCodes_350 hQ N p1 c 1
set_option maxRecDepth 100000 in
theorem ok_X12_readCodes_349 {Q : hS → am_H → Prop} (hQ : l1_em km Q) (N : Nat) (p1 : Int32) : ∀ (c : hS), l1_G (wN wI) Q am_i_X12_readCodes 349 [some (.ref 201), some (.int p1)] [] c (f_X12_readCodes_349 N p1 c) := by
  intro c
  rw [f_X12_readCodes_349]
  refine l1_many mt_X12_readCodes (pc' := 350) (L' := [some (.ref 201), some (.int p1)]) (st' := [.int 0]) 1 rfl ?_
  exact ok_X12_readCodes_350 hQ N p1 c 0
set_option maxRecDepth 100000 in
theorem ok_X12_readCodes_221 {Q : hS → am_H → Prop} (hQ : l1_em km Q) (N : Nat) (p1 : Int32) : ∀ n : Nat, ∀ (c : hS) (v2 : Int32) (v3 : Int32) (v5 : Int32) (v6 : Int32) (v7 : Int32), l1_G (wN wI) Q am_i_X12_readCodes 221 [some (.ref 201), some (.int p1), some (.int v2), some (.int v3), none, some (.int v5), some (.int v6), some (.int v7)] [] c (f_X12_readCodes_221 N p1 n c v2 v3 v5 v6 v7) := by
  intro n
  induction n with
  | zero => intro c v2 v3 v5 v6 v7; exact l1_none
  | succ n ih =>
    intro c v2 v3 v5 v6 v7
    rw [f_X12_readCodes_221]
    refine l1_many mt_X12_readCodes (pc' := bif am_cc .ge v7 32 then 313 else 228) (L' := [some (.ref 201), some (.int p1), some (.int v2), some (.int v3), none, some (.int v5), some (.int v6), some (.int v7)]) (st' := []) 3 rfl ?_
    refine l1_bif rfl ?_ ?_
    · refine l1_many mt_X12_readCodes (pc' := 319) (L' := [some (.ref 201), some (.int p1), some (.int v2), some (.int v3), none, some (.int v5), some (.int v6), some (.int v7)]) (st' := [.int 32, .int 300, .ref 201]) 3 rfl ?_
      refine l1_callV hQ mt_X12_readCodes mt_X12_fullness rfl rfl (o := 201) (ci := 11) (As := [.int 300, .int 32]) (rest := []) rfl rfl rfl rfl rfl rfl (st1 := fun x1 => [.int x1]) (fun _ => rfl) (ok_X12_fullness hQ N c 300 32) (fun x1 c2 => ?_)
      refine l1_many mt_X12_readCodes (pc' := bif am_cc .eq x1 32768 then 345 else 328) (L' := [some (.ref 201), some (.int p1), some (.int v2), some (.int v3), none, some (.int v5), some (.int v6), some (.int v7)]) (st' := []) 2 rfl ?_
      refine l1_bif rfl ?_ ?_
      · refine l1_weak (m := [true, true, false, false, false, false, false, false]) (L' := [some (.ref 201), some (.int p1)]) rfl ?_
        exact ok_X12_readCodes_345 hQ N p1 c2
      · refine l1_many mt_X12_readCodes (pc' := bif am_cc .eq v5 0 then 345 else 333) (L' := [some (.ref 201), some (.int p1), some (.int v2), some (.int v3), none, some (.int v5), some (.int v6), some (.int v7)]) (st' := []) 2 rfl ?_
        refine l1_bif rfl ?_ ?_
        · refine l1_weak (m := [true, true, false, false, false, false, false, false]) (L' := [some (.ref 201), some (.int p1)]) rfl ?_
          exact ok_X12_readCodes_345 hQ N p1 c2
        · refine l1_many mt_X12_readCodes (pc' := bif am_cc .ne v5 1 then 349 else 339) (L' := [some (.ref 201), some (.int p1), some (.int v2), some (.int v3), none, some (.int v5), some (.int v6), some (.int v7)]) (st' := []) 3 rfl ?_
          refine l1_bin rfl ?_ ?_
          · refine l1_many mt_X12_readCodes (pc' := bif am_cc .ne v6 1 then 349 else 345) (L' := [some (.ref 201), some (.int p1), some (.int v2), some (.int v3), none, some (.int v5), some (.int v6), some (.int v7)]) (st' := []) 3 rfl ?_
            refine l1_bin rfl ?_ ?_
            · refine l1_weak (m := [true, true, false, false, false, false, false, false]) (L' := [some (.ref 201), some (.int p1)]) rfl ?_
              exact ok_X12_readCodes_345 hQ N p1 c2
            · refine l1_weak (m := [true, true, false, false, false, false, false, false]) (L' := [some (.ref 201), some (.int p1)]) rfl ?_
              exact ok_X12_readCodes_349 hQ N p1 c2
          · refine l1_weak (m := [true, true, false, false, false, false, false, false]) (L' := [some (.ref 201), some (.int p1)]) rfl ?_
            exact ok_X12_readCodes_349 hQ N p1 c2
    · refine l1_many mt_X12_readCodes (pc' := 229) (L' := [some (.ref 201), some (.int p1), some (.int v2), some (.int v3), none, some (.int v5), some (.int v6), some (.int v7)]) (st' := [.ref 201]) 1 rfl ?_
      refine l1_getR hQ mt_X12_readCodes rfl (o := 201) (ci := 11) (k := 27) (a := 0) (b := 0) rfl rfl rfl rfl rfl (q := 212) rfl ?_
      refine l1_many mt_X12_readCodes (pc' := bif am_cc .ge v7 v3 then 256 else 244) (L' := [some (.ref 201), some (.int p1), some (.int v2), some (.int v3), none, some (.int v5), some (.int v6), some (.int v7)]) (st' := [.int (300 + v7), .ref 212]) 6 rfl ?_
      refine l1_bif rfl ?_ ?_
      · refine l1_many mt_X12_readCodes (pc' := 257) (L' := [some (.ref 201), some (.int p1), some (.int v2), some (.int v3), none, some (.int v5), some (.int v6), some (.int v7)]) (st' := [.int 0, .int (300 + v7), .ref 212]) 1 rfl ?_
        exact ok_X12_readCodes_257 hQ N p1 ih c v2 v3 v5 v6 v7 0 (300 + v7)
      · refine l1_many mt_X12_readCodes (pc' := 245) (L' := [some (.ref 201), some (.int p1), some (.int v2), some (.int v3), none, some (.int v5), some (.int v6), some (.int v7)]) (st' := [.ref 201, .int (300 + v7), .ref 212]) 1 rfl ?_
        refine l1_getR hQ mt_X12_readCodes rfl (o := 201) (ci := 11) (k := 29) (a := 0) (b := 0) rfl rfl rfl rfl rfl (q := 214) rfl ?_
        refine l1_many mt_X12_readCodes (pc' := 252) (L' := [some (.ref 201), some (.int p1), some (.int v2), some (.int v3), none, some (.int v5), some (.int v6), some (.int v7)]) (st' := [.int (v2 + v7), .ref 214, .int (300 + v7), .ref 212]) 3 rfl ?_
        refine l1_ck (fun hx => ?_)
        refine l1_ald hQ mt_X12_readCodes rfl (o := 214) rfl hx ?_
        refine l1_many mt_X12_readCodes (pc' := 257) (L' := [some (.ref 201), some (.int p1), some (.int v2), some (.int v3), none, some (.int v5), some (.int v6), some (.int v7)]) (st' := [.int (c.1 214 (v2 + v7).toNatClampNeg), .int (300 + v7), .ref 212]) 1 rfl ?_
        exact ok_X12_readCodes_257 hQ N p1 ih c v2 v3 v5 v6 v7 (c.1 214 (v2 + v7).toNatClampNeg) (300 + v7)
set_option maxRecDepth 100000 in
theorem ok_X12_readCodes_174 {Q : hS → am_H → Prop} (hQ : l1_em km Q) (N : Nat) (p1 : Int32) : ∀ n : Nat, ∀ (c : hS) (v2 : Int32) (v3 : Int32) (v5 : Int32), l1_G (wN wI) Q am_i_X12_readCodes 174 [some (.ref 201), some (.int p1), some (.int v2), some (.int v3), none, some (.int v5)] [] c (f_X12_readCodes_174 N p1 n c v2 v3 v5) := by
  intro n
  induction n with
  | zero => intro c v2 v3 v5; exact l1_none
  | succ n ih =>
    intro c v2 v3 v5
    rw [f_X12_readCodes_174]
    refine l1_many mt_X12_readCodes (pc' := bif am_cc .ge v5 288 then 212 else 182) (L' := [some (.ref 201), some (.int p1), some (.int v2), some (.int v3), none, some (.int v5)]) (st' := []) 3 rfl ?_
    refine l1_bif rfl ?_ ?_
    · refine l1_many mt_X12_readCodes (pc' := 221) (L' := [some (.ref 201), some (.int p1), some (.int v2), some (.int v3), none, some (.int 0), some (.int 0), some (.int 0)]) (st' := []) 6 rfl ?_
      exact ok_X12_readCodes_221 hQ N p1 N c v2 v3 0 0 0
    · refine l1_many mt_X12_readCodes (pc' := 183) (L' := [some (.ref 201), some (.int p1), some (.int v2), some (.int v3), none, some (.int v5)]) (st' := [.ref 201]) 1 rfl ?_
      refine l1_getR hQ mt_X12_readCodes rfl (o := 201) (ci := 11) (k := 27) (a := 0) (b := 0) rfl rfl rfl rfl rfl (q := 212) rfl ?_
      refine l1_many mt_X12_readCodes (pc' := bif am_cc .ge v5 v2 then 204 else 194) (L' := [some (.ref 201), some (.int p1), some (.int v2), some (.int v3), none, some (.int v5)]) (st' := [.int v5, .ref 212]) 4 rfl ?_
      refine l1_bif rfl ?_ ?_
      · refine l1_many mt_X12_readCodes (pc' := 205) (L' := [some (.ref 201), some (.int p1), some (.int v2), some (.int v3), none, some (.int v5)]) (st' := [.int 0, .int v5, .ref 212]) 1 rfl ?_
        refine l1_ck (fun hx => ?_)
        refine l1_ast hQ mt_X12_readCodes rfl (o := 212) rfl hx (fun c1 => ?_)
        refine l1_many mt_X12_readCodes (pc' := 174) (L' := [some (.ref 201), some (.int p1), some (.int v2), some (.int v3), none, some (.int (v5 + 1))]) (st' := []) 2 rfl ?_
        exact ih c1 v2 v3 (v5 + 1)
      · refine l1_many mt_X12_readCodes (pc' := 195) (L' := [some (.ref 201), some (.int p1), some (.int v2), some (.int v3), none, some (.int v5)]) (st' := [.ref 201, .int v5, .ref 212]) 1 rfl ?_
        refine l1_getR hQ mt_X12_readCodes rfl (o := 201) (ci := 11) (k := 29) (a := 0) (b := 0) rfl rfl rfl rfl rfl (q := 214) rfl ?_
        refine l1_many mt_X12_readCodes (pc' := 200) (L' := [some (.ref 201), some (.int p1), some (.int v2), some (.int v3), none, some (.int v5)]) (st' := [.int v5, .ref 214, .int v5, .ref 212]) 1 rfl ?_
        refine l1_ck (fun hx => ?_)
        refine l1_ald hQ mt_X12_readCodes rfl (o := 214) rfl hx ?_
        refine l1_many mt_X12_readCodes (pc' := 205) (L' := [some (.ref 201), some (.int p1), some (.int v2), some (.int v3), none, some (.int v5)]) (st' := [.int (c.1 214 v5.toNatClampNeg), .int v5, .ref 212]) 1 rfl ?_
        refine l1_ck (fun hx => ?_)
        refine l1_ast hQ mt_X12_readCodes rfl (o := 212) rfl hx (fun c2 => ?_)
        refine l1_many mt_X12_readCodes (pc' := 174) (L' := [some (.ref 201), some (.int p1), some (.int v2), some (.int v3), none, some (.int (v5 + 1))]) (st' := []) 2 rfl ?_
        exact ih c2 v2 v3 (v5 + 1)
set_option maxRecDepth 100000 in
theorem ok_X12_readCodes_73 {Q : hS → am_H → Prop} (hQ : l1_em km Q) (N : Nat) (p1 : Int32) : ∀ n : Nat, ∀ (c : hS) (v2 : Int32) (v3 : Int32) (v4 : Int32) (v5 : Int32), l1_G (wN wI) Q am_i_X12_readCodes 73 [some (.ref 201), some (.int p1), some (.int v2), some (.int v3), some (.int v4), some (.int v5)] [] c (f_X12_readCodes_73 N p1 n c v2 v3 v4 v5) := by
  intro n
  induction n with
  | zero => intro c v2 v3 v4 v5; exact l1_none
  | succ n ih =>
    intro c v2 v3 v4 v5
    rw [f_X12_readCodes_73]
    refine l1_many mt_X12_readCodes (pc' := bif am_cc .ge v5 19 then 117 else 80) (L' := [some (.ref 201), some (.int p1), some (.int v2), some (.int v3), some (.int v4), some (.int v5)]) (st' := []) 3 rfl ?_
    refine l1_bif rfl ?_ ?_
    · refine l1_many mt_X12_readCodes (pc' := 118) (L' := [some (.ref 201), some (.int p1), some (.int v2), some (.int v3), some (.int v4), some (.int v5)]) (st' := [.ref 201]) 1 rfl ?_
      refine l1_getI hQ mt_X12_readCodes rfl (o := 201) (ci := 11) (k := 5) (a := 0) (b := 0) rfl rfl rfl rfl rfl ?_
      refine l1_many mt_X12_readCodes (pc' := bif am_cc .eq (c.1 201 5) 0 then 126 else 124) (L' := [some (.ref 201), some (.int p1), some (.int v2), some (.int v3), some (.int v4), some (.int v5)]) (st' := []) 1 rfl ?_
      refine l1_bif rfl ?_ ?_
      · refine l1_many mt_X12_readCodes (pc' := 132) (L' := [some (.ref 201), some (.int p1), some (.int v2), some (.int v3), some (.int v4), some (.int v5)]) (st' := [.int 19, .int 340, .ref 201]) 3 rfl ?_
        refine l1_callV hQ mt_X12_readCodes mt_X12_fullness rfl rfl (o := 201) (ci := 11) (As := [.int 340, .int 19]) (rest := []) rfl rfl rfl rfl rfl rfl (st1 := fun x1 => [.int x1]) (fun _ => rfl) (ok_X12_fullness hQ N c 340 19) (fun x1 c2 => ?_)
        refine l1_many mt_X12_readCodes (pc' := bif am_cc .eq x1 32768 then 149 else 141) (L' := [some (.ref 201), some (.int p1), some (.int v2), some (.int v3), some (.int v4), some (.int v5)]) (st' := []) 2 rfl ?_
        refine l1_bif rfl ?_ ?_
        · refine l1_many mt_X12_readCodes (pc' := 155) (L' := [some (.ref 201), some (.int p1), some (.int v2), some (.int v3), some (.int v4), some (.int v5)]) (st' := [.int 19, .int 340, .ref 201]) 3 rfl ?_
          refine l1_callV hQ mt_X12_readCodes mt_X12_layCodes rfl rfl (o := 201) (ci := 11) (As := [.int 340, .int 19]) (rest := []) rfl rfl rfl rfl rfl rfl (st1 := fun _ => []) (fun _ => rfl) (ok_X12_layCodes hQ N c2 340 19) (fun _ c3 => ?_)
          refine l1_many mt_X12_readCodes (pc' := 163) (L' := [some (.ref 201), some (.int p1), some (.int v2), some (.int v3), some (.int v4), some (.int v5)]) (st' := [.int p1, .int (v2 + v3), .ref 201]) 5 rfl ?_
          refine l1_callV hQ mt_X12_readCodes mt_X12_readRow rfl rfl (o := 201) (ci := 11) (As := [.int (v2 + v3), .int p1]) (rest := []) rfl rfl rfl rfl rfl rfl (st1 := fun x4 => [.int x4]) (fun _ => rfl) (ok_X12_readRow hQ N c3 (v2 + v3) p1) (fun x4 c5 => ?_)
          refine l1_many mt_X12_readCodes (pc' := bif am_cc .ne x4 0 then 171 else 169) (L' := [some (.ref 201), some (.int p1), some (.int v2), some (.int v3), some (.int v4), some (.int v5)]) (st' := []) 1 rfl ?_
          refine l1_bin rfl ?_ ?_
          · refine l1_many mt_X12_readCodes (pc' := 170) (L' := [some (.ref 201), some (.int p1), some (.int v2), some (.int v3), some (.int v4), some (.int v5)]) (st' := [.int 0]) 1 rfl ?_
            exact l1_ret mt_X12_readCodes rfl rfl rfl
          · refine l1_many mt_X12_readCodes (pc' := 174) (L' := [some (.ref 201), some (.int p1), some (.int v2), some (.int v3), some (.int v4), some (.int 0)]) (st' := []) 2 rfl ?_
            refine l1_weak (m := [true, true, true, true, false, true, false, false]) (L' := [some (.ref 201), some (.int p1), some (.int v2), some (.int v3), none, some (.int 0)]) rfl ?_
            exact ok_X12_readCodes_174 hQ N p1 N c5 v2 v3 0
        · refine l1_many mt_X12_readCodes (pc' := 145) (L' := [some (.ref 201), some (.int p1), some (.int v2), some (.int v3), some (.int v4), some (.int v5)]) (st' := [.int p1, .int 24, .ref 201]) 3 rfl ?_
          refine l1_callV hQ mt_X12_readCodes mt_X12_fails rfl rfl (o := 201) (ci := 11) (As := [.int 24, .int p1]) (rest := []) rfl rfl rfl rfl rfl rfl (st1 := fun x6 => [.int x6]) (fun _ => rfl) (ok_X12_fails hQ c2 24 p1) (fun x6 c7 => ?_)
          refine l1_ck (fun hz => ?_)
          exact l1_retZ mt_X12_readCodes rfl rfl rfl hz
      · refine l1_many mt_X12_readCodes (pc' := 125) (L' := [some (.ref 201), some (.int p1), some (.int v2), some (.int v3), some (.int v4), some (.int v5)]) (st' := [.int 0]) 1 rfl ?_
        exact l1_ret mt_X12_readCodes rfl rfl rfl
    · refine l1_many mt_X12_readCodes (pc' := 81) (L' := [some (.ref 201), some (.int p1), some (.int v2), some (.int v3), some (.int v4), some (.int v5)]) (st' := [.ref 201]) 1 rfl ?_
      refine l1_getR hQ mt_X12_readCodes rfl (o := 201) (ci := 11) (k := 27) (a := 0) (b := 0) rfl rfl rfl rfl rfl (q := 212) rfl ?_
      refine l1_many mt_X12_readCodes (pc' := 90) (L' := [some (.ref 201), some (.int p1), some (.int v2), some (.int v3), some (.int v4), some (.int v5)]) (st' := [.int v5, .ref 201, .int 340, .ref 212]) 3 rfl ?_
      refine l1_callV hQ mt_X12_readCodes mt_X12_order rfl rfl (o := 201) (ci := 11) (As := [.int v5]) (rest := [.int 340, .ref 212]) rfl rfl rfl rfl rfl rfl (st1 := fun x8 => [.int x8, .int 340, .ref 212]) (fun _ => rfl) (ok_X12_order hQ c v5) (fun x8 c9 => ?_)
      refine l1_many mt_X12_readCodes (pc' := bif am_cc .ge v5 v4 then 109 else 101) (L' := [some (.ref 201), some (.int p1), some (.int v2), some (.int v3), some (.int v4), some (.int v5)]) (st' := [.int (340 + x8), .ref 212]) 4 rfl ?_
      refine l1_bif rfl ?_ ?_
      · refine l1_many mt_X12_readCodes (pc' := 110) (L' := [some (.ref 201), some (.int p1), some (.int v2), some (.int v3), some (.int v4), some (.int v5)]) (st' := [.int 0, .int (340 + x8), .ref 212]) 1 rfl ?_
        refine l1_ck (fun hx => ?_)
        refine l1_ast hQ mt_X12_readCodes rfl (o := 212) rfl hx (fun c10 => ?_)
        refine l1_many mt_X12_readCodes (pc' := 73) (L' := [some (.ref 201), some (.int p1), some (.int v2), some (.int v3), some (.int v4), some (.int (v5 + 1))]) (st' := []) 2 rfl ?_
        exact ih c10 v2 v3 v4 (v5 + 1)
      · refine l1_many mt_X12_readCodes (pc' := 103) (L' := [some (.ref 201), some (.int p1), some (.int v2), some (.int v3), some (.int v4), some (.int v5)]) (st' := [.int 3, .ref 201, .int (340 + x8), .ref 212]) 2 rfl ?_
        refine l1_callV hQ mt_X12_readCodes mt_X12_bits rfl rfl (o := 201) (ci := 11) (As := [.int 3]) (rest := [.int (340 + x8), .ref 212]) rfl rfl rfl rfl rfl rfl (st1 := fun x11 => [.int x11, .int (340 + x8), .ref 212]) (fun _ => rfl) (ok_X12_bits hQ N c9 3) (fun x11 c12 => ?_)
        refine l1_many mt_X12_readCodes (pc' := 110) (L' := [some (.ref 201), some (.int p1), some (.int v2), some (.int v3), some (.int v4), some (.int v5)]) (st' := [.int x11, .int (340 + x8), .ref 212]) 1 rfl ?_
        refine l1_ck (fun hx => ?_)
        refine l1_ast hQ mt_X12_readCodes rfl (o := 212) rfl hx (fun c13 => ?_)
        refine l1_many mt_X12_readCodes (pc' := 73) (L' := [some (.ref 201), some (.int p1), some (.int v2), some (.int v3), some (.int v4), some (.int (v5 + 1))]) (st' := []) 2 rfl ?_
        exact ih c13 v2 v3 v4 (v5 + 1)
set_option maxRecDepth 100000 in
theorem ok_X12_readCodes_61 {Q : hS → am_H → Prop} (hQ : l1_em km Q) (N : Nat) (p1 : Int32) : ∀ (c : hS) (v2 : Int32) (v3 : Int32), l1_G (wN wI) Q am_i_X12_readCodes 61 [some (.ref 201), some (.int p1), some (.int v2), some (.int v3)] [] c (f_X12_readCodes_61 N p1 c v2 v3) := by
  intro c v2 v3
  rw [f_X12_readCodes_61]
  refine l1_many mt_X12_readCodes (pc' := 64) (L' := [some (.ref 201), some (.int p1), some (.int v2), some (.int v3)]) (st' := [.int 4, .ref 201, .int 4]) 3 rfl ?_
  refine l1_callV hQ mt_X12_readCodes mt_X12_bits rfl rfl (o := 201) (ci := 11) (As := [.int 4]) (rest := [.int 4]) rfl rfl rfl rfl rfl rfl (st1 := fun x1 => [.int x1, .int 4]) (fun _ => rfl) (ok_X12_bits hQ N c 4) (fun x1 c2 => ?_)
  refine l1_many mt_X12_readCodes (pc' := 73) (L' := [some (.ref 201), some (.int p1), some (.int v2), some (.int v3), some (.int (4 + x1)), some (.int 0)]) (st' := []) 4 rfl ?_
  exact ok_X12_readCodes_73 hQ N p1 N c2 v2 v3 (4 + x1) 0
set_option maxRecDepth 100000 in
theorem ok_X12_readCodes_32 {Q : hS → am_H → Prop} (hQ : l1_em km Q) (N : Nat) (p1 : Int32) : ∀ (c : hS) (v2 : Int32), l1_G (wN wI) Q am_i_X12_readCodes 32 [some (.ref 201), some (.int p1), some (.int v2)] [] c (f_X12_readCodes_32 N p1 c v2) := by
  intro c v2
  rw [f_X12_readCodes_32]
  refine l1_many mt_X12_readCodes (pc' := 35) (L' := [some (.ref 201), some (.int p1), some (.int v2)]) (st' := [.int 5, .ref 201, .int 1]) 3 rfl ?_
  refine l1_callV hQ mt_X12_readCodes mt_X12_bits rfl rfl (o := 201) (ci := 11) (As := [.int 5]) (rest := [.int 1]) rfl rfl rfl rfl rfl rfl (st1 := fun x1 => [.int x1, .int 1]) (fun _ => rfl) (ok_X12_bits hQ N c 5) (fun x1 c2 => ?_)
  refine l1_many mt_X12_readCodes (pc' := 41) (L' := [some (.ref 201), some (.int p1), some (.int v2), some (.int (1 + x1))]) (st' := [.ref 201]) 3 rfl ?_
  refine l1_getI hQ mt_X12_readCodes rfl (o := 201) (ci := 11) (k := 5) (a := 0) (b := 0) rfl rfl rfl rfl rfl ?_
  refine l1_many mt_X12_readCodes (pc' := bif am_cc .ne (c2.1 201 5) 0 then 61 else 47) (L' := [some (.ref 201), some (.int p1), some (.int v2), some (.int (1 + x1))]) (st' := []) 1 rfl ?_
  refine l1_bin rfl ?_ ?_
  · refine l1_many mt_X12_readCodes (pc' := bif am_cc .le (1 + x1) 30 then 61 else 53) (L' := [some (.ref 201), some (.int p1), some (.int v2), some (.int (1 + x1))]) (st' := []) 3 rfl ?_
    refine l1_bif rfl ?_ ?_
    · exact ok_X12_readCodes_61 hQ N p1 c2 v2 (1 + x1)
    · refine l1_many mt_X12_readCodes (pc' := 57) (L' := [some (.ref 201), some (.int p1), some (.int v2), some (.int (1 + x1))]) (st' := [.int p1, .int 24, .ref 201]) 3 rfl ?_
      refine l1_callV hQ mt_X12_readCodes mt_X12_fails rfl rfl (o := 201) (ci := 11) (As := [.int 24, .int p1]) (rest := []) rfl rfl rfl rfl rfl rfl (st1 := fun x3 => [.int x3]) (fun _ => rfl) (ok_X12_fails hQ c2 24 p1) (fun x3 c4 => ?_)
      refine l1_ck (fun hz => ?_)
      exact l1_retZ mt_X12_readCodes rfl rfl rfl hz
  · exact ok_X12_readCodes_61 hQ N p1 c2 v2 (1 + x1)
set_option maxRecDepth 100000 in
theorem en_X12_readCodes {Q : hS → am_H → Prop} (hQ : l1_em km Q) (N : Nat) (c : hS) (p1 : Int32) : l1_G (wN wI) Q am_i_X12_readCodes 0 [some (.ref 201), some (.int p1)] [] c (f_X12_readCodes N c p1) := by
  rw [f_X12_readCodes]
  refine l1_many mt_X12_readCodes (pc' := 5) (L' := [some (.ref 201), some (.int p1)]) (st' := [.int 5, .ref 201, .int 257]) 3 rfl ?_
  refine l1_callV hQ mt_X12_readCodes mt_X12_bits rfl rfl (o := 201) (ci := 11) (As := [.int 5]) (rest := [.int 257]) rfl rfl rfl rfl rfl rfl (st1 := fun x1 => [.int x1, .int 257]) (fun _ => rfl) (ok_X12_bits hQ N c 5) (fun x1 c2 => ?_)
  refine l1_many mt_X12_readCodes (pc' := 11) (L' := [some (.ref 201), some (.int p1), some (.int (257 + x1))]) (st' := [.ref 201]) 3 rfl ?_
  refine l1_getI hQ mt_X12_readCodes rfl (o := 201) (ci := 11) (k := 5) (a := 0) (b := 0) rfl rfl rfl rfl rfl ?_
  refine l1_many mt_X12_readCodes (pc' := bif am_cc .ne (c2.1 201 5) 0 then 32 else 17) (L' := [some (.ref 201), some (.int p1), some (.int (257 + x1))]) (st' := []) 1 rfl ?_
  refine l1_bin rfl ?_ ?_
  · refine l1_many mt_X12_readCodes (pc' := bif am_cc .le (257 + x1) 286 then 32 else 24) (L' := [some (.ref 201), some (.int p1), some (.int (257 + x1))]) (st' := []) 3 rfl ?_
    refine l1_bif rfl ?_ ?_
    · exact ok_X12_readCodes_32 hQ N p1 c2 (257 + x1)
    · refine l1_many mt_X12_readCodes (pc' := 28) (L' := [some (.ref 201), some (.int p1), some (.int (257 + x1))]) (st' := [.int p1, .int 24, .ref 201]) 3 rfl ?_
      refine l1_callV hQ mt_X12_readCodes mt_X12_fails rfl rfl (o := 201) (ci := 11) (As := [.int 24, .int p1]) (rest := []) rfl rfl rfl rfl rfl rfl (st1 := fun x3 => [.int x3]) (fun _ => rfl) (ok_X12_fails hQ c2 24 p1) (fun x3 c4 => ?_)
      refine l1_ck (fun hz => ?_)
      exact l1_retZ mt_X12_readCodes rfl rfl rfl hz
  · exact ok_X12_readCodes_32 hQ N p1 c2 (257 + x1)
theorem ok_X12_readCodes {Q : hS → am_H → Prop} (hQ : l1_em km Q) (N : Nat) (c : hS) (p1 : Int32) : l1_T wI Q am_i_X12_readCodes [.ref 201, .int p1] c (f_X12_readCodes N c p1) := l1_of (en_X12_readCodes hQ N c p1) ⟨rfl, rfl, trivial⟩
set_option maxRecDepth 100000 in
theorem en_X12_distanceOf {Q : hS → am_H → Prop} (hQ : l1_em km Q) (c : hS) (p1 : Int32) : l1_G (wN wI) Q am_i_X12_distanceOf 0 [some (.ref 201), some (.int p1)] [] c (f_X12_distanceOf c p1) := by
  rw [f_X12_distanceOf]
  refine l1_many mt_X12_distanceOf (pc' := 2) (L' := [some (.ref 201), some (.int p1)]) (st' := [.int 0, .ref 201]) 2 rfl ?_
  refine l1_putI hQ mt_X12_distanceOf rfl (o := 201) (ci := 11) (k := 30) (a := 0) rfl rfl rfl rfl rfl rfl (fun c1 => ?_)
  refine l1_many mt_X12_distanceOf (pc' := bif am_cc .ge p1 4 then 14 else 10) (L' := [some (.ref 201), some (.int p1)]) (st' := []) 3 rfl ?_
  refine l1_bif rfl ?_ ?_
  · refine l1_many mt_X12_distanceOf (pc' := 20) (L' := [some (.ref 201), some (.int p1)]) (st' := [.int ((p1 / 2) - 1), .ref 201]) 6 rfl ?_
    refine l1_putI hQ mt_X12_distanceOf rfl (o := 201) (ci := 11) (k := 30) (a := 0) rfl rfl rfl rfl rfl rfl (fun c2 => ?_)
    refine l1_many mt_X12_distanceOf (pc' := 30) (L' := [some (.ref 201), some (.int p1)]) (st' := [.ref 201, .int (2 + (j_rem p1 2)), .int 1]) 7 rfl ?_
    refine l1_getI hQ mt_X12_distanceOf rfl (o := 201) (ci := 11) (k := 30) (a := 0) (b := 0) rfl rfl rfl rfl rfl ?_
    refine l1_many mt_X12_distanceOf (pc' := 35) (L' := [some (.ref 201), some (.int p1)]) (st' := [.int (1 + (j_shl (2 + (j_rem p1 2)) (c2.1 201 30)))]) 2 rfl ?_
    exact l1_ret mt_X12_distanceOf rfl rfl rfl
  · refine l1_many mt_X12_distanceOf (pc' := 13) (L' := [some (.ref 201), some (.int p1)]) (st' := [.int (1 + p1)]) 3 rfl ?_
    exact l1_ret mt_X12_distanceOf rfl rfl rfl
theorem ok_X12_distanceOf {Q : hS → am_H → Prop} (hQ : l1_em km Q) (c : hS) (p1 : Int32) : l1_T wI Q am_i_X12_distanceOf [.ref 201, .int p1] c (f_X12_distanceOf c p1) := l1_of (en_X12_distanceOf hQ c p1) ⟨rfl, rfl, trivial⟩
set_option maxRecDepth 100000 in
theorem en_X12_lengthOf {Q : hS → am_H → Prop} (hQ : l1_em km Q) (c : hS) (p1 : Int32) : l1_G (wN wI) Q am_i_X12_lengthOf 0 [some (.ref 201), some (.int p1)] [] c (f_X12_lengthOf c p1) := by
  rw [f_X12_lengthOf]
  refine l1_many mt_X12_lengthOf (pc' := 2) (L' := [some (.ref 201), some (.int p1)]) (st' := [.int 0, .ref 201]) 2 rfl ?_
  refine l1_putI hQ mt_X12_lengthOf rfl (o := 201) (ci := 11) (k := 30) (a := 0) rfl rfl rfl rfl rfl rfl (fun c1 => ?_)
  refine l1_many mt_X12_lengthOf (pc' := bif am_cc .ne p1 28 then 15 else 11) (L' := [some (.ref 201), some (.int p1)]) (st' := []) 3 rfl ?_
  refine l1_bin rfl ?_ ?_
  · refine l1_many mt_X12_lengthOf (pc' := 14) (L' := [some (.ref 201), some (.int p1)]) (st' := [.int 258]) 1 rfl ?_
    exact l1_ret mt_X12_lengthOf rfl rfl rfl
  · refine l1_many mt_X12_lengthOf (pc' := bif am_cc .ge p1 8 then 25 else 21) (L' := [some (.ref 201), some (.int p1)]) (st' := []) 3 rfl ?_
    refine l1_bif rfl ?_ ?_
    · refine l1_many mt_X12_lengthOf (pc' := 31) (L' := [some (.ref 201), some (.int p1)]) (st' := [.int ((p1 / 4) - 1), .ref 201]) 6 rfl ?_
      refine l1_putI hQ mt_X12_lengthOf rfl (o := 201) (ci := 11) (k := 30) (a := 0) rfl rfl rfl rfl rfl rfl (fun c2 => ?_)
      refine l1_many mt_X12_lengthOf (pc' := 41) (L' := [some (.ref 201), some (.int p1)]) (st' := [.ref 201, .int (4 + (j_rem p1 4)), .int 3]) 7 rfl ?_
      refine l1_getI hQ mt_X12_lengthOf rfl (o := 201) (ci := 11) (k := 30) (a := 0) (b := 0) rfl rfl rfl rfl rfl ?_
      refine l1_many mt_X12_lengthOf (pc' := 46) (L' := [some (.ref 201), some (.int p1)]) (st' := [.int (3 + (j_shl (4 + (j_rem p1 4)) (c2.1 201 30)))]) 2 rfl ?_
      exact l1_ret mt_X12_lengthOf rfl rfl rfl
    · refine l1_many mt_X12_lengthOf (pc' := 24) (L' := [some (.ref 201), some (.int p1)]) (st' := [.int (3 + p1)]) 3 rfl ?_
      exact l1_ret mt_X12_lengthOf rfl rfl rfl
theorem ok_X12_lengthOf {Q : hS → am_H → Prop} (hQ : l1_em km Q) (c : hS) (p1 : Int32) : l1_T wI Q am_i_X12_lengthOf [.ref 201, .int p1] c (f_X12_lengthOf c p1) := l1_of (en_X12_lengthOf hQ c p1) ⟨rfl, rfl, trivial⟩
set_option maxRecDepth 100000 in
theorem ok_X12_readSymbols_193 {Q : hS → am_H → Prop} (hQ : l1_em km Q) (N : Nat) {k0 : hS → Option (Int32 × hS)} (hk0 : ∀ c , l1_G (wN wI) Q am_i_X12_readSymbols 0 [some (.ref 201)] [] c (k0 c)) : ∀ n : Nat, ∀ (c : hS) (v1 : Int32) (v3 : Int32) (v5 : Int32) (v6 : Int32), l1_G (wN wI) Q am_i_X12_readSymbols 193 [some (.ref 201), some (.int v1), none, some (.int v3), none, some (.int v5), some (.int v6)] [] c (f_X12_readSymbols_193 N k0 n c v1 v3 v5 v6) := by
  intro n
  induction n with
  | zero => intro c v1 v3 v5 v6; exact l1_none
  | succ n ih =>
    intro c v1 v3 v5 v6
    rw [f_X12_readSymbols_193]
    refine l1_many mt_X12_readSymbols (pc' := bif am_cc .ge v6 v3 then 227 else 199) (L' := [some (.ref 201), some (.int v1), none, some (.int v3), none, some (.int v5), some (.int v6)]) (st' := []) 3 rfl ?_
    refine l1_bif rfl ?_ ?_
    · refine l1_many mt_X12_readSymbols (pc' := 0) (L' := [some (.ref 201), some (.int v1), none, some (.int v3), none, some (.int v5), some (.int v6)]) (st' := []) 1 rfl ?_
      refine l1_weak (m := [true, false, false, false, false, false, false]) (L' := [some (.ref 201)]) rfl ?_
      exact hk0 c
    · refine l1_many mt_X12_readSymbols (pc' := 201) (L' := [some (.ref 201), some (.int v1), none, some (.int v3), none, some (.int v5), some (.int v6)]) (st' := [.ref 201, .ref 201]) 2 rfl ?_
      refine l1_getR hQ mt_X12_readSymbols rfl (o := 201) (ci := 11) (k := 22) (a := 0) (b := 0) rfl rfl rfl rfl rfl (q := 211) rfl ?_
      refine l1_many mt_X12_readSymbols (pc' := 205) (L' := [some (.ref 201), some (.int v1), none, some (.int v3), none, some (.int v5), some (.int v6)]) (st' := [.ref 201, .ref 211, .ref 201]) 1 rfl ?_
      refine l1_getI hQ mt_X12_readSymbols rfl (o := 201) (ci := 11) (k := 23) (a := 0) (b := 0) rfl rfl rfl rfl rfl ?_
      refine l1_many mt_X12_readSymbols (pc' := 211) (L' := [some (.ref 201), some (.int v1), none, some (.int v3), none, some (.int v5), some (.int v6)]) (st' := [.int ((c.1 201 23) - v5), .ref 211, .ref 201]) 2 rfl ?_
      refine l1_ck (fun hx => ?_)
      refine l1_ald hQ mt_X12_readSymbols rfl (o := 211) rfl hx ?_
      refine l1_many mt_X12_readSymbols (pc' := 213) (L' := [some (.ref 201), some (.int v1), none, some (.int v3), none, some (.int v5), some (.int v6)]) (st' := [.int v1, .int (c.1 211 ((c.1 201 23) - v5).toNatClampNeg), .ref 201]) 1 rfl ?_
      refine l1_callV hQ mt_X12_readSymbols mt_X12_add rfl rfl (o := 201) (ci := 11) (As := [.int (c.1 211 ((c.1 201 23) - v5).toNatClampNeg), .int v1]) (rest := []) rfl rfl rfl rfl rfl rfl (st1 := fun x1 => [.int x1]) (fun _ => rfl) (ok_X12_add hQ c (c.1 211 ((c.1 201 23) - v5).toNatClampNeg) v1) (fun x1 c2 => ?_)
      refine l1_many mt_X12_readSymbols (pc' := bif am_cc .ne x1 0 then 221 else 219) (L' := [some (.ref 201), some (.int v1), none, some (.int v3), none, some (.int v5), some (.int v6)]) (st' := []) 1 rfl ?_
      refine l1_bin rfl ?_ ?_
      · refine l1_many mt_X12_readSymbols (pc' := 220) (L' := [some (.ref 201), some (.int v1), none, some (.int v3), none, some (.int v5), some (.int v6)]) (st' := [.int 0]) 1 rfl ?_
        exact l1_ret mt_X12_readSymbols rfl rfl rfl
      · refine l1_many mt_X12_readSymbols (pc' := 193) (L' := [some (.ref 201), some (.int v1), none, some (.int v3), none, some (.int v5), some (.int (v6 + 1))]) (st' := []) 2 rfl ?_
        exact ih c2 v1 v3 v5 (v6 + 1)
set_option maxRecDepth 100000 in
theorem ok_X12_readSymbols_0 {Q : hS → am_H → Prop} (hQ : l1_em km Q) (N : Nat) : ∀ n : Nat, ∀ (c : hS), l1_G (wN wI) Q am_i_X12_readSymbols 0 [some (.ref 201)] [] c (f_X12_readSymbols_0 N n c) := by
  intro n
  induction n with
  | zero => intro c; exact l1_none
  | succ n ih =>
    intro c
    rw [f_X12_readSymbols_0]
    refine l1_many mt_X12_readSymbols (pc' := 1) (L' := [some (.ref 201)]) (st' := [.ref 201]) 1 rfl ?_
    refine l1_getI hQ mt_X12_readSymbols rfl (o := 201) (ci := 11) (k := 25) (a := 0) (b := 0) rfl rfl rfl rfl rfl ?_
    refine l1_many mt_X12_readSymbols (pc' := 13) (L' := [some (.ref 201), some (.int ((c.1 201 25) / 8))]) (st' := [.int 288, .int 0, .ref 201]) 6 rfl ?_
    refine l1_callV hQ mt_X12_readSymbols mt_X12_symbol rfl rfl (o := 201) (ci := 11) (As := [.int 0, .int 288]) (rest := []) rfl rfl rfl rfl rfl rfl (st1 := fun x1 => [.int x1]) (fun _ => rfl) (ok_X12_symbol hQ N c 0 288) (fun x1 c2 => ?_)
    refine l1_many mt_X12_readSymbols (pc' := bif am_cc .ne x1 (-1) then 24 else 22) (L' := [some (.ref 201), some (.int ((c.1 201 25) / 8)), some (.int x1)]) (st' := []) 4 rfl ?_
    refine l1_bin rfl ?_ ?_
    · refine l1_many mt_X12_readSymbols (pc' := 23) (L' := [some (.ref 201), some (.int ((c.1 201 25) / 8)), some (.int x1)]) (st' := [.int 0]) 1 rfl ?_
      exact l1_ret mt_X12_readSymbols rfl rfl rfl
    · refine l1_many mt_X12_readSymbols (pc' := bif am_cc .eq x1 (-2) then 37 else 30) (L' := [some (.ref 201), some (.int ((c.1 201 25) / 8)), some (.int x1)]) (st' := []) 3 rfl ?_
      refine l1_bif rfl ?_ ?_
      · refine l1_many mt_X12_readSymbols (pc' := 41) (L' := [some (.ref 201), some (.int ((c.1 201 25) / 8)), some (.int x1)]) (st' := [.int ((c.1 201 25) / 8), .int 25, .ref 201]) 3 rfl ?_
        refine l1_callV hQ mt_X12_readSymbols mt_X12_fails rfl rfl (o := 201) (ci := 11) (As := [.int 25, .int ((c.1 201 25) / 8)]) (rest := []) rfl rfl rfl rfl rfl rfl (st1 := fun x3 => [.int x3]) (fun _ => rfl) (ok_X12_fails hQ c2 25 ((c.1 201 25) / 8)) (fun x3 c4 => ?_)
        refine l1_ck (fun hz => ?_)
        exact l1_retZ mt_X12_readSymbols rfl rfl rfl hz
      · refine l1_many mt_X12_readSymbols (pc' := bif am_cc .le x1 285 then 45 else 37) (L' := [some (.ref 201), some (.int ((c.1 201 25) / 8)), some (.int x1)]) (st' := []) 3 rfl ?_
        refine l1_bif rfl ?_ ?_
        · refine l1_many mt_X12_readSymbols (pc' := bif am_cc .ne x1 256 then 54 else 52) (L' := [some (.ref 201), some (.int ((c.1 201 25) / 8)), some (.int x1)]) (st' := []) 3 rfl ?_
          refine l1_bin rfl ?_ ?_
          · refine l1_many mt_X12_readSymbols (pc' := 53) (L' := [some (.ref 201), some (.int ((c.1 201 25) / 8)), some (.int x1)]) (st' := [.int 1]) 1 rfl ?_
            exact l1_ret mt_X12_readSymbols rfl rfl rfl
          · refine l1_many mt_X12_readSymbols (pc' := bif am_cc .ge x1 256 then 72 else 61) (L' := [some (.ref 201), some (.int ((c.1 201 25) / 8)), some (.int x1)]) (st' := []) 3 rfl ?_
            refine l1_bif rfl ?_ ?_
            · refine l1_many mt_X12_readSymbols (pc' := 78) (L' := [some (.ref 201), some (.int ((c.1 201 25) / 8)), some (.int x1)]) (st' := [.int (x1 - 257), .ref 201]) 4 rfl ?_
              refine l1_callV hQ mt_X12_readSymbols mt_X12_lengthOf rfl rfl (o := 201) (ci := 11) (As := [.int (x1 - 257)]) (rest := []) rfl rfl rfl rfl rfl rfl (st1 := fun x5 => [.int x5]) (fun _ => rfl) (ok_X12_lengthOf hQ c2 (x1 - 257)) (fun x5 c6 => ?_)
              refine l1_many mt_X12_readSymbols (pc' := 85) (L' := [some (.ref 201), some (.int ((c.1 201 25) / 8)), some (.int x1), some (.int x5)]) (st' := [.ref 201, .ref 201, .int x5]) 4 rfl ?_
              refine l1_getI hQ mt_X12_readSymbols rfl (o := 201) (ci := 11) (k := 30) (a := 0) (b := 0) rfl rfl rfl rfl rfl ?_
              refine l1_callV hQ mt_X12_readSymbols mt_X12_bits rfl rfl (o := 201) (ci := 11) (As := [.int (c6.1 201 30)]) (rest := [.int x5]) rfl rfl rfl rfl rfl rfl (st1 := fun x7 => [.int x7, .int x5]) (fun _ => rfl) (ok_X12_bits hQ N c6 (c6.1 201 30)) (fun x7 c8 => ?_)
              refine l1_many mt_X12_readSymbols (pc' := 94) (L' := [some (.ref 201), some (.int ((c.1 201 25) / 8)), some (.int x1), some (.int (x5 + x7))]) (st' := [.ref 201]) 3 rfl ?_
              refine l1_getI hQ mt_X12_readSymbols rfl (o := 201) (ci := 11) (k := 5) (a := 0) (b := 0) rfl rfl rfl rfl rfl ?_
              refine l1_many mt_X12_readSymbols (pc' := bif am_cc .eq (c8.1 201 5) 0 then 102 else 100) (L' := [some (.ref 201), some (.int ((c.1 201 25) / 8)), some (.int x1), some (.int (x5 + x7))]) (st' := []) 1 rfl ?_
              refine l1_bif rfl ?_ ?_
              · refine l1_many mt_X12_readSymbols (pc' := 108) (L' := [some (.ref 201), some (.int ((c.1 201 25) / 8)), some (.int x1), some (.int (x5 + x7))]) (st' := [.int 32, .int 300, .ref 201]) 3 rfl ?_
                refine l1_callV hQ mt_X12_readSymbols mt_X12_symbol rfl rfl (o := 201) (ci := 11) (As := [.int 300, .int 32]) (rest := []) rfl rfl rfl rfl rfl rfl (st1 := fun x9 => [.int x9]) (fun _ => rfl) (ok_X12_symbol hQ N c8 300 32) (fun x9 c10 => ?_)
                refine l1_many mt_X12_readSymbols (pc' := bif am_cc .ne x9 (-1) then 121 else 119) (L' := [some (.ref 201), some (.int ((c.1 201 25) / 8)), some (.int x1), some (.int (x5 + x7)), some (.int x9)]) (st' := []) 4 rfl ?_
                refine l1_bin rfl ?_ ?_
                · refine l1_many mt_X12_readSymbols (pc' := 120) (L' := [some (.ref 201), some (.int ((c.1 201 25) / 8)), some (.int x1), some (.int (x5 + x7)), some (.int x9)]) (st' := [.int 0]) 1 rfl ?_
                  exact l1_ret mt_X12_readSymbols rfl rfl rfl
                · refine l1_many mt_X12_readSymbols (pc' := bif am_cc .eq x9 (-2) then 135 else 128) (L' := [some (.ref 201), some (.int ((c.1 201 25) / 8)), some (.int x1), some (.int (x5 + x7)), some (.int x9)]) (st' := []) 3 rfl ?_
                  refine l1_bif rfl ?_ ?_
                  · refine l1_many mt_X12_readSymbols (pc' := 139) (L' := [some (.ref 201), some (.int ((c.1 201 25) / 8)), some (.int x1), some (.int (x5 + x7)), some (.int x9)]) (st' := [.int ((c.1 201 25) / 8), .int 25, .ref 201]) 3 rfl ?_
                    refine l1_callV hQ mt_X12_readSymbols mt_X12_fails rfl rfl (o := 201) (ci := 11) (As := [.int 25, .int ((c.1 201 25) / 8)]) (rest := []) rfl rfl rfl rfl rfl rfl (st1 := fun x11 => [.int x11]) (fun _ => rfl) (ok_X12_fails hQ c10 25 ((c.1 201 25) / 8)) (fun x11 c12 => ?_)
                    refine l1_ck (fun hz => ?_)
                    exact l1_retZ mt_X12_readSymbols rfl rfl rfl hz
                  · refine l1_many mt_X12_readSymbols (pc' := bif am_cc .le x9 29 then 143 else 135) (L' := [some (.ref 201), some (.int ((c.1 201 25) / 8)), some (.int x1), some (.int (x5 + x7)), some (.int x9)]) (st' := []) 3 rfl ?_
                    refine l1_bif rfl ?_ ?_
                    · refine l1_many mt_X12_readSymbols (pc' := 146) (L' := [some (.ref 201), some (.int ((c.1 201 25) / 8)), some (.int x1), some (.int (x5 + x7)), some (.int x9)]) (st' := [.int x9, .ref 201]) 2 rfl ?_
                      refine l1_callV hQ mt_X12_readSymbols mt_X12_distanceOf rfl rfl (o := 201) (ci := 11) (As := [.int x9]) (rest := []) rfl rfl rfl rfl rfl rfl (st1 := fun x13 => [.int x13]) (fun _ => rfl) (ok_X12_distanceOf hQ c10 x9) (fun x13 c14 => ?_)
                      refine l1_many mt_X12_readSymbols (pc' := 155) (L' := [some (.ref 201), some (.int ((c.1 201 25) / 8)), some (.int x1), some (.int (x5 + x7)), some (.int x9), some (.int x13)]) (st' := [.ref 201, .ref 201, .int x13]) 4 rfl ?_
                      refine l1_getI hQ mt_X12_readSymbols rfl (o := 201) (ci := 11) (k := 30) (a := 0) (b := 0) rfl rfl rfl rfl rfl ?_
                      refine l1_callV hQ mt_X12_readSymbols mt_X12_bits rfl rfl (o := 201) (ci := 11) (As := [.int (c14.1 201 30)]) (rest := [.int x13]) rfl rfl rfl rfl rfl rfl (st1 := fun x15 => [.int x15, .int x13]) (fun _ => rfl) (ok_X12_bits hQ N c14 (c14.1 201 30)) (fun x15 c16 => ?_)
                      refine l1_many mt_X12_readSymbols (pc' := 165) (L' := [some (.ref 201), some (.int ((c.1 201 25) / 8)), some (.int x1), some (.int (x5 + x7)), some (.int x9), some (.int (x13 + x15))]) (st' := [.ref 201]) 3 rfl ?_
                      refine l1_getI hQ mt_X12_readSymbols rfl (o := 201) (ci := 11) (k := 5) (a := 0) (b := 0) rfl rfl rfl rfl rfl ?_
                      refine l1_many mt_X12_readSymbols (pc' := bif am_cc .eq (c16.1 201 5) 0 then 173 else 171) (L' := [some (.ref 201), some (.int ((c.1 201 25) / 8)), some (.int x1), some (.int (x5 + x7)), some (.int x9), some (.int (x13 + x15))]) (st' := []) 1 rfl ?_
                      refine l1_bif rfl ?_ ?_
                      · refine l1_many mt_X12_readSymbols (pc' := 176) (L' := [some (.ref 201), some (.int ((c.1 201 25) / 8)), some (.int x1), some (.int (x5 + x7)), some (.int x9), some (.int (x13 + x15))]) (st' := [.ref 201, .int (x13 + x15)]) 2 rfl ?_
                        refine l1_getI hQ mt_X12_readSymbols rfl (o := 201) (ci := 11) (k := 23) (a := 0) (b := 0) rfl rfl rfl rfl rfl ?_
                        refine l1_many mt_X12_readSymbols (pc' := bif am_cc .le (x13 + x15) (c16.1 201 23) then 190 else 182) (L' := [some (.ref 201), some (.int ((c.1 201 25) / 8)), some (.int x1), some (.int (x5 + x7)), some (.int x9), some (.int (x13 + x15))]) (st' := []) 1 rfl ?_
                        refine l1_bif rfl ?_ ?_
                        · refine l1_many mt_X12_readSymbols (pc' := 193) (L' := [some (.ref 201), some (.int ((c.1 201 25) / 8)), some (.int x1), some (.int (x5 + x7)), some (.int x9), some (.int (x13 + x15)), some (.int 0)]) (st' := []) 2 rfl ?_
                          refine l1_weak (m := [true, true, false, true, false, true, true]) (L' := [some (.ref 201), some (.int ((c.1 201 25) / 8)), none, some (.int (x5 + x7)), none, some (.int (x13 + x15)), some (.int 0)]) rfl ?_
                          exact ok_X12_readSymbols_193 hQ N ih N c16 ((c.1 201 25) / 8) (x5 + x7) (x13 + x15) 0
                        · refine l1_many mt_X12_readSymbols (pc' := 186) (L' := [some (.ref 201), some (.int ((c.1 201 25) / 8)), some (.int x1), some (.int (x5 + x7)), some (.int x9), some (.int (x13 + x15))]) (st' := [.int ((c.1 201 25) / 8), .int 26, .ref 201]) 3 rfl ?_
                          refine l1_callV hQ mt_X12_readSymbols mt_X12_fails rfl rfl (o := 201) (ci := 11) (As := [.int 26, .int ((c.1 201 25) / 8)]) (rest := []) rfl rfl rfl rfl rfl rfl (st1 := fun x17 => [.int x17]) (fun _ => rfl) (ok_X12_fails hQ c16 26 ((c.1 201 25) / 8)) (fun x17 c18 => ?_)
                          refine l1_ck (fun hz => ?_)
                          exact l1_retZ mt_X12_readSymbols rfl rfl rfl hz
                      · refine l1_many mt_X12_readSymbols (pc' := 172) (L' := [some (.ref 201), some (.int ((c.1 201 25) / 8)), some (.int x1), some (.int (x5 + x7)), some (.int x9), some (.int (x13 + x15))]) (st' := [.int 0]) 1 rfl ?_
                        exact l1_ret mt_X12_readSymbols rfl rfl rfl
                    · refine l1_many mt_X12_readSymbols (pc' := 139) (L' := [some (.ref 201), some (.int ((c.1 201 25) / 8)), some (.int x1), some (.int (x5 + x7)), some (.int x9)]) (st' := [.int ((c.1 201 25) / 8), .int 25, .ref 201]) 3 rfl ?_
                      refine l1_callV hQ mt_X12_readSymbols mt_X12_fails rfl rfl (o := 201) (ci := 11) (As := [.int 25, .int ((c.1 201 25) / 8)]) (rest := []) rfl rfl rfl rfl rfl rfl (st1 := fun x19 => [.int x19]) (fun _ => rfl) (ok_X12_fails hQ c10 25 ((c.1 201 25) / 8)) (fun x19 c20 => ?_)
                      refine l1_ck (fun hz => ?_)
                      exact l1_retZ mt_X12_readSymbols rfl rfl rfl hz
              · refine l1_many mt_X12_readSymbols (pc' := 101) (L' := [some (.ref 201), some (.int ((c.1 201 25) / 8)), some (.int x1), some (.int (x5 + x7))]) (st' := [.int 0]) 1 rfl ?_
                exact l1_ret mt_X12_readSymbols rfl rfl rfl
            · refine l1_many mt_X12_readSymbols (pc' := 64) (L' := [some (.ref 201), some (.int ((c.1 201 25) / 8)), some (.int x1)]) (st' := [.int ((c.1 201 25) / 8), .int x1, .ref 201]) 3 rfl ?_
              refine l1_callV hQ mt_X12_readSymbols mt_X12_add rfl rfl (o := 201) (ci := 11) (As := [.int x1, .int ((c.1 201 25) / 8)]) (rest := []) rfl rfl rfl rfl rfl rfl (st1 := fun x21 => [.int x21]) (fun _ => rfl) (ok_X12_add hQ c2 x1 ((c.1 201 25) / 8)) (fun x21 c22 => ?_)
              refine l1_many mt_X12_readSymbols (pc' := bif am_cc .ne x21 0 then 0 else 70) (L' := [some (.ref 201), some (.int ((c.1 201 25) / 8)), some (.int x1)]) (st' := []) 1 rfl ?_
              refine l1_bin rfl ?_ ?_
              · refine l1_many mt_X12_readSymbols (pc' := 71) (L' := [some (.ref 201), some (.int ((c.1 201 25) / 8)), some (.int x1)]) (st' := [.int 0]) 1 rfl ?_
                exact l1_ret mt_X12_readSymbols rfl rfl rfl
              · refine l1_weak (m := [true, false, false, false, false, false, false]) (L' := [some (.ref 201)]) rfl ?_
                exact ih c22
        · refine l1_many mt_X12_readSymbols (pc' := 41) (L' := [some (.ref 201), some (.int ((c.1 201 25) / 8)), some (.int x1)]) (st' := [.int ((c.1 201 25) / 8), .int 25, .ref 201]) 3 rfl ?_
          refine l1_callV hQ mt_X12_readSymbols mt_X12_fails rfl rfl (o := 201) (ci := 11) (As := [.int 25, .int ((c.1 201 25) / 8)]) (rest := []) rfl rfl rfl rfl rfl rfl (st1 := fun x23 => [.int x23]) (fun _ => rfl) (ok_X12_fails hQ c2 25 ((c.1 201 25) / 8)) (fun x23 c24 => ?_)
          refine l1_ck (fun hz => ?_)
          exact l1_retZ mt_X12_readSymbols rfl rfl rfl hz
set_option maxRecDepth 100000 in
theorem en_X12_readSymbols {Q : hS → am_H → Prop} (hQ : l1_em km Q) (N : Nat) (c : hS) : l1_G (wN wI) Q am_i_X12_readSymbols 0 [some (.ref 201)] [] c (f_X12_readSymbols N c) := by
  rw [f_X12_readSymbols]
  exact ok_X12_readSymbols_0 hQ N N c
theorem ok_X12_readSymbols {Q : hS → am_H → Prop} (hQ : l1_em km Q) (N : Nat) (c : hS) : l1_T wI Q am_i_X12_readSymbols [.ref 201] c (f_X12_readSymbols N c) := l1_of (en_X12_readSymbols hQ N c) ⟨rfl, trivial⟩
set_option maxRecDepth 100000 in
theorem ok_X12_unpackFrom_129 {Q : hS → am_H → Prop} (hQ : l1_em km Q) (N : Nat) (p1 : Int32) (p2 : Int32) (p3 : Int32) {k29 : hS → Int32 → Option (Int32 × hS)} (hk29 : ∀ c v4, l1_G (wN wI) Q am_i_X12_unpackFrom 29 [some (.ref 201), none, some (.int p2), none, some (.int v4)] [] c (k29 c v4)) : ∀ (c : hS) (v4 : Int32) (v7 : Int32), l1_G (wN wI) Q am_i_X12_unpackFrom 129 [some (.ref 201), none, some (.int p2), none, some (.int v4), none, none, some (.int v7)] [] c (f_X12_unpackFrom_129 N p1 p2 p3 k29 c v4 v7) := by
  intro c v4 v7
  rw [f_X12_unpackFrom_129]
  refine l1_many mt_X12_unpackFrom (pc' := bif am_cc .eq v7 0 then 145 else 134) (L' := [some (.ref 201), none, some (.int p2), none, some (.int v4), none, none, some (.int v7)]) (st' := []) 2 rfl ?_
  refine l1_bif rfl ?_ ?_
  · refine l1_many mt_X12_unpackFrom (pc' := 154) (L' := [some (.ref 201), none, some (.int p2), none, some (.int v4), none, none, some (.int 0)]) (st' := [.int 0]) 5 rfl ?_
    exact l1_ret mt_X12_unpackFrom rfl rfl rfl
  · refine l1_many mt_X12_unpackFrom (pc' := 135) (L' := [some (.ref 201), none, some (.int p2), none, some (.int v4), none, none, some (.int v7)]) (st' := [.ref 201]) 1 rfl ?_
    refine l1_callV hQ mt_X12_unpackFrom mt_X12_readSymbols rfl rfl (o := 201) (ci := 11) (As := []) (rest := []) rfl rfl rfl rfl rfl rfl (st1 := fun x1 => [.int x1]) (fun _ => rfl) (ok_X12_readSymbols hQ N c) (fun x1 c2 => ?_)
    refine l1_many mt_X12_unpackFrom (pc' := bif am_cc .eq x1 0 then 145 else 141) (L' := [some (.ref 201), none, some (.int p2), none, some (.int v4), none, none, some (.int v7)]) (st' := []) 1 rfl ?_
    refine l1_bif rfl ?_ ?_
    · refine l1_many mt_X12_unpackFrom (pc' := 154) (L' := [some (.ref 201), none, some (.int p2), none, some (.int v4), none, none, some (.int 0)]) (st' := [.int 0]) 5 rfl ?_
      exact l1_ret mt_X12_unpackFrom rfl rfl rfl
    · refine l1_many mt_X12_unpackFrom (pc' := 29) (L' := [some (.ref 201), none, some (.int p2), none, some (.int v4), none, none, some (.int 1)]) (st' := []) 6 rfl ?_
      refine l1_weak (m := [true, false, true, false, true, false, false, false]) (L' := [some (.ref 201), none, some (.int p2), none, some (.int v4)]) rfl ?_
      exact hk29 c2 v4
set_option maxRecDepth 100000 in
theorem ok_X12_unpackFrom_56 {Q : hS → am_H → Prop} (hQ : l1_em km Q) (N : Nat) (p1 : Int32) (p2 : Int32) (p3 : Int32) {k29 : hS → Int32 → Option (Int32 × hS)} (hk29 : ∀ c v4, l1_G (wN wI) Q am_i_X12_unpackFrom 29 [some (.ref 201), none, some (.int p2), none, some (.int v4)] [] c (k29 c v4)) : ∀ (c : hS) (v5 : Int32) (w0 : Int32), l1_G (wN wI) Q am_i_X12_unpackFrom 56 [some (.ref 201), none, some (.int p2), none, none, some (.int v5)] [.int w0] c (f_X12_unpackFrom_56 N p1 p2 p3 k29 c v5 w0) := by
  intro c v5 w0
  rw [f_X12_unpackFrom_56]
  refine l1_many mt_X12_unpackFrom (pc' := 60) (L' := [some (.ref 201), none, some (.int p2), none, some (.int w0), some (.int v5)]) (st' := [.int 2, .ref 201]) 3 rfl ?_
  refine l1_callV hQ mt_X12_unpackFrom mt_X12_bits rfl rfl (o := 201) (ci := 11) (As := [.int 2]) (rest := []) rfl rfl rfl rfl rfl rfl (st1 := fun x1 => [.int x1]) (fun _ => rfl) (ok_X12_bits hQ N c 2) (fun x1 c2 => ?_)
  refine l1_many mt_X12_unpackFrom (pc' := 66) (L' := [some (.ref 201), none, some (.int p2), none, some (.int w0), some (.int v5), some (.int x1)]) (st' := [.ref 201]) 2 rfl ?_
  refine l1_getI hQ mt_X12_unpackFrom rfl (o := 201) (ci := 11) (k := 5) (a := 0) (b := 0) rfl rfl rfl rfl rfl ?_
  refine l1_many mt_X12_unpackFrom (pc' := bif am_cc .eq (c2.1 201 5) 0 then 74 else 72) (L' := [some (.ref 201), none, some (.int p2), none, some (.int w0), some (.int v5), some (.int x1)]) (st' := []) 1 rfl ?_
  refine l1_bif rfl ?_ ?_
  · refine l1_many mt_X12_unpackFrom (pc' := bif am_cc .ne x1 3 then 89 else 80) (L' := [some (.ref 201), none, some (.int p2), none, some (.int w0), some (.int v5), some (.int x1)]) (st' := []) 3 rfl ?_
    refine l1_bin rfl ?_ ?_
    · refine l1_many mt_X12_unpackFrom (pc' := 85) (L' := [some (.ref 201), none, some (.int p2), none, some (.int w0), some (.int v5), some (.int x1)]) (st' := [.int v5, .int 21, .ref 201]) 3 rfl ?_
      refine l1_callV hQ mt_X12_unpackFrom mt_X12_fails rfl rfl (o := 201) (ci := 11) (As := [.int 21, .int v5]) (rest := []) rfl rfl rfl rfl rfl rfl (st1 := fun x8 => [.int x8]) (fun _ => rfl) (ok_X12_fails hQ c2 21 v5) (fun x8 c9 => ?_)
      refine l1_ck (fun hz => ?_)
      exact l1_retZ mt_X12_unpackFrom rfl rfl rfl hz
    · refine l1_many mt_X12_unpackFrom (pc' := bif am_cc .ne x1 0 then 108 else 97) (L' := [some (.ref 201), none, some (.int p2), none, some (.int w0), some (.int v5), some (.int x1), some (.int 1)]) (st' := []) 4 rfl ?_
      refine l1_bin rfl ?_ ?_
      · refine l1_many mt_X12_unpackFrom (pc' := 100) (L' := [some (.ref 201), none, some (.int p2), none, some (.int w0), some (.int v5), some (.int x1), some (.int 1)]) (st' := [.int v5, .ref 201]) 2 rfl ?_
        refine l1_callV hQ mt_X12_unpackFrom mt_X12_plain rfl rfl (o := 201) (ci := 11) (As := [.int v5]) (rest := []) rfl rfl rfl rfl rfl rfl (st1 := fun x6 => [.int x6]) (fun _ => rfl) (ok_X12_plain hQ N c2 v5) (fun x6 c7 => ?_)
        refine l1_many mt_X12_unpackFrom (pc' := bif am_cc .ne x6 0 then 155 else 153) (L' := [some (.ref 201), none, some (.int p2), none, some (.int w0), some (.int v5), some (.int x1), some (.int x6)]) (st' := []) 4 rfl ?_
        refine l1_bin rfl ?_ ?_
        · refine l1_many mt_X12_unpackFrom (pc' := 154) (L' := [some (.ref 201), none, some (.int p2), none, some (.int w0), some (.int v5), some (.int x1), some (.int x6)]) (st' := [.int 0]) 1 rfl ?_
          exact l1_ret mt_X12_unpackFrom rfl rfl rfl
        · refine l1_many mt_X12_unpackFrom (pc' := 29) (L' := [some (.ref 201), none, some (.int p2), none, some (.int w0), some (.int v5), some (.int x1), some (.int x6)]) (st' := []) 1 rfl ?_
          refine l1_weak (m := [true, false, true, false, true, false, false, false]) (L' := [some (.ref 201), none, some (.int p2), none, some (.int w0)]) rfl ?_
          exact hk29 c7 w0
      · refine l1_many mt_X12_unpackFrom (pc' := bif am_cc .ne x1 1 then 121 else 114) (L' := [some (.ref 201), none, some (.int p2), none, some (.int w0), some (.int v5), some (.int x1), some (.int 1)]) (st' := []) 3 rfl ?_
        refine l1_bin rfl ?_ ?_
        · refine l1_many mt_X12_unpackFrom (pc' := 115) (L' := [some (.ref 201), none, some (.int p2), none, some (.int w0), some (.int v5), some (.int x1), some (.int 1)]) (st' := [.ref 201]) 1 rfl ?_
          refine l1_callV hQ mt_X12_unpackFrom mt_X12_layFixed rfl rfl (o := 201) (ci := 11) (As := []) (rest := []) rfl rfl rfl rfl rfl rfl (st1 := fun _ => []) (fun _ => rfl) (ok_X12_layFixed hQ N c2) (fun _ c5 => ?_)
          refine l1_many mt_X12_unpackFrom (pc' := 129) (L' := [some (.ref 201), none, some (.int p2), none, some (.int w0), some (.int v5), some (.int x1), some (.int 1)]) (st' := []) 1 rfl ?_
          refine l1_weak (m := [true, false, true, false, true, false, false, true]) (L' := [some (.ref 201), none, some (.int p2), none, some (.int w0), none, none, some (.int 1)]) rfl ?_
          exact ok_X12_unpackFrom_129 hQ N p1 p2 p3 hk29 c5 w0 1
        · refine l1_many mt_X12_unpackFrom (pc' := 124) (L' := [some (.ref 201), none, some (.int p2), none, some (.int w0), some (.int v5), some (.int x1), some (.int 1)]) (st' := [.int v5, .ref 201]) 2 rfl ?_
          refine l1_callV hQ mt_X12_unpackFrom mt_X12_readCodes rfl rfl (o := 201) (ci := 11) (As := [.int v5]) (rest := []) rfl rfl rfl rfl rfl rfl (st1 := fun x3 => [.int x3]) (fun _ => rfl) (ok_X12_readCodes hQ N c2 v5) (fun x3 c4 => ?_)
          refine l1_many mt_X12_unpackFrom (pc' := 129) (L' := [some (.ref 201), none, some (.int p2), none, some (.int w0), some (.int v5), some (.int x1), some (.int x3)]) (st' := []) 1 rfl ?_
          refine l1_weak (m := [true, false, true, false, true, false, false, true]) (L' := [some (.ref 201), none, some (.int p2), none, some (.int w0), none, none, some (.int x3)]) rfl ?_
          exact ok_X12_unpackFrom_129 hQ N p1 p2 p3 hk29 c4 w0 x3
  · refine l1_many mt_X12_unpackFrom (pc' := 73) (L' := [some (.ref 201), none, some (.int p2), none, some (.int w0), some (.int v5), some (.int x1)]) (st' := [.int 0]) 1 rfl ?_
    exact l1_ret mt_X12_unpackFrom rfl rfl rfl
set_option maxRecDepth 100000 in
theorem ok_X12_unpackFrom_29 {Q : hS → am_H → Prop} (hQ : l1_em km Q) (N : Nat) (p1 : Int32) (p2 : Int32) (p3 : Int32) : ∀ n : Nat, ∀ (c : hS) (v4 : Int32), l1_G (wN wI) Q am_i_X12_unpackFrom 29 [some (.ref 201), none, some (.int p2), none, some (.int v4)] [] c (f_X12_unpackFrom_29 N p1 p2 p3 n c v4) := by
  intro n
  induction n with
  | zero => intro c v4; exact l1_none
  | succ n ih =>
    intro c v4
    rw [f_X12_unpackFrom_29]
    refine l1_many mt_X12_unpackFrom (pc' := bif am_cc .ne v4 0 then 158 else 34) (L' := [some (.ref 201), none, some (.int p2), none, some (.int v4)]) (st' := []) 2 rfl ?_
    refine l1_bin rfl ?_ ?_
    · refine l1_many mt_X12_unpackFrom (pc' := 35) (L' := [some (.ref 201), none, some (.int p2), none, some (.int v4)]) (st' := [.ref 201]) 1 rfl ?_
      refine l1_getI hQ mt_X12_unpackFrom rfl (o := 201) (ci := 11) (k := 25) (a := 0) (b := 0) rfl rfl rfl rfl rfl ?_
      refine l1_many mt_X12_unpackFrom (pc' := 44) (L' := [some (.ref 201), none, some (.int p2), none, some (.int v4), some (.int ((c.1 201 25) / 8))]) (st' := [.ref 201]) 4 rfl ?_
      refine l1_callV hQ mt_X12_unpackFrom mt_X12_bit rfl rfl (o := 201) (ci := 11) (As := []) (rest := []) rfl rfl rfl rfl rfl rfl (st1 := fun x3 => [.int x3]) (fun _ => rfl) (ok_X12_bit hQ c) (fun x3 c4 => ?_)
      refine l1_many mt_X12_unpackFrom (pc' := bif am_cc .ne x3 1 then 55 else 51) (L' := [some (.ref 201), none, some (.int p2), none, some (.int v4), some (.int ((c.1 201 25) / 8))]) (st' := []) 2 rfl ?_
      refine l1_bin rfl ?_ ?_
      · refine l1_many mt_X12_unpackFrom (pc' := 56) (L' := [some (.ref 201), none, some (.int p2), none, some (.int v4), some (.int ((c.1 201 25) / 8))]) (st' := [.int 1]) 2 rfl ?_
        refine l1_weak (m := [true, false, true, false, false, true, false, false]) (L' := [some (.ref 201), none, some (.int p2), none, none, some (.int ((c.1 201 25) / 8))]) rfl ?_
        exact ok_X12_unpackFrom_56 hQ N p1 p2 p3 ih c4 ((c.1 201 25) / 8) 1
      · refine l1_many mt_X12_unpackFrom (pc' := 56) (L' := [some (.ref 201), none, some (.int p2), none, some (.int v4), some (.int ((c.1 201 25) / 8))]) (st' := [.int 0]) 1 rfl ?_
        refine l1_weak (m := [true, false, true, false, false, true, false, false]) (L' := [some (.ref 201), none, some (.int p2), none, none, some (.int ((c.1 201 25) / 8))]) rfl ?_
        exact ok_X12_unpackFrom_56 hQ N p1 p2 p3 ih c4 ((c.1 201 25) / 8) 0
    · refine l1_many mt_X12_unpackFrom (pc' := 159) (L' := [some (.ref 201), none, some (.int p2), none, some (.int v4)]) (st' := [.ref 201]) 1 rfl ?_
      refine l1_getI hQ mt_X12_unpackFrom rfl (o := 201) (ci := 11) (k := 25) (a := 0) (b := 0) rfl rfl rfl rfl rfl ?_
      refine l1_many mt_X12_unpackFrom (pc' := bif am_cc .eq (((c.1 201 25) + 7) / 8) p2 then 187 else 176) (L' := [some (.ref 201), none, some (.int p2), none, some (.int v4), some (.int (((c.1 201 25) + 7) / 8))]) (st' := []) 8 rfl ?_
      refine l1_bif rfl ?_ ?_
      · refine l1_many mt_X12_unpackFrom (pc' := 192) (L' := [some (.ref 201), none, some (.int p2), none, some (.int v4), some (.int (((c.1 201 25) + 7) / 8))]) (st' := [.int 1]) 2 rfl ?_
        exact l1_ret mt_X12_unpackFrom rfl rfl rfl
      · refine l1_many mt_X12_unpackFrom (pc' := 181) (L' := [some (.ref 201), none, some (.int p2), none, some (.int v4), some (.int (((c.1 201 25) + 7) / 8))]) (st' := [.int (((c.1 201 25) + 7) / 8), .int 27, .ref 201]) 3 rfl ?_
        refine l1_callV hQ mt_X12_unpackFrom mt_X12_fails rfl rfl (o := 201) (ci := 11) (As := [.int 27, .int (((c.1 201 25) + 7) / 8)]) (rest := []) rfl rfl rfl rfl rfl rfl (st1 := fun x1 => [.int x1]) (fun _ => rfl) (ok_X12_fails hQ c 27 (((c.1 201 25) + 7) / 8)) (fun x1 c2 => ?_)
        refine l1_many mt_X12_unpackFrom (pc' := bif am_cc .eq x1 0 then 191 else 187) (L' := [some (.ref 201), none, some (.int p2), none, some (.int v4), some (.int (((c.1 201 25) + 7) / 8))]) (st' := []) 1 rfl ?_
        refine l1_bif rfl ?_ ?_
        · refine l1_many mt_X12_unpackFrom (pc' := 192) (L' := [some (.ref 201), none, some (.int p2), none, some (.int v4), some (.int (((c.1 201 25) + 7) / 8))]) (st' := [.int 0]) 1 rfl ?_
          exact l1_ret mt_X12_unpackFrom rfl rfl rfl
        · refine l1_many mt_X12_unpackFrom (pc' := 192) (L' := [some (.ref 201), none, some (.int p2), none, some (.int v4), some (.int (((c.1 201 25) + 7) / 8))]) (st' := [.int 1]) 2 rfl ?_
          exact l1_ret mt_X12_unpackFrom rfl rfl rfl
set_option maxRecDepth 100000 in
theorem en_X12_unpackFrom {Q : hS → am_H → Prop} (hQ : l1_em km Q) (N : Nat) (c : hS) (p1 : Int32) (p2 : Int32) (p3 : Int32) : l1_G (wN wI) Q am_i_X12_unpackFrom 0 [some (.ref 201), some (.int p1), some (.int p2), some (.int p3)] [] c (f_X12_unpackFrom N c p1 p2 p3) := by
  rw [f_X12_unpackFrom]
  refine l1_many mt_X12_unpackFrom (pc' := 5) (L' := [some (.ref 201), some (.int p1), some (.int p2), some (.int p3)]) (st' := [.int (8 * p1), .ref 201]) 4 rfl ?_
  refine l1_putI hQ mt_X12_unpackFrom rfl (o := 201) (ci := 11) (k := 25) (a := 0) rfl rfl rfl rfl rfl rfl (fun c1 => ?_)
  refine l1_many mt_X12_unpackFrom (pc' := 13) (L' := [some (.ref 201), some (.int p1), some (.int p2), some (.int p3)]) (st' := [.int (8 * p2), .ref 201]) 4 rfl ?_
  refine l1_putI hQ mt_X12_unpackFrom rfl (o := 201) (ci := 11) (k := 26) (a := 0) rfl rfl rfl rfl rfl rfl (fun c2 => ?_)
  refine l1_many mt_X12_unpackFrom (pc' := 18) (L' := [some (.ref 201), some (.int p1), some (.int p2), some (.int p3)]) (st' := [.int p3, .ref 201]) 2 rfl ?_
  refine l1_putI hQ mt_X12_unpackFrom rfl (o := 201) (ci := 11) (k := 24) (a := 0) rfl rfl rfl rfl rfl rfl (fun c3 => ?_)
  refine l1_many mt_X12_unpackFrom (pc' := 23) (L' := [some (.ref 201), some (.int p1), some (.int p2), some (.int p3)]) (st' := [.int 0, .ref 201]) 2 rfl ?_
  refine l1_putI hQ mt_X12_unpackFrom rfl (o := 201) (ci := 11) (k := 23) (a := 0) rfl rfl rfl rfl rfl rfl (fun c4 => ?_)
  refine l1_many mt_X12_unpackFrom (pc' := 29) (L' := [some (.ref 201), some (.int p1), some (.int p2), some (.int p3), some (.int 0)]) (st' := []) 2 rfl ?_
  refine l1_weak (m := [true, false, true, false, true, false, false, false]) (L' := [some (.ref 201), none, some (.int p2), none, some (.int 0)]) rfl ?_
  exact ok_X12_unpackFrom_29 hQ N p1 p2 p3 N c4 0
theorem ok_X12_unpackFrom {Q : hS → am_H → Prop} (hQ : l1_em km Q) (N : Nat) (c : hS) (p1 : Int32) (p2 : Int32) (p3 : Int32) : l1_T wI Q am_i_X12_unpackFrom [.ref 201, .int p1, .int p2, .int p3] c (f_X12_unpackFrom N c p1 p2 p3) := l1_of (en_X12_unpackFrom hQ N c p1 p2 p3) ⟨rfl, rfl, rfl, rfl, trivial⟩
