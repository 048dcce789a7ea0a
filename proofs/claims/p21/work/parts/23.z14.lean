section
/-! THAT THE MACHINE FOLLOWS THEM, printed by gen_l1.py -/
set_option maxRecDepth 100000 in
theorem ok_X12_readRow_161 {Q : hS → am_H → Prop} (hQ : l1_em km Q) (N : Nat) (p1 : Int32) (p2 : Int32) {k2 : hS → Int32 → Option (Int32 × hS)} (hk2 : ∀ c v3, l1_G (wN wI) Q am_i_X12_readRow 2 [some (.ref 201), some (.int p1), some (.int p2), some (.int v3)] [] c (k2 c v3)) : ∀ n : Nat, ∀ (c : hS) (v3 : Int32) (v5 : Int32) (v6 : Int32) (v7 : Int32), l1_G (wN wI) Q am_i_X12_readRow 161 [some (.ref 201), some (.int p1), some (.int p2), some (.int v3), none, some (.int v5), some (.int v6), some (.int v7)] [] c (f_X12_readRow_161 N p1 p2 k2 n c v3 v5 v6 v7) := by
  intro n
  induction n with
  | zero => intro c v3 v5 v6 v7; exact l1_none
  | succ n ih =>
    intro c v3 v5 v6 v7
    rw [f_X12_readRow_161]
    refine l1_many mt_X12_readRow (pc' := bif am_cc .ge v7 v5 then 185 else 168) (L' := [some (.ref 201), some (.int p1), some (.int p2), some (.int v3), none, some (.int v5), some (.int v6), some (.int v7)]) (st' := []) 3 rfl ?_
    refine l1_bif rfl ?_ ?_
    · refine l1_many mt_X12_readRow (pc' := 2) (L' := [some (.ref 201), some (.int p1), some (.int p2), some (.int v3), none, some (.int v5), some (.int v6), some (.int v7)]) (st' := []) 1 rfl ?_
      refine l1_weak (m := [true, true, true, true, false, false, false, false]) (L' := [some (.ref 201), some (.int p1), some (.int p2), some (.int v3)]) rfl ?_
      exact hk2 c v3
    · refine l1_many mt_X12_readRow (pc' := 169) (L' := [some (.ref 201), some (.int p1), some (.int p2), some (.int v3), none, some (.int v5), some (.int v6), some (.int v7)]) (st' := [.ref 201]) 1 rfl ?_
      refine l1_getR hQ mt_X12_readRow rfl (o := 201) (ci := 11) (k := 29) (a := 0) (b := 0) rfl rfl rfl rfl rfl (q := 214) rfl ?_
      refine l1_many mt_X12_readRow (pc' := 175) (L' := [some (.ref 201), some (.int p1), some (.int p2), some (.int v3), none, some (.int v5), some (.int v6), some (.int v7)]) (st' := [.int v6, .int v3, .ref 214]) 2 rfl ?_
      refine l1_ck (fun hx => ?_)
      refine l1_ast hQ mt_X12_readRow rfl (o := 214) rfl hx (fun c1 => ?_)
      refine l1_many mt_X12_readRow (pc' := 161) (L' := [some (.ref 201), some (.int p1), some (.int p2), some (.int (v3 + 1)), none, some (.int v5), some (.int v6), some (.int (v7 + 1))]) (st' := []) 3 rfl ?_
      exact ih c1 (v3 + 1) v5 v6 (v7 + 1)
set_option maxRecDepth 100000 in
theorem ok_X12_readRow_110 {Q : hS → am_H → Prop} (hQ : l1_em km Q) (N : Nat) (p1 : Int32) (p2 : Int32) {k2 : hS → Int32 → Option (Int32 × hS)} (hk2 : ∀ c v3, l1_G (wN wI) Q am_i_X12_readRow 2 [some (.ref 201), some (.int p1), some (.int p2), some (.int v3)] [] c (k2 c v3)) : ∀ (c : hS) (v3 : Int32) (v4 : Int32) (w0 : Int32), l1_G (wN wI) Q am_i_X12_readRow 110 [some (.ref 201), some (.int p1), some (.int p2), some (.int v3), some (.int v4)] [.int w0] c (f_X12_readRow_110 N p1 p2 k2 c v3 v4 w0) := by
  intro c v3 v4 w0
  rw [f_X12_readRow_110]
  refine l1_many mt_X12_readRow (pc' := 113) (L' := [some (.ref 201), some (.int p1), some (.int p2), some (.int v3), some (.int v4), some (.int w0)]) (st' := [.ref 201]) 2 rfl ?_
  refine l1_getI hQ mt_X12_readRow rfl (o := 201) (ci := 11) (k := 5) (a := 0) (b := 0) rfl rfl rfl rfl rfl ?_
  refine l1_many mt_X12_readRow (pc' := bif am_cc .eq (c.1 201 5) 0 then 121 else 119) (L' := [some (.ref 201), some (.int p1), some (.int p2), some (.int v3), some (.int v4), some (.int w0)]) (st' := []) 1 rfl ?_
  refine l1_bif rfl ?_ ?_
  · refine l1_many mt_X12_readRow (pc' := bif am_cc .le (v3 + w0) p1 then 137 else 129) (L' := [some (.ref 201), some (.int p1), some (.int p2), some (.int v3), some (.int v4), some (.int w0)]) (st' := []) 5 rfl ?_
    refine l1_bif rfl ?_ ?_
    · refine l1_many mt_X12_readRow (pc' := bif am_cc .ne v4 16 then 155 else 144) (L' := [some (.ref 201), some (.int p1), some (.int p2), some (.int v3), some (.int v4), some (.int w0)]) (st' := []) 3 rfl ?_
      refine l1_bin rfl ?_ ?_
      · refine l1_many mt_X12_readRow (pc' := 145) (L' := [some (.ref 201), some (.int p1), some (.int p2), some (.int v3), some (.int v4), some (.int w0)]) (st' := [.ref 201]) 1 rfl ?_
        refine l1_getR hQ mt_X12_readRow rfl (o := 201) (ci := 11) (k := 29) (a := 0) (b := 0) rfl rfl rfl rfl rfl (q := 214) rfl ?_
        refine l1_many mt_X12_readRow (pc' := 151) (L' := [some (.ref 201), some (.int p1), some (.int p2), some (.int v3), some (.int v4), some (.int w0)]) (st' := [.int (v3 - 1), .ref 214]) 3 rfl ?_
        refine l1_ck (fun hx => ?_)
        refine l1_ald hQ mt_X12_readRow rfl (o := 214) rfl hx ?_
        refine l1_many mt_X12_readRow (pc' := 161) (L' := [some (.ref 201), some (.int p1), some (.int p2), some (.int v3), some (.int v4), some (.int w0), some (.int (c.1 214 (v3 - 1).toNatClampNeg)), some (.int 0)]) (st' := []) 4 rfl ?_
        refine l1_weak (m := [true, true, true, true, false, true, true, true]) (L' := [some (.ref 201), some (.int p1), some (.int p2), some (.int v3), none, some (.int w0), some (.int (c.1 214 (v3 - 1).toNatClampNeg)), some (.int 0)]) rfl ?_
        exact ok_X12_readRow_161 hQ N p1 p2 hk2 N c v3 w0 (c.1 214 (v3 - 1).toNatClampNeg) 0
      · refine l1_many mt_X12_readRow (pc' := 161) (L' := [some (.ref 201), some (.int p1), some (.int p2), some (.int v3), some (.int v4), some (.int w0), some (.int 0), some (.int 0)]) (st' := []) 4 rfl ?_
        refine l1_weak (m := [true, true, true, true, false, true, true, true]) (L' := [some (.ref 201), some (.int p1), some (.int p2), some (.int v3), none, some (.int w0), some (.int 0), some (.int 0)]) rfl ?_
        exact ok_X12_readRow_161 hQ N p1 p2 hk2 N c v3 w0 0 0
    · refine l1_many mt_X12_readRow (pc' := 133) (L' := [some (.ref 201), some (.int p1), some (.int p2), some (.int v3), some (.int v4), some (.int w0)]) (st' := [.int p2, .int 24, .ref 201]) 3 rfl ?_
      refine l1_callV hQ mt_X12_readRow mt_X12_fails rfl rfl (o := 201) (ci := 11) (As := [.int 24, .int p2]) (rest := []) rfl rfl rfl rfl rfl rfl (st1 := fun x1 => [.int x1]) (fun _ => rfl) (ok_X12_fails hQ c 24 p2) (fun x1 c2 => ?_)
      refine l1_ck (fun hz => ?_)
      exact l1_retZ mt_X12_readRow rfl rfl rfl hz
  · refine l1_many mt_X12_readRow (pc' := 120) (L' := [some (.ref 201), some (.int p1), some (.int p2), some (.int v3), some (.int v4), some (.int w0)]) (st' := [.int 0]) 1 rfl ?_
    exact l1_ret mt_X12_readRow rfl rfl rfl
set_option maxRecDepth 100000 in
theorem ok_X12_readRow_67 {Q : hS → am_H → Prop} (hQ : l1_em km Q) (N : Nat) (p1 : Int32) (p2 : Int32) {k2 : hS → Int32 → Option (Int32 × hS)} (hk2 : ∀ c v3, l1_G (wN wI) Q am_i_X12_readRow 2 [some (.ref 201), some (.int p1), some (.int p2), some (.int v3)] [] c (k2 c v3)) : ∀ (c : hS) (v3 : Int32) (v4 : Int32), l1_G (wN wI) Q am_i_X12_readRow 67 [some (.ref 201), some (.int p1), some (.int p2), some (.int v3), some (.int v4)] [] c (f_X12_readRow_67 N p1 p2 k2 c v3 v4) := by
  intro c v3 v4
  rw [f_X12_readRow_67]
  refine l1_many mt_X12_readRow (pc' := bif am_cc .ne v4 16 then 84 else 74) (L' := [some (.ref 201), some (.int p1), some (.int p2), some (.int v3), some (.int v4)]) (st' := []) 3 rfl ?_
  refine l1_bin rfl ?_ ?_
  · refine l1_many mt_X12_readRow (pc' := 77) (L' := [some (.ref 201), some (.int p1), some (.int p2), some (.int v3), some (.int v4)]) (st' := [.int 2, .ref 201, .int 3]) 3 rfl ?_
    refine l1_callV hQ mt_X12_readRow mt_X12_bits rfl rfl (o := 201) (ci := 11) (As := [.int 2]) (rest := [.int 3]) rfl rfl rfl rfl rfl rfl (st1 := fun x5 => [.int x5, .int 3]) (fun _ => rfl) (ok_X12_bits hQ N c 2) (fun x5 c6 => ?_)
    refine l1_many mt_X12_readRow (pc' := 110) (L' := [some (.ref 201), some (.int p1), some (.int p2), some (.int v3), some (.int v4)]) (st' := [.int (3 + x5)]) 2 rfl ?_
    exact ok_X12_readRow_110 hQ N p1 p2 hk2 c6 v3 v4 (3 + x5)
  · refine l1_many mt_X12_readRow (pc' := bif am_cc .ne v4 17 then 101 else 91) (L' := [some (.ref 201), some (.int p1), some (.int p2), some (.int v3), some (.int v4)]) (st' := []) 3 rfl ?_
    refine l1_bin rfl ?_ ?_
    · refine l1_many mt_X12_readRow (pc' := 94) (L' := [some (.ref 201), some (.int p1), some (.int p2), some (.int v3), some (.int v4)]) (st' := [.int 3, .ref 201, .int 3]) 3 rfl ?_
      refine l1_callV hQ mt_X12_readRow mt_X12_bits rfl rfl (o := 201) (ci := 11) (As := [.int 3]) (rest := [.int 3]) rfl rfl rfl rfl rfl rfl (st1 := fun x3 => [.int x3, .int 3]) (fun _ => rfl) (ok_X12_bits hQ N c 3) (fun x3 c4 => ?_)
      refine l1_many mt_X12_readRow (pc' := 110) (L' := [some (.ref 201), some (.int p1), some (.int p2), some (.int v3), some (.int v4)]) (st' := [.int (3 + x3)]) 2 rfl ?_
      exact ok_X12_readRow_110 hQ N p1 p2 hk2 c4 v3 v4 (3 + x3)
    · refine l1_many mt_X12_readRow (pc' := 106) (L' := [some (.ref 201), some (.int p1), some (.int p2), some (.int v3), some (.int v4)]) (st' := [.int 7, .ref 201, .int 11]) 3 rfl ?_
      refine l1_callV hQ mt_X12_readRow mt_X12_bits rfl rfl (o := 201) (ci := 11) (As := [.int 7]) (rest := [.int 11]) rfl rfl rfl rfl rfl rfl (st1 := fun x1 => [.int x1, .int 11]) (fun _ => rfl) (ok_X12_bits hQ N c 7) (fun x1 c2 => ?_)
      refine l1_many mt_X12_readRow (pc' := 110) (L' := [some (.ref 201), some (.int p1), some (.int p2), some (.int v3), some (.int v4)]) (st' := [.int (11 + x1)]) 1 rfl ?_
      exact ok_X12_readRow_110 hQ N p1 p2 hk2 c2 v3 v4 (11 + x1)
set_option maxRecDepth 100000 in
theorem ok_X12_readRow_2 {Q : hS → am_H → Prop} (hQ : l1_em km Q) (N : Nat) (p1 : Int32) (p2 : Int32) : ∀ n : Nat, ∀ (c : hS) (v3 : Int32), l1_G (wN wI) Q am_i_X12_readRow 2 [some (.ref 201), some (.int p1), some (.int p2), some (.int v3)] [] c (f_X12_readRow_2 N p1 p2 n c v3) := by
  intro n
  induction n with
  | zero => intro c v3; exact l1_none
  | succ n ih =>
    intro c v3
    rw [f_X12_readRow_2]
    refine l1_many mt_X12_readRow (pc' := bif am_cc .ge v3 p1 then 188 else 7) (L' := [some (.ref 201), some (.int p1), some (.int p2), some (.int v3)]) (st' := []) 3 rfl ?_
    refine l1_bif rfl ?_ ?_
    · refine l1_many mt_X12_readRow (pc' := 189) (L' := [some (.ref 201), some (.int p1), some (.int p2), some (.int v3)]) (st' := [.int 1]) 1 rfl ?_
      exact l1_ret mt_X12_readRow rfl rfl rfl
    · refine l1_many mt_X12_readRow (pc' := 13) (L' := [some (.ref 201), some (.int p1), some (.int p2), some (.int v3)]) (st' := [.int 19, .int 340, .ref 201]) 3 rfl ?_
      refine l1_callV hQ mt_X12_readRow mt_X12_symbol rfl rfl (o := 201) (ci := 11) (As := [.int 340, .int 19]) (rest := []) rfl rfl rfl rfl rfl rfl (st1 := fun x1 => [.int x1]) (fun _ => rfl) (ok_X12_symbol hQ N c 340 19) (fun x1 c2 => ?_)
      refine l1_many mt_X12_readRow (pc' := 19) (L' := [some (.ref 201), some (.int p1), some (.int p2), some (.int v3), some (.int x1)]) (st' := [.ref 201]) 2 rfl ?_
      refine l1_getI hQ mt_X12_readRow rfl (o := 201) (ci := 11) (k := 5) (a := 0) (b := 0) rfl rfl rfl rfl rfl ?_
      refine l1_many mt_X12_readRow (pc' := bif am_cc .eq (c2.1 201 5) 0 then 27 else 25) (L' := [some (.ref 201), some (.int p1), some (.int p2), some (.int v3), some (.int x1)]) (st' := []) 1 rfl ?_
      refine l1_bif rfl ?_ ?_
      · refine l1_many mt_X12_readRow (pc' := bif am_cc .ge x1 16 then 48 else 34) (L' := [some (.ref 201), some (.int p1), some (.int p2), some (.int v3), some (.int x1)]) (st' := []) 3 rfl ?_
        refine l1_bif rfl ?_ ?_
        · refine l1_many mt_X12_readRow (pc' := bif am_cc .ne x1 16 then 67 else 55) (L' := [some (.ref 201), some (.int p1), some (.int p2), some (.int v3), some (.int x1)]) (st' := []) 3 rfl ?_
          refine l1_bin rfl ?_ ?_
          · refine l1_many mt_X12_readRow (pc' := bif am_cc .ne v3 0 then 67 else 59) (L' := [some (.ref 201), some (.int p1), some (.int p2), some (.int v3), some (.int x1)]) (st' := []) 2 rfl ?_
            refine l1_bin rfl ?_ ?_
            · refine l1_many mt_X12_readRow (pc' := 63) (L' := [some (.ref 201), some (.int p1), some (.int p2), some (.int v3), some (.int x1)]) (st' := [.int p2, .int 24, .ref 201]) 3 rfl ?_
              refine l1_callV hQ mt_X12_readRow mt_X12_fails rfl rfl (o := 201) (ci := 11) (As := [.int 24, .int p2]) (rest := []) rfl rfl rfl rfl rfl rfl (st1 := fun x3 => [.int x3]) (fun _ => rfl) (ok_X12_fails hQ c2 24 p2) (fun x3 c4 => ?_)
              refine l1_ck (fun hz => ?_)
              exact l1_retZ mt_X12_readRow rfl rfl rfl hz
            · exact ok_X12_readRow_67 hQ N p1 p2 ih c2 v3 x1
          · exact ok_X12_readRow_67 hQ N p1 p2 ih c2 v3 x1
        · refine l1_many mt_X12_readRow (pc' := 35) (L' := [some (.ref 201), some (.int p1), some (.int p2), some (.int v3), some (.int x1)]) (st' := [.ref 201]) 1 rfl ?_
          refine l1_getR hQ mt_X12_readRow rfl (o := 201) (ci := 11) (k := 29) (a := 0) (b := 0) rfl rfl rfl rfl rfl (q := 214) rfl ?_
          refine l1_many mt_X12_readRow (pc' := 41) (L' := [some (.ref 201), some (.int p1), some (.int p2), some (.int v3), some (.int x1)]) (st' := [.int x1, .int v3, .ref 214]) 2 rfl ?_
          refine l1_ck (fun hx => ?_)
          refine l1_ast hQ mt_X12_readRow rfl (o := 214) rfl hx (fun c5 => ?_)
          refine l1_many mt_X12_readRow (pc' := 2) (L' := [some (.ref 201), some (.int p1), some (.int p2), some (.int (v3 + 1)), some (.int x1)]) (st' := []) 2 rfl ?_
          refine l1_weak (m := [true, true, true, true, false, false, false, false]) (L' := [some (.ref 201), some (.int p1), some (.int p2), some (.int (v3 + 1))]) rfl ?_
          exact ih c5 (v3 + 1)
      · refine l1_many mt_X12_readRow (pc' := 26) (L' := [some (.ref 201), some (.int p1), some (.int p2), some (.int v3), some (.int x1)]) (st' := [.int 0]) 1 rfl ?_
        exact l1_ret mt_X12_readRow rfl rfl rfl
set_option maxRecDepth 100000 in
theorem en_X12_readRow {Q : hS → am_H → Prop} (hQ : l1_em km Q) (N : Nat) (c : hS) (p1 : Int32) (p2 : Int32) : l1_G (wN wI) Q am_i_X12_readRow 0 [some (.ref 201), some (.int p1), some (.int p2)] [] c (f_X12_readRow N c p1 p2) := by
  rw [f_X12_readRow]
  refine l1_many mt_X12_readRow (pc' := 2) (L' := [some (.ref 201), some (.int p1), some (.int p2), some (.int 0)]) (st' := []) 2 rfl ?_
  exact ok_X12_readRow_2 hQ N p1 p2 N c 0
theorem ok_X12_readRow {Q : hS → am_H → Prop} (hQ : l1_em km Q) (N : Nat) (c : hS) (p1 : Int32) (p2 : Int32) : l1_T wI Q am_i_X12_readRow [.ref 201, .int p1, .int p2] c (f_X12_readRow N c p1 p2) := l1_of (en_X12_readRow hQ N c p1 p2) ⟨rfl, rfl, rfl, trivial⟩
set_option maxRecDepth 100000 in
theorem ok_X12_readCodes_279 {Q : hS → am_H → Prop} (hQ : l1_em km Q) (N : Nat) (p1 : Int32) {k221 : hS → Int32 → Int32 → Int32 → Int32 → Int32 → Option (Int32 × hS)} (hk221 : ∀ c v2 v3 v5 v6 v7, l1_G (wN wI) Q am_i_X12_readCodes 221 [some (.ref 201), some (.int p1), some (.int v2), some (.int v3), none, some (.int v5), some (.int v6), some (.int v7)] [] c (k221 c v2 v3 v5 v6 v7)) : ∀ (c : hS) (v2 : Int32) (v3 : Int32) (v6 : Int32) (v7 : Int32) (w0 : Int32) (w1 : Int32), l1_G (wN wI) Q am_i_X12_readCodes 279 [some (.ref 201), some (.int p1), some (.int v2), some (.int v3), none, none, some (.int v6), some (.int v7)] [.int w0, .int w1] c (f_X12_readCodes_279 N p1 k221 c v2 v3 v6 v7 w0 w1) := by
  intro c v2 v3 v6 v7 w0 w1
  rw [f_X12_readCodes_279]
  refine l1_many mt_X12_readCodes (pc' := 285) (L' := [some (.ref 201), some (.int p1), some (.int v2), some (.int v3), none, some (.int (w1 + w0)), some (.int v6), some (.int v7)]) (st' := [.ref 201, .int v6]) 4 rfl ?_
  refine l1_getR hQ mt_X12_readCodes rfl (o := 201) (ci := 11) (k := 27) (a := 0) (b := 0) rfl rfl rfl rfl rfl (q := 212) rfl ?_
  refine l1_many mt_X12_readCodes (pc' := 294) (L' := [some (.ref 201), some (.int p1), some (.int v2), some (.int v3), none, some (.int (w1 + w0)), some (.int v6), some (.int v7)]) (st' := [.int (300 + v7), .ref 212, .int v6]) 3 rfl ?_
  refine l1_ck (fun hx => ?_)
  refine l1_ald hQ mt_X12_readCodes rfl (o := 212) rfl hx ?_
  refine l1_many mt_X12_readCodes (pc' := bif am_cc .ne (c.1 212 (300 + v7).toNatClampNeg) 1 then 303 else 299) (L' := [some (.ref 201), some (.int p1), some (.int v2), some (.int v3), none, some (.int (w1 + w0)), some (.int v6), some (.int v7)]) (st' := [.int v6]) 2 rfl ?_
  refine l1_bin rfl ?_ ?_
  · refine l1_many mt_X12_readCodes (pc' := 221) (L' := [some (.ref 201), some (.int p1), some (.int v2), some (.int v3), none, some (.int (w1 + w0)), some (.int (v6 + 1)), some (.int (v7 + 1))]) (st' := []) 6 rfl ?_
    exact hk221 c v2 v3 (w1 + w0) (v6 + 1) (v7 + 1)
  · refine l1_many mt_X12_readCodes (pc' := 221) (L' := [some (.ref 201), some (.int p1), some (.int v2), some (.int v3), none, some (.int (w1 + w0)), some (.int (v6 + 0)), some (.int (v7 + 1))]) (st' := []) 5 rfl ?_
    exact hk221 c v2 v3 (w1 + w0) (v6 + 0) (v7 + 1)
set_option maxRecDepth 100000 in
theorem ok_X12_readCodes_257 {Q : hS → am_H → Prop} (hQ : l1_em km Q) (N : Nat) (p1 : Int32) {k221 : hS → Int32 → Int32 → Int32 → Int32 → Int32 → Option (Int32 × hS)} (hk221 : ∀ c v2 v3 v5 v6 v7, l1_G (wN wI) Q am_i_X12_readCodes 221 [some (.ref 201), some (.int p1), some (.int v2), some (.int v3), none, some (.int v5), some (.int v6), some (.int v7)] [] c (k221 c v2 v3 v5 v6 v7)) : ∀ (c : hS) (v2 : Int32) (v3 : Int32) (v5 : Int32) (v6 : Int32) (v7 : Int32) (w0 : Int32) (w1 : Int32), l1_G (wN wI) Q am_i_X12_readCodes 257 [some (.ref 201), some (.int p1), some (.int v2), some (.int v3), none, some (.int v5), some (.int v6), some (.int v7)] [.int w0, .int w1, .ref 212] c (f_X12_readCodes_257 N p1 k221 c v2 v3 v5 v6 v7 w0 w1) := by
  intro c v2 v3 v5 v6 v7 w0 w1
  rw [f_X12_readCodes_257]
  refine l1_ck (fun hx => ?_)
  refine l1_ast hQ mt_X12_readCodes rfl (o := 212) rfl hx (fun c1 => ?_)
  refine l1_many mt_X12_readCodes (pc' := 261) (L' := [some (.ref 201), some (.int p1), some (.int v2), some (.int v3), none, some (.int v5), some (.int v6), some (.int v7)]) (st' := [.ref 201, .int v5]) 2 rfl ?_
  refine l1_getR hQ mt_X12_readCodes rfl (o := 201) (ci := 11) (k := 27) (a := 0) (b := 0) rfl rfl rfl rfl rfl (q := 212) rfl ?_
  refine l1_many mt_X12_readCodes (pc' := 270) (L' := [some (.ref 201), some (.int p1), some (.int v2), some (.int v3), none, some (.int v5), some (.int v6), some (.int v7)]) (st' := [.int (300 + v7), .ref 212, .int v5]) 3 rfl ?_
  refine l1_ck (fun hx => ?_)
  refine l1_ald hQ mt_X12_readCodes rfl (o := 212) rfl hx ?_
  refine l1_many mt_X12_readCodes (pc' := bif am_cc .le (c1.1 212 (300 + v7).toNatClampNeg) 0 then 278 else 274) (L' := [some (.ref 201), some (.int p1), some (.int v2), some (.int v3), none, some (.int v5), some (.int v6), some (.int v7)]) (st' := [.int v5]) 1 rfl ?_
  refine l1_bif rfl ?_ ?_
  · refine l1_many mt_X12_readCodes (pc' := 279) (L' := [some (.ref 201), some (.int p1), some (.int v2), some (.int v3), none, some (.int v5), some (.int v6), some (.int v7)]) (st' := [.int 0, .int v5]) 1 rfl ?_
    refine l1_weak (m := [true, true, true, true, false, false, true, true]) (L' := [some (.ref 201), some (.int p1), some (.int v2), some (.int v3), none, none, some (.int v6), some (.int v7)]) rfl ?_
    exact ok_X12_readCodes_279 hQ N p1 hk221 c1 v2 v3 v6 v7 0 v5
  · refine l1_many mt_X12_readCodes (pc' := 279) (L' := [some (.ref 201), some (.int p1), some (.int v2), some (.int v3), none, some (.int v5), some (.int v6), some (.int v7)]) (st' := [.int 1, .int v5]) 2 rfl ?_
    refine l1_weak (m := [true, true, true, true, false, false, true, true]) (L' := [some (.ref 201), some (.int p1), some (.int v2), some (.int v3), none, none, some (.int v6), some (.int v7)]) rfl ?_
    exact ok_X12_readCodes_279 hQ N p1 hk221 c1 v2 v3 v6 v7 1 v5
set_option maxRecDepth 100000 in
theorem ok_X12_readCodes_350 {Q : hS → am_H → Prop} (hQ : l1_em km Q) (N : Nat) (p1 : Int32) : ∀ (c : hS) (w0 : Int32), l1_G (wN wI) Q am_i_X12_readCodes 350 [some (.ref 201), some (.int p1)] [.int w0] c (f_X12_readCodes_350 N p1 c w0) := by
  intro c w0
  rw [f_X12_readCodes_350]
  refine l1_many mt_X12_readCodes (pc' := 353) (L' := [some (.ref 201), some (.int p1), none, none, none, none, none, some (.int w0)]) (st' := [.ref 201]) 2 rfl ?_
  refine l1_getR hQ mt_X12_readCodes rfl (o := 201) (ci := 11) (k := 27) (a := 0) (b := 0) rfl rfl rfl rfl rfl (q := 212) rfl ?_
  refine l1_many mt_X12_readCodes (pc' := 359) (L' := [some (.ref 201), some (.int p1), none, none, none, none, none, some (.int w0)]) (st' := [.int 256, .ref 212]) 1 rfl ?_
  refine l1_ck (fun hx => ?_)
  refine l1_ald hQ mt_X12_readCodes rfl (o := 212) rfl hx ?_
  refine l1_many mt_X12_readCodes (pc' := bif am_cc .eq (c.1 212 (256 : Int32).toNatClampNeg) 0 then 382 else 363) (L' := [some (.ref 201), some (.int p1), none, none, none, none, none, some (.int w0)]) (st' := []) 1 rfl ?_
  refine l1_bif rfl ?_ ?_
  · refine l1_many mt_X12_readCodes (pc' := 386) (L' := [some (.ref 201), some (.int p1), none, none, none, none, none, some (.int w0)]) (st' := [.int p1, .int 24, .ref 201]) 3 rfl ?_
    refine l1_callV hQ mt_X12_readCodes mt_X12_fails rfl rfl (o := 201) (ci := 11) (As := [.int 24, .int p1]) (rest := []) rfl rfl rfl rfl rfl rfl (st1 := fun x1 => [.int x1]) (fun _ => rfl) (ok_X12_fails hQ c 24 p1) (fun x1 c2 => ?_)
    refine l1_ck (fun hz => ?_)
    exact l1_retZ mt_X12_readCodes rfl rfl rfl hz
  · refine l1_many mt_X12_readCodes (pc' := 368) (L' := [some (.ref 201), some (.int p1), none, none, none, none, none, some (.int w0)]) (st' := [.int 288, .int 0, .ref 201]) 3 rfl ?_
    refine l1_callV hQ mt_X12_readCodes mt_X12_fullness rfl rfl (o := 201) (ci := 11) (As := [.int 0, .int 288]) (rest := []) rfl rfl rfl rfl rfl rfl (st1 := fun x3 => [.int x3]) (fun _ => rfl) (ok_X12_fullness hQ N c 0 288) (fun x3 c4 => ?_)
    refine l1_many mt_X12_readCodes (pc' := bif am_cc .ne x3 32768 then 382 else 377) (L' := [some (.ref 201), some (.int p1), none, none, none, none, none, some (.int w0)]) (st' := []) 2 rfl ?_
    refine l1_bin rfl ?_ ?_
    · refine l1_many mt_X12_readCodes (pc' := bif am_cc .ne w0 0 then 390 else 382) (L' := [some (.ref 201), some (.int p1), none, none, none, none, none, some (.int w0)]) (st' := []) 2 rfl ?_
      refine l1_bin rfl ?_ ?_
      · refine l1_many mt_X12_readCodes (pc' := 386) (L' := [some (.ref 201), some (.int p1), none, none, none, none, none, some (.int w0)]) (st' := [.int p1, .int 24, .ref 201]) 3 rfl ?_
        refine l1_callV hQ mt_X12_readCodes mt_X12_fails rfl rfl (o := 201) (ci := 11) (As := [.int 24, .int p1]) (rest := []) rfl rfl rfl rfl rfl rfl (st1 := fun x9 => [.int x9]) (fun _ => rfl) (ok_X12_fails hQ c4 24 p1) (fun x9 c10 => ?_)
        refine l1_ck (fun hz => ?_)
        exact l1_retZ mt_X12_readCodes rfl rfl rfl hz
      · refine l1_many mt_X12_readCodes (pc' := 395) (L' := [some (.ref 201), some (.int p1), none, none, none, none, none, some (.int w0)]) (st' := [.int 288, .int 0, .ref 201]) 3 rfl ?_
        refine l1_callV hQ mt_X12_readCodes mt_X12_layCodes rfl rfl (o := 201) (ci := 11) (As := [.int 0, .int 288]) (rest := []) rfl rfl rfl rfl rfl rfl (st1 := fun _ => []) (fun _ => rfl) (ok_X12_layCodes hQ N c4 0 288) (fun _ c7 => ?_)
        refine l1_many mt_X12_readCodes (pc' := 404) (L' := [some (.ref 201), some (.int p1), none, none, none, none, none, some (.int w0)]) (st' := [.int 32, .int 300, .ref 201]) 3 rfl ?_
        refine l1_callV hQ mt_X12_readCodes mt_X12_layCodes rfl rfl (o := 201) (ci := 11) (As := [.int 300, .int 32]) (rest := []) rfl rfl rfl rfl rfl rfl (st1 := fun _ => []) (fun _ => rfl) (ok_X12_layCodes hQ N c7 300 32) (fun _ c8 => ?_)
        refine l1_many mt_X12_readCodes (pc' := 408) (L' := [some (.ref 201), some (.int p1), none, none, none, none, none, some (.int w0)]) (st' := [.int 1]) 1 rfl ?_
        exact l1_ret mt_X12_readCodes rfl rfl rfl
    · refine l1_many mt_X12_readCodes (pc' := 386) (L' := [some (.ref 201), some (.int p1), none, none, none, none, none, some (.int w0)]) (st' := [.int p1, .int 24, .ref 201]) 3 rfl ?_
      refine l1_callV hQ mt_X12_readCodes mt_X12_fails rfl rfl (o := 201) (ci := 11) (As := [.int 24, .int p1]) (rest := []) rfl rfl rfl rfl rfl rfl (st1 := fun x5 => [.int x5]) (fun _ => rfl) (ok_X12_fails hQ c4 24 p1) (fun x5 c6 => ?_)
      refine l1_ck (fun hz => ?_)
      exact l1_retZ mt_X12_readCodes rfl rfl rfl hz
set_option maxRecDepth 100000 in
theorem ok_X12_readCodes_345 {Q : hS → am_H → Prop} (hQ : l1_em km Q) (N : Nat) (p1 : Int32) : ∀ (c : hS), l1_G (wN wI) Q am_i_X12_readCodes 345 [some (.ref 201), some (.int p1)] [] c (f_X12_readCodes_345 N p1 c) := by
  intro c
  rw [f_X12_readCodes_345]
  refine l1_many mt_X12_readCodes (pc' := 350) (L' := [some (.ref 201), some (.int p1)]) (st' := [.int 1]) 2 rfl ?_
  exact ok_X12_readCodes_350 hQ N p1 c 1
set_option maxRecDepth 100000 in
theorem ok_X12_readCodes_349 {Q : hS → am_H → Prop} (hQ : l1_em km Q) (N : Nat) (p1 : Int32) : ∀ (c : hS), l1_G (wN wI) Q am_i_X12_readCodes 349 [some (.ref 201), some (.int p1)] [] c (f_X12_readCodes_349 N p1 c) := by
  intro c
  rw [f_X12_readCodes_349]
  refine l1_many mt_X12_readCodes (pc' := 350) (L' := [some (.ref 201), some (.int p1)]) (st' := [.int 0]) 1 rfl ?_
  exact ok_X12_readCodes_350 hQ N p1 c 0
set_option maxRecDepth 100000 in
theorem ok_X12_readCodes_221 {Q : hS → am_H → Prop} (hQ : l1_em km Q) (N : Nat) (p1 : Int32) : ∀ n : Nat, ∀ (c : hS) (v2 : Int32) (v3 : Int32) (v5 : Int32) (v6 : Int32) (v7 : Int32), l1_G (wN wI) Q am_i_X12_readCodes 221 [some (.ref 201), some (.int p1), some (.int v2), some (.int v3), none, some (.int v5), some (.int v6), some (.int v7)] [] c (f_X12_readCodes_221 N p1 n c v2 v3 v5 v6 v7) := by
  intro n
  induction n with
  | zero => intro c v2 v3 v5 v6 v7; exact l1_none
  | succ n ih =>
    intro c v2 v3 v5 v6 v7
    rw [f_X12_readCodes_221]
    refine l1_many mt_X12_readCodes (pc' := bif am_cc .ge v7 32 then 313 else 228) (L' := [some (.ref 201), some (.int p1), some (.int v2), some (.int v3), none, some (.int v5), some (.int v6), some (.int v7)]) (st' := []) 3 rfl ?_
    refine l1_bif rfl ?_ ?_
    · refine l1_many mt_X12_readCodes (pc' := 319) (L' := [some (.ref 201), some (.int p1), some (.int v2), some (.int v3), none, some (.int v5), some (.int v6), some (.int v7)]) (st' := [.int 32, .int 300, .ref 201]) 3 rfl ?_
      refine l1_callV hQ mt_X12_readCodes mt_X12_fullness rfl rfl (o := 201) (ci := 11) (As := [.int 300, .int 32]) (rest := []) rfl rfl rfl rfl rfl rfl (st1 := fun x1 => [.int x1]) (fun _ => rfl) (ok_X12_fullness hQ N c 300 32) (fun x1 c2 => ?_)
      refine l1_many mt_X12_readCodes (pc' := bif am_cc .eq x1 32768 then 345 else 328) (L' := [some (.ref 201), some (.int p1), some (.int v2), some (.int v3), none, some (.int v5), some (.int v6), some (.int v7)]) (st' := []) 2 rfl ?_
      refine l1_bif rfl ?_ ?_
      · refine l1_weak (m := [true, true, false, false, false, false, false, false]) (L' := [some (.ref 201), some (.int p1)]) rfl ?_
        exact ok_X12_readCodes_345 hQ N p1 c2
      · refine l1_many mt_X12_readCodes (pc' := bif am_cc .eq v5 0 then 345 else 333) (L' := [some (.ref 201), some (.int p1), some (.int v2), some (.int v3), none, some (.int v5), some (.int v6), some (.int v7)]) (st' := []) 2 rfl ?_
        refine l1_bif rfl ?_ ?_
        · refine l1_weak (m := [true, true, false, false, false, false, false, false]) (L' := [some (.ref 201), some (.int p1)]) rfl ?_
          exact ok_X12_readCodes_345 hQ N p1 c2
        · refine l1_many mt_X12_readCodes (pc' := bif am_cc .ne v5 1 then 349 else 339) (L' := [some (.ref 201), some (.int p1), some (.int v2), some (.int v3), none, some (.int v5), some (.int v6), some (.int v7)]) (st' := []) 3 rfl ?_
          refine l1_bin rfl ?_ ?_
          · refine l1_many mt_X12_readCodes (pc' := bif am_cc .ne v6 1 then 349 else 345) (L' := [some (.ref 201), some (.int p1), some (.int v2), some (.int v3), none, some (.int v5), some (.int v6), some (.int v7)]) (st' := []) 3 rfl ?_
            refine l1_bin rfl ?_ ?_
            · refine l1_weak (m := [true, true, false, false, false, false, false, false]) (L' := [some (.ref 201), some (.int p1)]) rfl ?_
              exact ok_X12_readCodes_345 hQ N p1 c2
            · refine l1_weak (m := [true, true, false, false, false, false, false, false]) (L' := [some (.ref 201), some (.int p1)]) rfl ?_
              exact ok_X12_readCodes_349 hQ N p1 c2
          · refine l1_weak (m := [true, true, false, false, false, false, false, false]) (L' := [some (.ref 201), some (.int p1)]) rfl ?_
            exact ok_X12_readCodes_349 hQ N p1 c2
    · refine l1_many mt_X12_readCodes (pc' := 229) (L' := [some (.ref 201), some (.int p1), some (.int v2), some (.int v3), none, some (.int v5), some (.int v6), some (.int v7)]) (st' := [.ref 201]) 1 rfl ?_
      refine l1_getR hQ mt_X12_readCodes rfl (o := 201) (ci := 11) (k := 27) (a := 0) (b := 0) rfl rfl rfl rfl rfl (q := 212) rfl ?_
      refine l1_many mt_X12_readCodes (pc' := bif am_cc .ge v7 v3 then 256 else 244) (L' := [some (.ref 201), some (.int p1), some (.int v2), some (.int v3), none, some (.int v5), some (.int v6), some (.int v7)]) (st' := [.int (300 + v7), .ref 212]) 6 rfl ?_
      refine l1_bif rfl ?_ ?_
      · refine l1_many mt_X12_readCodes (pc' := 257) (L' := [some (.ref 201), some (.int p1), some (.int v2), some (.int v3), none, some (.int v5), some (.int v6), some (.int v7)]) (st' := [.int 0, .int (300 + v7), .ref 212]) 1 rfl ?_
        exact ok_X12_readCodes_257 hQ N p1 ih c v2 v3 v5 v6 v7 0 (300 + v7)
      · refine l1_many mt_X12_readCodes (pc' := 245) (L' := [some (.ref 201), some (.int p1), some (.int v2), some (.int v3), none, some (.int v5), some (.int v6), some (.int v7)]) (st' := [.ref 201, .int (300 + v7), .ref 212]) 1 rfl ?_
        refine l1_getR hQ mt_X12_readCodes rfl (o := 201) (ci := 11) (k := 29) (a := 0) (b := 0) rfl rfl rfl rfl rfl (q := 214) rfl ?_
        refine l1_many mt_X12_readCodes (pc' := 252) (L' := [some (.ref 201), some (.int p1), some (.int v2), some (.int v3), none, some (.int v5), some (.int v6), some (.int v7)]) (st' := [.int (v2 + v7), .ref 214, .int (300 + v7), .ref 212]) 3 rfl ?_
        refine l1_ck (fun hx => ?_)
        refine l1_ald hQ mt_X12_readCodes rfl (o := 214) rfl hx ?_
        refine l1_many mt_X12_readCodes (pc' := 257) (L' := [some (.ref 201), some (.int p1), some (.int v2), some (.int v3), none, some (.int v5), some (.int v6), some (.int v7)]) (st' := [.int (c.1 214 (v2 + v7).toNatClampNeg), .int (300 + v7), .ref 212]) 1 rfl ?_
        exact ok_X12_readCodes_257 hQ N p1 ih c v2 v3 v5 v6 v7 (c.1 214 (v2 + v7).toNatClampNeg) (300 + v7)
set_option maxRecDepth 100000 in
theorem ok_X12_readCodes_174 {Q : hS → am_H → Prop} (hQ : l1_em km Q) (N : Nat) (p1 : Int32) : ∀ n : Nat, ∀ (c : hS) (v2 : Int32) (v3 : Int32) (v5 : Int32), l1_G (wN wI) Q am_i_X12_readCodes 174 [some (.ref 201), some (.int p1), some (.int v2), some (.int v3), none, some (.int v5)] [] c (f_X12_readCodes_174 N p1 n c v2 v3 v5) := by
  intro n
  induction n with
  | zero => intro c v2 v3 v5; exact l1_none
  | succ n ih =>
    intro c v2 v3 v5
    rw [f_X12_readCodes_174]
    refine l1_many mt_X12_readCodes (pc' := bif am_cc .ge v5 288 then 212 else 182) (L' := [some (.ref 201), some (.int p1), some (.int v2), some (.int v3), none, some (.int v5)]) (st' := []) 3 rfl ?_
    refine l1_bif rfl ?_ ?_
    · refine l1_many mt_X12_readCodes (pc' := 221) (L' := [some (.ref 201), some (.int p1), some (.int v2), some (.int v3), none, some (.int 0), some (.int 0), some (.int 0)]) (st' := []) 6 rfl ?_
      exact ok_X12_readCodes_221 hQ N p1 N c v2 v3 0 0 0
    · refine l1_many mt_X12_readCodes (pc' := 183) (L' := [some (.ref 201), some (.int p1), some (.int v2), some (.int v3), none, some (.int v5)]) (st' := [.ref 201]) 1 rfl ?_
      refine l1_getR hQ mt_X12_readCodes rfl (o := 201) (ci := 11) (k := 27) (a := 0) (b := 0) rfl rfl rfl rfl rfl (q := 212) rfl ?_
      refine l1_many mt_X12_readCodes (pc' := bif am_cc .ge v5 v2 then 204 else 194) (L' := [some (.ref 201), some (.int p1), some (.int v2), some (.int v3), none, some (.int v5)]) (st' := [.int v5, .ref 212]) 4 rfl ?_
      refine l1_bif rfl ?_ ?_
      · refine l1_many mt_X12_readCodes (pc' := 205) (L' := [some (.ref 201), some (.int p1), some (.int v2), some (.int v3), none, some (.int v5)]) (st' := [.int 0, .int v5, .ref 212]) 1 rfl ?_
        refine l1_ck (fun hx => ?_)
        refine l1_ast hQ mt_X12_readCodes rfl (o := 212) rfl hx (fun c1 => ?_)
        refine l1_many mt_X12_readCodes (pc' := 174) (L' := [some (.ref 201), some (.int p1), some (.int v2), some (.int v3), none, some (.int (v5 + 1))]) (st' := []) 2 rfl ?_
        exact ih c1 v2 v3 (v5 + 1)
      · refine l1_many mt_X12_readCodes (pc' := 195) (L' := [some (.ref 201), some (.int p1), some (.int v2), some (.int v3), none, some (.int v5)]) (st' := [.ref 201, .int v5, .ref 212]) 1 rfl ?_
        refine l1_getR hQ mt_X12_readCodes rfl (o := 201) (ci := 11) (k := 29) (a := 0) (b := 0) rfl rfl rfl rfl rfl (q := 214) rfl ?_
        refine l1_many mt_X12_readCodes (pc' := 200) (L' := [some (.ref 201), some (.int p1), some (.int v2), some (.int v3), none, some (.int v5)]) (st' := [.int v5, .ref 214, .int v5, .ref 212]) 1 rfl ?_
        refine l1_ck (fun hx => ?_)
        refine l1_ald hQ mt_X12_readCodes rfl (o := 214) rfl hx ?_
        refine l1_many mt_X12_readCodes (pc' := 205) (L' := [some (.ref 201), some (.int p1), some (.int v2), some (.int v3), none, some (.int v5)]) (st' := [.int (c.1 214 v5.toNatClampNeg), .int v5, .ref 212]) 1 rfl ?_
        refine l1_ck (fun hx => ?_)
        refine l1_ast hQ mt_X12_readCodes rfl (o := 212) rfl hx (fun c2 => ?_)
        refine l1_many mt_X12_readCodes (pc' := 174) (L' := [some (.ref 201), some (.int p1), some (.int v2), some (.int v3), none, some (.int (v5 + 1))]) (st' := []) 2 rfl ?_
        exact ih c2 v2 v3 (v5 + 1)
set_option maxRecDepth 100000 in
theorem ok_X12_readCodes_73 {Q : hS → am_H → Prop} (hQ : l1_em km Q) (N : Nat) (p1 : Int32) : ∀ n : Nat, ∀ (c : hS) (v2 : Int32) (v3 : Int32) (v4 : Int32) (v5 : Int32), l1_G (wN wI) Q am_i_X12_readCodes 73 [some (.ref 201), some (.int p1), some (.int v2), some (.int v3), some (.int v4), some (.int v5)] [] c (f_X12_readCodes_73 N p1 n c v2 v3 v4 v5) := by
  intro n
  induction n with
  | zero => intro c v2 v3 v4 v5; exact l1_none
  | succ n ih =>
    intro c v2 v3 v4 v5
    rw [f_X12_readCodes_73]
    refine l1_many mt_X12_readCodes (pc' := bif am_cc .ge v5 19 then 117 else 80) (L' := [some (.ref 201), some (.int p1), some (.int v2), some (.int v3), some (.int v4), some (.int v5)]) (st' := []) 3 rfl ?_
    refine l1_bif rfl ?_ ?_
    · refine l1_many mt_X12_readCodes (pc' := 118) (L' := [some (.ref 201), some (.int p1), some (.int v2), some (.int v3), some (.int v4), some (.int v5)]) (st' := [.ref 201]) 1 rfl ?_
      refine l1_getI hQ mt_X12_readCodes rfl (o := 201) (ci := 11) (k := 5) (a := 0) (b := 0) rfl rfl rfl rfl rfl ?_
      refine l1_many mt_X12_readCodes (pc' := bif am_cc .eq (c.1 201 5) 0 then 126 else 124) (L' := [some (.ref 201), some (.int p1), some (.int v2), some (.int v3), some (.int v4), some (.int v5)]) (st' := []) 1 rfl ?_
      refine l1_bif rfl ?_ ?_
      · refine l1_many mt_X12_readCodes (pc' := 132) (L' := [some (.ref 201), some (.int p1), some (.int v2), some (.int v3), some (.int v4), some (.int v5)]) (st' := [.int 19, .int 340, .ref 201]) 3 rfl ?_
        refine l1_callV hQ mt_X12_readCodes mt_X12_fullness rfl rfl (o := 201) (ci := 11) (As := [.int 340, .int 19]) (rest := []) rfl rfl rfl rfl rfl rfl (st1 := fun x1 => [.int x1]) (fun _ => rfl) (ok_X12_fullness hQ N c 340 19) (fun x1 c2 => ?_)
        refine l1_many mt_X12_readCodes (pc' := bif am_cc .eq x1 32768 then 149 else 141) (L' := [some (.ref 201), some (.int p1), some (.int v2), some (.int v3), some (.int v4), some (.int v5)]) (st' := []) 2 rfl ?_
        refine l1_bif rfl ?_ ?_
        · refine l1_many mt_X12_readCodes (pc' := 155) (L' := [some (.ref 201), some (.int p1), some (.int v2), some (.int v3), some (.int v4), some (.int v5)]) (st' := [.int 19, .int 340, .ref 201]) 3 rfl ?_
          refine l1_callV hQ mt_X12_readCodes mt_X12_layCodes rfl rfl (o := 201) (ci := 11) (As := [.int 340, .int 19]) (rest := []) rfl rfl rfl rfl rfl rfl (st1 := fun _ => []) (fun _ => rfl) (ok_X12_layCodes hQ N c2 340 19) (fun _ c3 => ?_)
          refine l1_many mt_X12_readCodes (pc' := 163) (L' := [some (.ref 201), some (.int p1), some (.int v2), some (.int v3), some (.int v4), some (.int v5)]) (st' := [.int p1, .int (v2 + v3), .ref 201]) 5 rfl ?_
          refine l1_callV hQ mt_X12_readCodes mt_X12_readRow rfl rfl (o := 201) (ci := 11) (As := [.int (v2 + v3), .int p1]) (rest := []) rfl rfl rfl rfl rfl rfl (st1 := fun x4 => [.int x4]) (fun _ => rfl) (ok_X12_readRow hQ N c3 (v2 + v3) p1) (fun x4 c5 => ?_)
          refine l1_many mt_X12_readCodes (pc' := bif am_cc .ne x4 0 then 171 else 169) (L' := [some (.ref 201), some (.int p1), some (.int v2), some (.int v3), some (.int v4), some (.int v5)]) (st' := []) 1 rfl ?_
          refine l1_bin rfl ?_ ?_
          · refine l1_many mt_X12_readCodes (pc' := 170) (L' := [some (.ref 201), some (.int p1), some (.int v2), some (.int v3), some (.int v4), some (.int v5)]) (st' := [.int 0]) 1 rfl ?_
            exact l1_ret mt_X12_readCodes rfl rfl rfl
          · refine l1_many mt_X12_readCodes (pc' := 174) (L' := [some (.ref 201), some (.int p1), some (.int v2), some (.int v3), some (.int v4), some (.int 0)]) (st' := []) 2 rfl ?_
            refine l1_weak (m := [true, true, true, true, false, true, false, false]) (L' := [some (.ref 201), some (.int p1), some (.int v2), some (.int v3), none, some (.int 0)]) rfl ?_
            exact ok_X12_readCodes_174 hQ N p1 N c5 v2 v3 0
        · refine l1_many mt_X12_readCodes (pc' := 145) (L' := [some (.ref 201), some (.int p1), some (.int v2), some (.int v3), some (.int v4), some (.int v5)]) (st' := [.int p1, .int 24, .ref 201]) 3 rfl ?_
          refine l1_callV hQ mt_X12_readCodes mt_X12_fails rfl rfl (o := 201) (ci := 11) (As := [.int 24, .int p1]) (rest := []) rfl rfl rfl rfl rfl rfl (st1 := fun x6 => [.int x6]) (fun _ => rfl) (ok_X12_fails hQ c2 24 p1) (fun x6 c7 => ?_)
          refine l1_ck (fun hz => ?_)
          exact l1_retZ mt_X12_readCodes rfl rfl rfl hz
      · refine l1_many mt_X12_readCodes (pc' := 125) (L' := [some (.ref 201), some (.int p1), some (.int v2), some (.int v3), some (.int v4), some (.int v5)]) (st' := [.int 0]) 1 rfl ?_
        exact l1_ret mt_X12_readCodes rfl rfl rfl
    · refine l1_many mt_X12_readCodes (pc' := 81) (L' := [some (.ref 201), some (.int p1), some (.int v2), some (.int v3), some (.int v4), some (.int v5)]) (st' := [.ref 201]) 1 rfl ?_
      refine l1_getR hQ mt_X12_readCodes rfl (o := 201) (ci := 11) (k := 27) (a := 0) (b := 0) rfl rfl rfl rfl rfl (q := 212) rfl ?_
      refine l1_many mt_X12_readCodes (pc' := 90) (L' := [some (.ref 201), some (.int p1), some (.int v2), some (.int v3), some (.int v4), some (.int v5)]) (st' := [.int v5, .ref 201, .int 340, .ref 212]) 3 rfl ?_
      refine l1_callV hQ mt_X12_readCodes mt_X12_order rfl rfl (o := 201) (ci := 11) (As := [.int v5]) (rest := [.int 340, .ref 212]) rfl rfl rfl rfl rfl rfl (st1 := fun x8 => [.int x8, .int 340, .ref 212]) (fun _ => rfl) (ok_X12_order hQ c v5) (fun x8 c9 => ?_)
      refine l1_many mt_X12_readCodes (pc' := bif am_cc .ge v5 v4 then 109 else 101) (L' := [some (.ref 201), some (.int p1), some (.int v2), some (.int v3), some (.int v4), some (.int v5)]) (st' := [.int (340 + x8), .ref 212]) 4 rfl ?_
      refine l1_bif rfl ?_ ?_
      · refine l1_many mt_X12_readCodes (pc' := 110) (L' := [some (.ref 201), some (.int p1), some (.int v2), some (.int v3), some (.int v4), some (.int v5)]) (st' := [.int 0, .int (340 + x8), .ref 212]) 1 rfl ?_
        refine l1_ck (fun hx => ?_)
        refine l1_ast hQ mt_X12_readCodes rfl (o := 212) rfl hx (fun c10 => ?_)
        refine l1_many mt_X12_readCodes (pc' := 73) (L' := [some (.ref 201), some (.int p1), some (.int v2), some (.int v3), some (.int v4), some (.int (v5 + 1))]) (st' := []) 2 rfl ?_
        exact ih c10 v2 v3 v4 (v5 + 1)
      · refine l1_many mt_X12_readCodes (pc' := 103) (L' := [some (.ref 201), some (.int p1), some (.int v2), some (.int v3), some (.int v4), some (.int v5)]) (st' := [.int 3, .ref 201, .int (340 + x8), .ref 212]) 2 rfl ?_
        refine l1_callV hQ mt_X12_readCodes mt_X12_bits rfl rfl (o := 201) (ci := 11) (As := [.int 3]) (rest := [.int (340 + x8), .ref 212]) rfl rfl rfl rfl rfl rfl (st1 := fun x11 => [.int x11, .int (340 + x8), .ref 212]) (fun _ => rfl) (ok_X12_bits hQ N c9 3) (fun x11 c12 => ?_)
        refine l1_many mt_X12_readCodes (pc' := 110) (L' := [some (.ref 201), some (.int p1), some (.int v2), some (.int v3), some (.int v4), some (.int v5)]) (st' := [.int x11, .int (340 + x8), .ref 212]) 1 rfl ?_
        refine l1_ck (fun hx => ?_)
        refine l1_ast hQ mt_X12_readCodes rfl (o := 212) rfl hx (fun c13 => ?_)
        refine l1_many mt_X12_readCodes (pc' := 73) (L' := [some (.ref 201), some (.int p1), some (.int v2), some (.int v3), some (.int v4), some (.int (v5 + 1))]) (st' := []) 2 rfl ?_
        exact ih c13 v2 v3 v4 (v5 + 1)
set_option maxRecDepth 100000 in
theorem ok_X12_readCodes_61 {Q : hS → am_H → Prop} (hQ : l1_em km Q) (N : Nat) (p1 : Int32) : ∀ (c : hS) (v2 : Int32) (v3 : Int32), l1_G (wN wI) Q am_i_X12_readCodes 61 [some (.ref 201), some (.int p1), some (.int v2), some (.int v3)] [] c (f_X12_readCodes_61 N p1 c v2 v3) := by
  intro c v2 v3
  rw [f_X12_readCodes_61]
  refine l1_many mt_X12_readCodes (pc' := 64) (L' := [some (.ref 201), some (.int p1), some (.int v2), some (.int v3)]) (st' := [.int 4, .ref 201, .int 4]) 3 rfl ?_
  refine l1_callV hQ mt_X12_readCodes mt_X12_bits rfl rfl (o := 201) (ci := 11) (As := [.int 4]) (rest := [.int 4]) rfl rfl rfl rfl rfl rfl (st1 := fun x1 => [.int x1, .int 4]) (fun _ => rfl) (ok_X12_bits hQ N c 4) (fun x1 c2 => ?_)
  refine l1_many mt_X12_readCodes (pc' := 73) (L' := [some (.ref 201), some (.int p1), some (.int v2), some (.int v3), some (.int (4 + x1)), some (.int 0)]) (st' := []) 4 rfl ?_
  exact ok_X12_readCodes_73 hQ N p1 N c2 v2 v3 (4 + x1) 0
set_option maxRecDepth 100000 in
theorem ok_X12_readCodes_32 {Q : hS → am_H → Prop} (hQ : l1_em km Q) (N : Nat) (p1 : Int32) : ∀ (c : hS) (v2 : Int32), l1_G (wN wI) Q am_i_X12_readCodes 32 [some (.ref 201), some (.int p1), some (.int v2)] [] c (f_X12_readCodes_32 N p1 c v2) := by
  intro c v2
  rw [f_X12_readCodes_32]
  refine l1_many mt_X12_readCodes (pc' := 35) (L' := [some (.ref 201), some (.int p1), some (.int v2)]) (st' := [.int 5, .ref 201, .int 1]) 3 rfl ?_
  refine l1_callV hQ mt_X12_readCodes mt_X12_bits rfl rfl (o := 201) (ci := 11) (As := [.int 5]) (rest := [.int 1]) rfl rfl rfl rfl rfl rfl (st1 := fun x1 => [.int x1, .int 1]) (fun _ => rfl) (ok_X12_bits hQ N c 5) (fun x1 c2 => ?_)
  refine l1_many mt_X12_readCodes (pc' := 41) (L' := [some (.ref 201), some (.int p1), some (.int v2), some (.int (1 + x1))]) (st' := [.ref 201]) 3 rfl ?_
  refine l1_getI hQ mt_X12_readCodes rfl (o := 201) (ci := 11) (k := 5) (a := 0) (b := 0) rfl rfl rfl rfl rfl ?_
  refine l1_many mt_X12_readCodes (pc' := bif am_cc .ne (c2.1 201 5) 0 then 61 else 47) (L' := [some (.ref 201), some (.int p1), some (.int v2), some (.int (1 + x1))]) (st' := []) 1 rfl ?_
  refine l1_bin rfl ?_ ?_
  · refine l1_many mt_X12_readCodes (pc' := bif am_cc .le (1 + x1) 30 then 61 else 53) (L' := [some (.ref 201), some (.int p1), some (.int v2), some (.int (1 + x1))]) (st' := []) 3 rfl ?_
    refine l1_bif rfl ?_ ?_
    · exact ok_X12_readCodes_61 hQ N p1 c2 v2 (1 + x1)
    · refine l1_many mt_X12_readCodes (pc' := 57) (L' := [some (.ref 201), some (.int p1), some (.int v2), some (.int (1 + x1))]) (st' := [.int p1, .int 24, .ref 201]) 3 rfl ?_
      refine l1_callV hQ mt_X12_readCodes mt_X12_fails rfl rfl (o := 201) (ci := 11) (As := [.int 24, .int p1]) (rest := []) rfl rfl rfl rfl rfl rfl (st1 := fun x3 => [.int x3]) (fun _ => rfl) (ok_X12_fails hQ c2 24 p1) (fun x3 c4 => ?_)
      refine l1_ck (fun hz => ?_)
      exact l1_retZ mt_X12_readCodes rfl rfl rfl hz
  · exact ok_X12_readCodes_61 hQ N p1 c2 v2 (1 + x1)
set_option maxRecDepth 100000 in
theorem en_X12_readCodes {Q : hS → am_H → Prop} (hQ : l1_em km Q) (N : Nat) (c : hS) (p1 : Int32) : l1_G (wN wI) Q am_i_X12_readCodes 0 [some (.ref 201), some (.int p1)] [] c (f_X12_readCodes N c p1) := by
  rw [f_X12_readCodes]
  refine l1_many mt_X12_readCodes (pc' := 5) (L' := [some (.ref 201), some (.int p1)]) (st' := [.int 5, .ref 201, .int 257]) 3 rfl ?_
  refine l1_callV hQ mt_X12_readCodes mt_X12_bits rfl rfl (o := 201) (ci := 11) (As := [.int 5]) (rest := [.int 257]) rfl rfl rfl rfl rfl rfl (st1 := fun x1 => [.int x1, .int 257]) (fun _ => rfl) (ok_X12_bits hQ N c 5) (fun x1 c2 => ?_)
  refine l1_many mt_X12_readCodes (pc' := 11) (L' := [some (.ref 201), some (.int p1), some (.int (257 + x1))]) (st' := [.ref 201]) 3 rfl ?_
  refine l1_getI hQ mt_X12_readCodes rfl (o := 201) (ci := 11) (k := 5) (a := 0) (b := 0) rfl rfl rfl rfl rfl ?_
  refine l1_many mt_X12_readCodes (pc' := bif am_cc .ne (c2.1 201 5) 0 then 32 else 17) (L' := [some (.ref 201), some (.int p1), some (.int (257 + x1))]) (st' := []) 1 rfl ?_
  refine l1_bin rfl ?_ ?_
  · refine l1_many mt_X12_readCodes (pc' := bif am_cc .le (257 + x1) 286 then 32 else 24) (L' := [some (.ref 201), some (.int p1), some (.int (257 + x1))]) (st' := []) 3 rfl ?_
    refine l1_bif rfl ?_ ?_
    · exact ok_X12_readCodes_32 hQ N p1 c2 (257 + x1)
    · refine l1_many mt_X12_readCodes (pc' := 28) (L' := [some (.ref 201), some (.int p1), some (.int (257 + x1))]) (st' := [.int p1, .int 24, .ref 201]) 3 rfl ?_
      refine l1_callV hQ mt_X12_readCodes mt_X12_fails rfl rfl (o := 201) (ci := 11) (As := [.int 24, .int p1]) (rest := []) rfl rfl rfl rfl rfl rfl (st1 := fun x3 => [.int x3]) (fun _ => rfl) (ok_X12_fails hQ c2 24 p1) (fun x3 c4 => ?_)
      refine l1_ck (fun hz => ?_)
      exact l1_retZ mt_X12_readCodes rfl rfl rfl hz
  · exact ok_X12_readCodes_32 hQ N p1 c2 (257 + x1)
theorem ok_X12_readCodes {Q : hS → am_H → Prop} (hQ : l1_em km Q) (N : Nat) (c : hS) (p1 : Int32) : l1_T wI Q am_i_X12_readCodes [.ref 201, .int p1] c (f_X12_readCodes N c p1) := l1_of (en_X12_readCodes hQ N c p1) ⟨rfl, rfl, trivial⟩
set_option maxRecDepth 100000 in
theorem en_X12_distanceOf {Q : hS → am_H → Prop} (hQ : l1_em km Q) (c : hS) (p1 : Int32) : l1_G (wN wI) Q am_i_X12_distanceOf 0 [some (.ref 201), some (.int p1)] [] c (f_X12_distanceOf c p1) := by
  rw [f_X12_distanceOf]
  refine l1_many mt_X12_distanceOf (pc' := 2) (L' := [some (.ref 201), some (.int p1)]) (st' := [.int 0, .ref 201]) 2 rfl ?_
  refine l1_putI hQ mt_X12_distanceOf rfl (o := 201) (ci := 11) (k := 30) (a := 0) rfl rfl rfl rfl rfl rfl (fun c1 => ?_)
  refine l1_many mt_X12_distanceOf (pc' := bif am_cc .ge p1 4 then 14 else 10) (L' := [some (.ref 201), some (.int p1)]) (st' := []) 3 rfl ?_
  refine l1_bif rfl ?_ ?_
  · refine l1_many mt_X12_distanceOf (pc' := 20) (L' := [some (.ref 201), some (.int p1)]) (st' := [.int ((p1 / 2) - 1), .ref 201]) 6 rfl ?_
    refine l1_putI hQ mt_X12_distanceOf rfl (o := 201) (ci := 11) (k := 30) (a := 0) rfl rfl rfl rfl rfl rfl (fun c2 => ?_)
    refine l1_many mt_X12_distanceOf (pc' := 30) (L' := [some (.ref 201), some (.int p1)]) (st' := [.ref 201, .int (2 + (j_rem p1 2)), .int 1]) 7 rfl ?_
    refine l1_getI hQ mt_X12_distanceOf rfl (o := 201) (ci := 11) (k := 30) (a := 0) (b := 0) rfl rfl rfl rfl rfl ?_
    refine l1_many mt_X12_distanceOf (pc' := 35) (L' := [some (.ref 201), some (.int p1)]) (st' := [.int (1 + (j_shl (2 + (j_rem p1 2)) (c2.1 201 30)))]) 2 rfl ?_
    exact l1_ret mt_X12_distanceOf rfl rfl rfl
  · refine l1_many mt_X12_distanceOf (pc' := 13) (L' := [some (.ref 201), some (.int p1)]) (st' := [.int (1 + p1)]) 3 rfl ?_
    exact l1_ret mt_X12_distanceOf rfl rfl rfl
theorem ok_X12_distanceOf {Q : hS → am_H → Prop} (hQ : l1_em km Q) (c : hS) (p1 : Int32) : l1_T wI Q am_i_X12_distanceOf [.ref 201, .int p1] c (f_X12_distanceOf c p1) := l1_of (en_X12_distanceOf hQ c p1) ⟨rfl, rfl, trivial⟩
set_option maxRecDepth 100000 in
theorem en_X12_lengthOf {Q : hS → am_H → Prop} (hQ : l1_em km Q) (c : hS) (p1 : Int32) : l1_G (wN wI) Q am_i_X12_lengthOf 0 [some (.ref 201), some (.int p1)] [] c (f_X12_lengthOf c p1) := by
  rw [f_X12_lengthOf]
  refine l1_many mt_X12_lengthOf (pc' := 2) (L' := [some (.ref 201), some (.int p1)]) (st' := [.int 0, .ref 201]) 2 rfl ?_
  refine l1_putI hQ mt_X12_lengthOf rfl (o := 201) (ci := 11) (k := 30) (a := 0) rfl rfl rfl rfl rfl rfl (fun c1 => ?_)
  refine l1_many mt_X12_lengthOf (pc' := bif am_cc .ne p1 28 then 15 else 11) (L' := [some (.ref 201), some (.int p1)]) (st' := []) 3 rfl ?_
  refine l1_bin rfl ?_ ?_
  · refine l1_many mt_X12_lengthOf (pc' := 14) (L' := [some (.ref 201), some (.int p1)]) (st' := [.int 258]) 1 rfl ?_
    exact l1_ret mt_X12_lengthOf rfl rfl rfl
  · refine l1_many mt_X12_lengthOf (pc' := bif am_cc .ge p1 8 then 25 else 21) (L' := [some (.ref 201), some (.int p1)]) (st' := []) 3 rfl ?_
    refine l1_bif rfl ?_ ?_
    · refine l1_many mt_X12_lengthOf (pc' := 31) (L' := [some (.ref 201), some (.int p1)]) (st' := [.int ((p1 / 4) - 1), .ref 201]) 6 rfl ?_
      refine l1_putI hQ mt_X12_lengthOf rfl (o := 201) (ci := 11) (k := 30) (a := 0) rfl rfl rfl rfl rfl rfl (fun c2 => ?_)
      refine l1_many mt_X12_lengthOf (pc' := 41) (L' := [some (.ref 201), some (.int p1)]) (st' := [.ref 201, .int (4 + (j_rem p1 4)), .int 3]) 7 rfl ?_
      refine l1_getI hQ mt_X12_lengthOf rfl (o := 201) (ci := 11) (k := 30) (a := 0) (b := 0) rfl rfl rfl rfl rfl ?_
      refine l1_many mt_X12_lengthOf (pc' := 46) (L' := [some (.ref 201), some (.int p1)]) (st' := [.int (3 + (j_shl (4 + (j_rem p1 4)) (c2.1 201 30)))]) 2 rfl ?_
      exact l1_ret mt_X12_lengthOf rfl rfl rfl
    · refine l1_many mt_X12_lengthOf (pc' := 24) (L' := [some (.ref 201), some (.int p1)]) (st' := [.int (3 + p1)]) 3 rfl ?_
      exact l1_ret mt_X12_lengthOf rfl rfl rfl
theorem ok_X12_lengthOf {Q : hS → am_H → Prop} (hQ : l1_em km Q) (c : hS) (p1 : Int32) : l1_T wI Q am_i_X12_lengthOf [.ref 201, .int p1] c (f_X12_lengthOf c p1) := l1_of (en_X12_lengthOf hQ c p1) ⟨rfl, rfl, trivial⟩
set_option maxRecDepth 100000 in
theorem ok_X12_readSymbols_193 {Q : hS → am_H → Prop} (hQ : l1_em km Q) (N : Nat) {k0 : hS → Option (Int32 × hS)} (hk0 : ∀ c , l1_G (wN wI) Q am_i_X12_readSymbols 0 [some (.ref 201)] [] c (k0 c)) : ∀ n : Nat, ∀ (c : hS) (v1 : Int32) (v3 : Int32) (v5 : Int32) (v6 : Int32), l1_G (wN wI) Q am_i_X12_readSymbols 193 [some (.ref 201), some (.int v1), none, some (.int v3), none, some (.int v5), some (.int v6)] [] c (f_X12_readSymbols_193 N k0 n c v1 v3 v5 v6) := by
  intro n
  induction n with
  | zero => intro c v1 v3 v5 v6; exact l1_none
  | succ n ih =>
    intro c v1 v3 v5 v6
    rw [f_X12_readSymbols_193]
    refine l1_many mt_X12_readSymbols (pc' := bif am_cc .ge v6 v3 then 227 else 199) (L' := [some (.ref 201), some (.int v1), none, some (.int v3), none, some (.int v5), some (.int v6)]) (st' := []) 3 rfl ?_
    refine l1_bif rfl ?_ ?_
    · refine l1_many mt_X12_readSymbols (pc' := 0) (L' := [some (.ref 201), some (.int v1), none, some (.int v3), none, some (.int v5), some (.int v6)]) (st' := []) 1 rfl ?_
      refine l1_weak (m := [true, false, false, false, false, false, false]) (L' := [some (.ref 201)]) rfl ?_
      exact hk0 c
    · refine l1_many mt_X12_readSymbols (pc' := 201) (L' := [some (.ref 201), some (.int v1), none, some (.int v3), none, some (.int v5), some (.int v6)]) (st' := [.ref 201, .ref 201]) 2 rfl ?_
      refine l1_getR hQ mt_X12_readSymbols rfl (o := 201) (ci := 11) (k := 22) (a := 0) (b := 0) rfl rfl rfl rfl rfl (q := 211) rfl ?_
      refine l1_many mt_X12_readSymbols (pc' := 205) (L' := [some (.ref 201), some (.int v1), none, some (.int v3), none, some (.int v5), some (.int v6)]) (st' := [.ref 201, .ref 211, .ref 201]) 1 rfl ?_
      refine l1_getI hQ mt_X12_readSymbols rfl (o := 201) (ci := 11) (k := 23) (a := 0) (b := 0) rfl rfl rfl rfl rfl ?_
      refine l1_many mt_X12_readSymbols (pc' := 211) (L' := [some (.ref 201), some (.int v1), none, some (.int v3), none, some (.int v5), some (.int v6)]) (st' := [.int ((c.1 201 23) - v5), .ref 211, .ref 201]) 2 rfl ?_
      refine l1_ck (fun hx => ?_)
      refine l1_ald hQ mt_X12_readSymbols rfl (o := 211) rfl hx ?_
      refine l1_many mt_X12_readSymbols (pc' := 213) (L' := [some (.ref 201), some (.int v1), none, some (.int v3), none, some (.int v5), some (.int v6)]) (st' := [.int v1, .int (c.1 211 ((c.1 201 23) - v5).toNatClampNeg), .ref 201]) 1 rfl ?_
      refine l1_callV hQ mt_X12_readSymbols mt_X12_add rfl rfl (o := 201) (ci := 11) (As := [.int (c.1 211 ((c.1 201 23) - v5).toNatClampNeg), .int v1]) (rest := []) rfl rfl rfl rfl rfl rfl (st1 := fun x1 => [.int x1]) (fun _ => rfl) (ok_X12_add hQ c (c.1 211 ((c.1 201 23) - v5).toNatClampNeg) v1) (fun x1 c2 => ?_)
      refine l1_many mt_X12_readSymbols (pc' := bif am_cc .ne x1 0 then 221 else 219) (L' := [some (.ref 201), some (.int v1), none, some (.int v3), none, some (.int v5), some (.int v6)]) (st' := []) 1 rfl ?_
      refine l1_bin rfl ?_ ?_
      · refine l1_many mt_X12_readSymbols (pc' := 220) (L' := [some (.ref 201), some (.int v1), none, some (.int v3), none, some (.int v5), some (.int v6)]) (st' := [.int 0]) 1 rfl ?_
        exact l1_ret mt_X12_readSymbols rfl rfl rfl
      · refine l1_many mt_X12_readSymbols (pc' := 193) (L' := [some (.ref 201), some (.int v1), none, some (.int v3), none, some (.int v5), some (.int (v6 + 1))]) (st' := []) 2 rfl ?_
        exact ih c2 v1 v3 v5 (v6 + 1)
set_option maxRecDepth 100000 in
theorem ok_X12_readSymbols_0 {Q : hS → am_H → Prop} (hQ : l1_em km Q) (N : Nat) : ∀ n : Nat, ∀ (c : hS), l1_G (wN wI) Q am_i_X12_readSymbols 0 [some (.ref 201)] [] c (f_X12_readSymbols_0 N n c) := by
  intro n
  induction n with
  | zero => intro c; exact l1_none
  | succ n ih =>
    intro c
    rw [f_X12_readSymbols_0]
    refine l1_many mt_X12_readSymbols (pc' := 1) (L' := [some (.ref 201)]) (st' := [.ref 201]) 1 rfl ?_
    refine l1_getI hQ mt_X12_readSymbols rfl (o := 201) (ci := 11) (k := 25) (a := 0) (b := 0) rfl rfl rfl rfl rfl ?_
    refine l1_many mt_X12_readSymbols (pc' := 13) (L' := [some (.ref 201), some (.int ((c.1 201 25) / 8))]) (st' := [.int 288, .int 0, .ref 201]) 6 rfl ?_
    refine l1_callV hQ mt_X12_readSymbols mt_X12_symbol rfl rfl (o := 201) (ci := 11) (As := [.int 0, .int 288]) (rest := []) rfl rfl rfl rfl rfl rfl (st1 := fun x1 => [.int x1]) (fun _ => rfl) (ok_X12_symbol hQ N c 0 288) (fun x1 c2 => ?_)
    refine l1_many mt_X12_readSymbols (pc' := bif am_cc .ne x1 (-1) then 24 else 22) (L' := [some (.ref 201), some (.int ((c.1 201 25) / 8)), some (.int x1)]) (st' := []) 4 rfl ?_
    refine l1_bin rfl ?_ ?_
    · refine l1_many mt_X12_readSymbols (pc' := 23) (L' := [some (.ref 201), some (.int ((c.1 201 25) / 8)), some (.int x1)]) (st' := [.int 0]) 1 rfl ?_
      exact l1_ret mt_X12_readSymbols rfl rfl rfl
    · refine l1_many mt_X12_readSymbols (pc' := bif am_cc .eq x1 (-2) then 37 else 30) (L' := [some (.ref 201), some (.int ((c.1 201 25) / 8)), some (.int x1)]) (st' := []) 3 rfl ?_
      refine l1_bif rfl ?_ ?_
      · refine l1_many mt_X12_readSymbols (pc' := 41) (L' := [some (.ref 201), some (.int ((c.1 201 25) / 8)), some (.int x1)]) (st' := [.int ((c.1 201 25) / 8), .int 25, .ref 201]) 3 rfl ?_
        refine l1_callV hQ mt_X12_readSymbols mt_X12_fails rfl rfl (o := 201) (ci := 11) (As := [.int 25, .int ((c.1 201 25) / 8)]) (rest := []) rfl rfl rfl rfl rfl rfl (st1 := fun x3 => [.int x3]) (fun _ => rfl) (ok_X12_fails hQ c2 25 ((c.1 201 25) / 8)) (fun x3 c4 => ?_)
        refine l1_ck (fun hz => ?_)
        exact l1_retZ mt_X12_readSymbols rfl rfl rfl hz
      · refine l1_many mt_X12_readSymbols (pc' := bif am_cc .le x1 285 then 45 else 37) (L' := [some (.ref 201), some (.int ((c.1 201 25) / 8)), some (.int x1)]) (st' := []) 3 rfl ?_
        refine l1_bif rfl ?_ ?_
        · refine l1_many mt_X12_readSymbols (pc' := bif am_cc .ne x1 256 then 54 else 52) (L' := [some (.ref 201), some (.int ((c.1 201 25) / 8)), some (.int x1)]) (st' := []) 3 rfl ?_
          refine l1_bin rfl ?_ ?_
          · refine l1_many mt_X12_readSymbols (pc' := 53) (L' := [some (.ref 201), some (.int ((c.1 201 25) / 8)), some (.int x1)]) (st' := [.int 1]) 1 rfl ?_
            exact l1_ret mt_X12_readSymbols rfl rfl rfl
          · refine l1_many mt_X12_readSymbols (pc' := bif am_cc .ge x1 256 then 72 else 61) (L' := [some (.ref 201), some (.int ((c.1 201 25) / 8)), some (.int x1)]) (st' := []) 3 rfl ?_
            refine l1_bif rfl ?_ ?_
            · refine l1_many mt_X12_readSymbols (pc' := 78) (L' := [some (.ref 201), some (.int ((c.1 201 25) / 8)), some (.int x1)]) (st' := [.int (x1 - 257), .ref 201]) 4 rfl ?_
              refine l1_callV hQ mt_X12_readSymbols mt_X12_lengthOf rfl rfl (o := 201) (ci := 11) (As := [.int (x1 - 257)]) (rest := []) rfl rfl rfl rfl rfl rfl (st1 := fun x5 => [.int x5]) (fun _ => rfl) (ok_X12_lengthOf hQ c2 (x1 - 257)) (fun x5 c6 => ?_)
              refine l1_many mt_X12_readSymbols (pc' := 85) (L' := [some (.ref 201), some (.int ((c.1 201 25) / 8)), some (.int x1), some (.int x5)]) (st' := [.ref 201, .ref 201, .int x5]) 4 rfl ?_
              refine l1_getI hQ mt_X12_readSymbols rfl (o := 201) (ci := 11) (k := 30) (a := 0) (b := 0) rfl rfl rfl rfl rfl ?_
              refine l1_callV hQ mt_X12_readSymbols mt_X12_bits rfl rfl (o := 201) (ci := 11) (As := [.int (c6.1 201 30)]) (rest := [.int x5]) rfl rfl rfl rfl rfl rfl (st1 := fun x7 => [.int x7, .int x5]) (fun _ => rfl) (ok_X12_bits hQ N c6 (c6.1 201 30)) (fun x7 c8 => ?_)
              refine l1_many mt_X12_readSymbols (pc' := 94) (L' := [some (.ref 201), some (.int ((c.1 201 25) / 8)), some (.int x1), some (.int (x5 + x7))]) (st' := [.ref 201]) 3 rfl ?_
              refine l1_getI hQ mt_X12_readSymbols rfl (o := 201) (ci := 11) (k := 5) (a := 0) (b := 0) rfl rfl rfl rfl rfl ?_
              refine l1_many mt_X12_readSymbols (pc' := bif am_cc .eq (c8.1 201 5) 0 then 102 else 100) (L' := [some (.ref 201), some (.int ((c.1 201 25) / 8)), some (.int x1), some (.int (x5 + x7))]) (st' := []) 1 rfl ?_
              refine l1_bif rfl ?_ ?_
              · refine l1_many mt_X12_readSymbols (pc' := 108) (L' := [some (.ref 201), some (.int ((c.1 201 25) / 8)), some (.int x1), some (.int (x5 + x7))]) (st' := [.int 32, .int 300, .ref 201]) 3 rfl ?_
                refine l1_callV hQ mt_X12_readSymbols mt_X12_symbol rfl rfl (o := 201) (ci := 11) (As := [.int 300, .int 32]) (rest := []) rfl rfl rfl rfl rfl rfl (st1 := fun x9 => [.int x9]) (fun _ => rfl) (ok_X12_symbol hQ N c8 300 32) (fun x9 c10 => ?_)
                refine l1_many mt_X12_readSymbols (pc' := bif am_cc .ne x9 (-1) then 121 else 119) (L' := [some (.ref 201), some (.int ((c.1 201 25) / 8)), some (.int x1), some (.int (x5 + x7)), some (.int x9)]) (st' := []) 4 rfl ?_
                refine l1_bin rfl ?_ ?_
                · refine l1_many mt_X12_readSymbols (pc' := 120) (L' := [some (.ref 201), some (.int ((c.1 201 25) / 8)), some (.int x1), some (.int (x5 + x7)), some (.int x9)]) (st' := [.int 0]) 1 rfl ?_
                  exact l1_ret mt_X12_readSymbols rfl rfl rfl
                · refine l1_many mt_X12_readSymbols (pc' := bif am_cc .eq x9 (-2) then 135 else 128) (L' := [some (.ref 201), some (.int ((c.1 201 25) / 8)), some (.int x1), some (.int (x5 + x7)), some (.int x9)]) (st' := []) 3 rfl ?_
                  refine l1_bif rfl ?_ ?_
                  · refine l1_many mt_X12_readSymbols (pc' := 139) (L' := [some (.ref 201), some (.int ((c.1 201 25) / 8)), some (.int x1), some (.int (x5 + x7)), some (.int x9)]) (st' := [.int ((c.1 201 25) / 8), .int 25, .ref 201]) 3 rfl ?_
                    refine l1_callV hQ mt_X12_readSymbols mt_X12_fails rfl rfl (o := 201) (ci := 11) (As := [.int 25, .int ((c.1 201 25) / 8)]) (rest := []) rfl rfl rfl rfl rfl rfl (st1 := fun x11 => [.int x11]) (fun _ => rfl) (ok_X12_fails hQ c10 25 ((c.1 201 25) / 8)) (fun x11 c12 => ?_)
                    refine l1_ck (fun hz => ?_)
                    exact l1_retZ mt_X12_readSymbols rfl rfl rfl hz
                  · refine l1_many mt_X12_readSymbols (pc' := bif am_cc .le x9 29 then 143 else 135) (L' := [some (.ref 201), some (.int ((c.1 201 25) / 8)), some (.int x1), some (.int (x5 + x7)), some (.int x9)]) (st' := []) 3 rfl ?_
                    refine l1_bif rfl ?_ ?_
                    · refine l1_many mt_X12_readSymbols (pc' := 146) (L' := [some (.ref 201), some (.int ((c.1 201 25) / 8)), some (.int x1), some (.int (x5 + x7)), some (.int x9)]) (st' := [.int x9, .ref 201]) 2 rfl ?_
                      refine l1_callV hQ mt_X12_readSymbols mt_X12_distanceOf rfl rfl (o := 201) (ci := 11) (As := [.int x9]) (rest := []) rfl rfl rfl rfl rfl rfl (st1 := fun x13 => [.int x13]) (fun _ => rfl) (ok_X12_distanceOf hQ c10 x9) (fun x13 c14 => ?_)
                      refine l1_many mt_X12_readSymbols (pc' := 155) (L' := [some (.ref 201), some (.int ((c.1 201 25) / 8)), some (.int x1), some (.int (x5 + x7)), some (.int x9), some (.int x13)]) (st' := [.ref 201, .ref 201, .int x13]) 4 rfl ?_
                      refine l1_getI hQ mt_X12_readSymbols rfl (o := 201) (ci := 11) (k := 30) (a := 0) (b := 0) rfl rfl rfl rfl rfl ?_
                      refine l1_callV hQ mt_X12_readSymbols mt_X12_bits rfl rfl (o := 201) (ci := 11) (As := [.int (c14.1 201 30)]) (rest := [.int x13]) rfl rfl rfl rfl rfl rfl (st1 := fun x15 => [.int x15, .int x13]) (fun _ => rfl) (ok_X12_bits hQ N c14 (c14.1 201 30)) (fun x15 c16 => ?_)
                      refine l1_many mt_X12_readSymbols (pc' := 165) (L' := [some (.ref 201), some (.int ((c.1 201 25) / 8)), some (.int x1), some (.int (x5 + x7)), some (.int x9), some (.int (x13 + x15))]) (st' := [.ref 201]) 3 rfl ?_
                      refine l1_getI hQ mt_X12_readSymbols rfl (o := 201) (ci := 11) (k := 5) (a := 0) (b := 0) rfl rfl rfl rfl rfl ?_
                      refine l1_many mt_X12_readSymbols (pc' := bif am_cc .eq (c16.1 201 5) 0 then 173 else 171) (L' := [some (.ref 201), some (.int ((c.1 201 25) / 8)), some (.int x1), some (.int (x5 + x7)), some (.int x9), some (.int (x13 + x15))]) (st' := []) 1 rfl ?_
                      refine l1_bif rfl ?_ ?_
                      · refine l1_many mt_X12_readSymbols (pc' := 176) (L' := [some (.ref 201), some (.int ((c.1 201 25) / 8)), some (.int x1), some (.int (x5 + x7)), some (.int x9), some (.int (x13 + x15))]) (st' := [.ref 201, .int (x13 + x15)]) 2 rfl ?_
                        refine l1_getI hQ mt_X12_readSymbols rfl (o := 201) (ci := 11) (k := 23) (a := 0) (b := 0) rfl rfl rfl rfl rfl ?_
                        refine l1_many mt_X12_readSymbols (pc' := bif am_cc .le (x13 + x15) (c16.1 201 23) then 190 else 182) (L' := [some (.ref 201), some (.int ((c.1 201 25) / 8)), some (.int x1), some (.int (x5 + x7)), some (.int x9), some (.int (x13 + x15))]) (st' := []) 1 rfl ?_
                        refine l1_bif rfl ?_ ?_
                        · refine l1_many mt_X12_readSymbols (pc' := 193) (L' := [some (.ref 201), some (.int ((c.1 201 25) / 8)), some (.int x1), some (.int (x5 + x7)), some (.int x9), some (.int (x13 + x15)), some (.int 0)]) (st' := []) 2 rfl ?_
                          refine l1_weak (m := [true, true, false, true, false, true, true]) (L' := [some (.ref 201), some (.int ((c.1 201 25) / 8)), none, some (.int (x5 + x7)), none, some (.int (x13 + x15)), some (.int 0)]) rfl ?_
                          exact ok_X12_readSymbols_193 hQ N ih N c16 ((c.1 201 25) / 8) (x5 + x7) (x13 + x15) 0
                        · refine l1_many mt_X12_readSymbols (pc' := 186) (L' := [some (.ref 201), some (.int ((c.1 201 25) / 8)), some (.int x1), some (.int (x5 + x7)), some (.int x9), some (.int (x13 + x15))]) (st' := [.int ((c.1 201 25) / 8), .int 26, .ref 201]) 3 rfl ?_
                          refine l1_callV hQ mt_X12_readSymbols mt_X12_fails rfl rfl (o := 201) (ci := 11) (As := [.int 26, .int ((c.1 201 25) / 8)]) (rest := []) rfl rfl rfl rfl rfl rfl (st1 := fun x17 => [.int x17]) (fun _ => rfl) (ok_X12_fails hQ c16 26 ((c.1 201 25) / 8)) (fun x17 c18 => ?_)
                          refine l1_ck (fun hz => ?_)
                          exact l1_retZ mt_X12_readSymbols rfl rfl rfl hz
                      · refine l1_many mt_X12_readSymbols (pc' := 172) (L' := [some (.ref 201), some (.int ((c.1 201 25) / 8)), some (.int x1), some (.int (x5 + x7)), some (.int x9), some (.int (x13 + x15))]) (st' := [.int 0]) 1 rfl ?_
                        exact l1_ret mt_X12_readSymbols rfl rfl rfl
                    · refine l1_many mt_X12_readSymbols (pc' := 139) (L' := [some (.ref 201), some (.int ((c.1 201 25) / 8)), some (.int x1), some (.int (x5 + x7)), some (.int x9)]) (st' := [.int ((c.1 201 25) / 8), .int 25, .ref 201]) 3 rfl ?_
                      refine l1_callV hQ mt_X12_readSymbols mt_X12_fails rfl rfl (o := 201) (ci := 11) (As := [.int 25, .int ((c.1 201 25) / 8)]) (rest := []) rfl rfl rfl rfl rfl rfl (st1 := fun x19 => [.int x19]) (fun _ => rfl) (ok_X12_fails hQ c10 25 ((c.1 201 25) / 8)) (fun x19 c20 => ?_)
                      refine l1_ck (fun hz => ?_)
                      exact l1_retZ mt_X12_readSymbols rfl rfl rfl hz
              · refine l1_many mt_X12_readSymbols (pc' := 101) (L' := [some (.ref 201), some (.int ((c.1 201 25) / 8)), some (.int x1), some (.int (x5 + x7))]) (st' := [.int 0]) 1 rfl ?_
                exact l1_ret mt_X12_readSymbols rfl rfl rfl
            · refine l1_many mt_X12_readSymbols (pc' := 64) (L' := [some (.ref 201), some (.int ((c.1 201 25) / 8)), some (.int x1)]) (st' := [.int ((c.1 201 25) / 8), .int x1, .ref 201]) 3 rfl ?_
              refine l1_callV hQ mt_X12_readSymbols mt_X12_add rfl rfl (o := 201) (ci := 11) (As := [.int x1, .int ((c.1 201 25) / 8)]) (rest := []) rfl rfl rfl rfl rfl rfl (st1 := fun x21 => [.int x21]) (fun _ => rfl) (ok_X12_add hQ c2 x1 ((c.1 201 25) / 8)) (fun x21 c22 => ?_)
              refine l1_many mt_X12_readSymbols (pc' := bif am_cc .ne x21 0 then 0 else 70) (L' := [some (.ref 201), some (.int ((c.1 201 25) / 8)), some (.int x1)]) (st' := []) 1 rfl ?_
              refine l1_bin rfl ?_ ?_
              · refine l1_many mt_X12_readSymbols (pc' := 71) (L' := [some (.ref 201), some (.int ((c.1 201 25) / 8)), some (.int x1)]) (st' := [.int 0]) 1 rfl ?_
                exact l1_ret mt_X12_readSymbols rfl rfl rfl
              · refine l1_weak (m := [true, false, false, false, false, false, false]) (L' := [some (.ref 201)]) rfl ?_
                exact ih c22
        · refine l1_many mt_X12_readSymbols (pc' := 41) (L' := [some (.ref 201), some (.int ((c.1 201 25) / 8)), some (.int x1)]) (st' := [.int ((c.1 201 25) / 8), .int 25, .ref 201]) 3 rfl ?_
          refine l1_callV hQ mt_X12_readSymbols mt_X12_fails rfl rfl (o := 201) (ci := 11) (As := [.int 25, .int ((c.1 201 25) / 8)]) (rest := []) rfl rfl rfl rfl rfl rfl (st1 := fun x23 => [.int x23]) (fun _ => rfl) (ok_X12_fails hQ c2 25 ((c.1 201 25) / 8)) (fun x23 c24 => ?_)
          refine l1_ck (fun hz => ?_)
          exact l1_retZ mt_X12_readSymbols rfl rfl rfl hz
set_option maxRecDepth 100000 in
theorem en_X12_readSymbols {Q : hS → am_H → Prop} (hQ : l1_em km Q) (N : Nat) (c : hS) : l1_G (wN wI) Q am_i_X12_readSymbols 0 [some (.ref 201)] [] c (f_X12_readSymbols N c) := by
  rw [f_X12_readSymbols]
  exact ok_X12_readSymbols_0 hQ N N c
theorem ok_X12_readSymbols {Q : hS → am_H → Prop} (hQ : l1_em km Q) (N : Nat) (c : hS) : l1_T wI Q am_i_X12_readSymbols [.ref 201] c (f_X12_readSymbols N c) := l1_of (en_X12_readSymbols hQ N c) ⟨rfl, trivial⟩
set_option maxRecDepth 100000 in
theorem ok_X12_unpackFrom_129 {Q : hS → am_H → Prop} (hQ : l1_em km Q) (N : Nat) (p1 : Int32) (p2 : Int32) (p3 : Int32) {k29 : hS → Int32 → Option (Int32 × hS)} (hk29 : ∀ c v4, l1_G (wN wI) Q am_i_X12_unpackFrom 29 [some (.ref 201), none, some (.int p2), none, some (.int v4)] [] c (k29 c v4)) : ∀ (c : hS) (v4 : Int32) (v7 : Int32), l1_G (wN wI) Q am_i_X12_unpackFrom 129 [some (.ref 201), none, some (.int p2), none, some (.int v4), none, none, some (.int v7)] [] c (f_X12_unpackFrom_129 N p1 p2 p3 k29 c v4 v7) := by
  intro c v4 v7
  rw [f_X12_unpackFrom_129]
  refine l1_many mt_X12_unpackFrom (pc' := bif am_cc .eq v7 0 then 145 else 134) (L' := [some (.ref 201), none, some (.int p2), none, some (.int v4), none, none, some (.int v7)]) (st' := []) 2 rfl ?_
  refine l1_bif rfl ?_ ?_
  · refine l1_many mt_X12_unpackFrom (pc' := 154) (L' := [some (.ref 201), none, some (.int p2), none, some (.int v4), none, none, some (.int 0)]) (st' := [.int 0]) 5 rfl ?_
    exact l1_ret mt_X12_unpackFrom rfl rfl rfl
  · refine l1_many mt_X12_unpackFrom (pc' := 135) (L' := [some (.ref 201), none, some (.int p2), none, some (.int v4), none, none, some (.int v7)]) (st' := [.ref 201]) 1 rfl ?_
    refine l1_callV hQ mt_X12_unpackFrom mt_X12_readSymbols rfl rfl (o := 201) (ci := 11) (As := []) (rest := []) rfl rfl rfl rfl rfl rfl (st1 := fun x1 => [.int x1]) (fun _ => rfl) (ok_X12_readSymbols hQ N c) (fun x1 c2 => ?_)
    refine l1_many mt_X12_unpackFrom (pc' := bif am_cc .eq x1 0 then 145 else 141) (L' := [some (.ref 201), none, some (.int p2), none, some (.int v4), none, none, some (.int v7)]) (st' := []) 1 rfl ?_
    refine l1_bif rfl ?_ ?_
    · refine l1_many mt_X12_unpackFrom (pc' := 154) (L' := [some (.ref 201), none, some (.int p2), none, some (.int v4), none, none, some (.int 0)]) (st' := [.int 0]) 5 rfl ?_
      exact l1_ret mt_X12_unpackFrom rfl rfl rfl
    · refine l1_many mt_X12_unpackFrom (pc' := 29) (L' := [some (.ref 201), none, some (.int p2), none, some (.int v4), none, none, some (.int 1)]) (st' := []) 6 rfl ?_
      refine l1_weak (m := [true, false, true, false, true, false, false, false]) (L' := [some (.ref 201), none, some (.int p2), none, some (.int v4)]) rfl ?_
      exact hk29 c2 v4
set_option maxRecDepth 100000 in
theorem ok_X12_unpackFrom_56 {Q : hS → am_H → Prop} (hQ : l1_em km Q) (N : Nat) (p1 : Int32) (p2 : Int32) (p3 : Int32) {k29 : hS → Int32 → Option (Int32 × hS)} (hk29 : ∀ c v4, l1_G (wN wI) Q am_i_X12_unpackFrom 29 [some (.ref 201), none, some (.int p2), none, some (.int v4)] [] c (k29 c v4)) : ∀ (c : hS) (v5 : Int32) (w0 : Int32), l1_G (wN wI) Q am_i_X12_unpackFrom 56 [some (.ref 201), none, some (.int p2), none, none, some (.int v5)] [.int w0] c (f_X12_unpackFrom_56 N p1 p2 p3 k29 c v5 w0) := by
  intro c v5 w0
  rw [f_X12_unpackFrom_56]
  refine l1_many mt_X12_unpackFrom (pc' := 60) (L' := [some (.ref 201), none, some (.int p2), none, some (.int w0), some (.int v5)]) (st' := [.int 2, .ref 201]) 3 rfl ?_
  refine l1_callV hQ mt_X12_unpackFrom mt_X12_bits rfl rfl (o := 201) (ci := 11) (As := [.int 2]) (rest := []) rfl rfl rfl rfl rfl rfl (st1 := fun x1 => [.int x1]) (fun _ => rfl) (ok_X12_bits hQ N c 2) (fun x1 c2 => ?_)
  refine l1_many mt_X12_unpackFrom (pc' := 66) (L' := [some (.ref 201), none, some (.int p2), none, some (.int w0), some (.int v5), some (.int x1)]) (st' := [.ref 201]) 2 rfl ?_
  refine l1_getI hQ mt_X12_unpackFrom rfl (o := 201) (ci := 11) (k := 5) (a := 0) (b := 0) rfl rfl rfl rfl rfl ?_
  refine l1_many mt_X12_unpackFrom (pc' := bif am_cc .eq (c2.1 201 5) 0 then 74 else 72) (L' := [some (.ref 201), none, some (.int p2), none, some (.int w0), some (.int v5), some (.int x1)]) (st' := []) 1 rfl ?_
  refine l1_bif rfl ?_ ?_
  · refine l1_many mt_X12_unpackFrom (pc' := bif am_cc .ne x1 3 then 89 else 80) (L' := [some (.ref 201), none, some (.int p2), none, some (.int w0), some (.int v5), some (.int x1)]) (st' := []) 3 rfl ?_
    refine l1_bin rfl ?_ ?_
    · refine l1_many mt_X12_unpackFrom (pc' := 85) (L' := [some (.ref 201), none, some (.int p2), none, some (.int w0), some (.int v5), some (.int x1)]) (st' := [.int v5, .int 21, .ref 201]) 3 rfl ?_
      refine l1_callV hQ mt_X12_unpackFrom mt_X12_fails rfl rfl (o := 201) (ci := 11) (As := [.int 21, .int v5]) (rest := []) rfl rfl rfl rfl rfl rfl (st1 := fun x8 => [.int x8]) (fun _ => rfl) (ok_X12_fails hQ c2 21 v5) (fun x8 c9 => ?_)
      refine l1_ck (fun hz => ?_)
      exact l1_retZ mt_X12_unpackFrom rfl rfl rfl hz
    · refine l1_many mt_X12_unpackFrom (pc' := bif am_cc .ne x1 0 then 108 else 97) (L' := [some (.ref 201), none, some (.int p2), none, some (.int w0), some (.int v5), some (.int x1), some (.int 1)]) (st' := []) 4 rfl ?_
      refine l1_bin rfl ?_ ?_
      · refine l1_many mt_X12_unpackFrom (pc' := 100) (L' := [some (.ref 201), none, some (.int p2), none, some (.int w0), some (.int v5), some (.int x1), some (.int 1)]) (st' := [.int v5, .ref 201]) 2 rfl ?_
        refine l1_callV hQ mt_X12_unpackFrom mt_X12_plain rfl rfl (o := 201) (ci := 11) (As := [.int v5]) (rest := []) rfl rfl rfl rfl rfl rfl (st1 := fun x6 => [.int x6]) (fun _ => rfl) (ok_X12_plain hQ N c2 v5) (fun x6 c7 => ?_)
        refine l1_many mt_X12_unpackFrom (pc' := bif am_cc .ne x6 0 then 155 else 153) (L' := [some (.ref 201), none, some (.int p2), none, some (.int w0), some (.int v5), some (.int x1), some (.int x6)]) (st' := []) 4 rfl ?_
        refine l1_bin rfl ?_ ?_
        · refine l1_many mt_X12_unpackFrom (pc' := 154) (L' := [some (.ref 201), none, some (.int p2), none, some (.int w0), some (.int v5), some (.int x1), some (.int x6)]) (st' := [.int 0]) 1 rfl ?_
          exact l1_ret mt_X12_unpackFrom rfl rfl rfl
        · refine l1_many mt_X12_unpackFrom (pc' := 29) (L' := [some (.ref 201), none, some (.int p2), none, some (.int w0), some (.int v5), some (.int x1), some (.int x6)]) (st' := []) 1 rfl ?_
          refine l1_weak (m := [true, false, true, false, true, false, false, false]) (L' := [some (.ref 201), none, some (.int p2), none, some (.int w0)]) rfl ?_
          exact hk29 c7 w0
      · refine l1_many mt_X12_unpackFrom (pc' := bif am_cc .ne x1 1 then 121 else 114) (L' := [some (.ref 201), none, some (.int p2), none, some (.int w0), some (.int v5), some (.int x1), some (.int 1)]) (st' := []) 3 rfl ?_
        refine l1_bin rfl ?_ ?_
        · refine l1_many mt_X12_unpackFrom (pc' := 115) (L' := [some (.ref 201), none, some (.int p2), none, some (.int w0), some (.int v5), some (.int x1), some (.int 1)]) (st' := [.ref 201]) 1 rfl ?_
          refine l1_callV hQ mt_X12_unpackFrom mt_X12_layFixed rfl rfl (o := 201) (ci := 11) (As := []) (rest := []) rfl rfl rfl rfl rfl rfl (st1 := fun _ => []) (fun _ => rfl) (ok_X12_layFixed hQ N c2) (fun _ c5 => ?_)
          refine l1_many mt_X12_unpackFrom (pc' := 129) (L' := [some (.ref 201), none, some (.int p2), none, some (.int w0), some (.int v5), some (.int x1), some (.int 1)]) (st' := []) 1 rfl ?_
          refine l1_weak (m := [true, false, true, false, true, false, false, true]) (L' := [some (.ref 201), none, some (.int p2), none, some (.int w0), none, none, some (.int 1)]) rfl ?_
          exact ok_X12_unpackFrom_129 hQ N p1 p2 p3 hk29 c5 w0 1
        · refine l1_many mt_X12_unpackFrom (pc' := 124) (L' := [some (.ref 201), none, some (.int p2), none, some (.int w0), some (.int v5), some (.int x1), some (.int 1)]) (st' := [.int v5, .ref 201]) 2 rfl ?_
          refine l1_callV hQ mt_X12_unpackFrom mt_X12_readCodes rfl rfl (o := 201) (ci := 11) (As := [.int v5]) (rest := []) rfl rfl rfl rfl rfl rfl (st1 := fun x3 => [.int x3]) (fun _ => rfl) (ok_X12_readCodes hQ N c2 v5) (fun x3 c4 => ?_)
          refine l1_many mt_X12_unpackFrom (pc' := 129) (L' := [some (.ref 201), none, some (.int p2), none, some (.int w0), some (.int v5), some (.int x1), some (.int x3)]) (st' := []) 1 rfl ?_
          refine l1_weak (m := [true, false, true, false, true, false, false, true]) (L' := [some (.ref 201), none, some (.int p2), none, some (.int w0), none, none, some (.int x3)]) rfl ?_
          exact ok_X12_unpackFrom_129 hQ N p1 p2 p3 hk29 c4 w0 x3
  · refine l1_many mt_X12_unpackFrom (pc' := 73) (L' := [some (.ref 201), none, some (.int p2), none, some (.int w0), some (.int v5), some (.int x1)]) (st' := [.int 0]) 1 rfl ?_
    exact l1_ret mt_X12_unpackFrom rfl rfl rfl
set_option maxRecDepth 100000 in
theorem ok_X12_unpackFrom_29 {Q : hS → am_H → Prop} (hQ : l1_em km Q) (N : Nat) (p1 : Int32) (p2 : Int32) (p3 : Int32) : ∀ n : Nat, ∀ (c : hS) (v4 : Int32), l1_G (wN wI) Q am_i_X12_unpackFrom 29 [some (.ref 201), none, some (.int p2), none, some (.int v4)] [] c (f_X12_unpackFrom_29 N p1 p2 p3 n c v4) := by
  intro n
  induction n with
  | zero => intro c v4; exact l1_none
  | succ n ih =>
    intro c v4
    rw [f_X12_unpackFrom_29]
    refine l1_many mt_X12_unpackFrom (pc' := bif am_cc .ne v4 0 then 158 else 34) (L' := [some (.ref 201), none, some (.int p2), none, some (.int v4)]) (st' := []) 2 rfl ?_
    refine l1_bin rfl ?_ ?_
    · refine l1_many mt_X12_unpackFrom (pc' := 35) (L' := [some (.ref 201), none, some (.int p2), none, some (.int v4)]) (st' := [.ref 201]) 1 rfl ?_
      refine l1_getI hQ mt_X12_unpackFrom rfl (o := 201) (ci := 11) (k := 25) (a := 0) (b := 0) rfl rfl rfl rfl rfl ?_
      refine l1_many mt_X12_unpackFrom (pc' := 44) (L' := [some (.ref 201), none, some (.int p2), none, some (.int v4), some (.int ((c.1 201 25) / 8))]) (st' := [.ref 201]) 4 rfl ?_
      refine l1_callV hQ mt_X12_unpackFrom mt_X12_bit rfl rfl (o := 201) (ci := 11) (As := []) (rest := []) rfl rfl rfl rfl rfl rfl (st1 := fun x3 => [.int x3]) (fun _ => rfl) (ok_X12_bit hQ c) (fun x3 c4 => ?_)
      refine l1_many mt_X12_unpackFrom (pc' := bif am_cc .ne x3 1 then 55 else 51) (L' := [some (.ref 201), none, some (.int p2), none, some (.int v4), some (.int ((c.1 201 25) / 8))]) (st' := []) 2 rfl ?_
      refine l1_bin rfl ?_ ?_
      · refine l1_many mt_X12_unpackFrom (pc' := 56) (L' := [some (.ref 201), none, some (.int p2), none, some (.int v4), some (.int ((c.1 201 25) / 8))]) (st' := [.int 1]) 2 rfl ?_
        refine l1_weak (m := [true, false, true, false, false, true, false, false]) (L' := [some (.ref 201), none, some (.int p2), none, none, some (.int ((c.1 201 25) / 8))]) rfl ?_
        exact ok_X12_unpackFrom_56 hQ N p1 p2 p3 ih c4 ((c.1 201 25) / 8) 1
      · refine l1_many mt_X12_unpackFrom (pc' := 56) (L' := [some (.ref 201), none, some (.int p2), none, some (.int v4), some (.int ((c.1 201 25) / 8))]) (st' := [.int 0]) 1 rfl ?_
        refine l1_weak (m := [true, false, true, false, false, true, false, false]) (L' := [some (.ref 201), none, some (.int p2), none, none, some (.int ((c.1 201 25) / 8))]) rfl ?_
        exact ok_X12_unpackFrom_56 hQ N p1 p2 p3 ih c4 ((c.1 201 25) / 8) 0
    · refine l1_many mt_X12_unpackFrom (pc' := 159) (L' := [some (.ref 201), none, some (.int p2), none, some (.int v4)]) (st' := [.ref 201]) 1 rfl ?_
      refine l1_getI hQ mt_X12_unpackFrom rfl (o := 201) (ci := 11) (k := 25) (a := 0) (b := 0) rfl rfl rfl rfl rfl ?_
      refine l1_many mt_X12_unpackFrom (pc' := bif am_cc .eq (((c.1 201 25) + 7) / 8) p2 then 187 else 176) (L' := [some (.ref 201), none, some (.int p2), none, some (.int v4), some (.int (((c.1 201 25) + 7) / 8))]) (st' := []) 8 rfl ?_
      refine l1_bif rfl ?_ ?_
      · refine l1_many mt_X12_unpackFrom (pc' := 192) (L' := [some (.ref 201), none, some (.int p2), none, some (.int v4), some (.int (((c.1 201 25) + 7) / 8))]) (st' := [.int 1]) 2 rfl ?_
        exact l1_ret mt_X12_unpackFrom rfl rfl rfl
      · refine l1_many mt_X12_unpackFrom (pc' := 181) (L' := [some (.ref 201), none, some (.int p2), none, some (.int v4), some (.int (((c.1 201 25) + 7) / 8))]) (st' := [.int (((c.1 201 25) + 7) / 8), .int 27, .ref 201]) 3 rfl ?_
        refine l1_callV hQ mt_X12_unpackFrom mt_X12_fails rfl rfl (o := 201) (ci := 11) (As := [.int 27, .int (((c.1 201 25) + 7) / 8)]) (rest := []) rfl rfl rfl rfl rfl rfl (st1 := fun x1 => [.int x1]) (fun _ => rfl) (ok_X12_fails hQ c 27 (((c.1 201 25) + 7) / 8)) (fun x1 c2 => ?_)
        refine l1_many mt_X12_unpackFrom (pc' := bif am_cc .eq x1 0 then 191 else 187) (L' := [some (.ref 201), none, some (.int p2), none, some (.int v4), some (.int (((c.1 201 25) + 7) / 8))]) (st' := []) 1 rfl ?_
        refine l1_bif rfl ?_ ?_
        · refine l1_many mt_X12_unpackFrom (pc' := 192) (L' := [some (.ref 201), none, some (.int p2), none, some (.int v4), some (.int (((c.1 201 25) + 7) / 8))]) (st' := [.int 0]) 1 rfl ?_
          exact l1_ret mt_X12_unpackFrom rfl rfl rfl
        · refine l1_many mt_X12_unpackFrom (pc' := 192) (L' := [some (.ref 201), none, some (.int p2), none, some (.int v4), some (.int (((c.1 201 25) + 7) / 8))]) (st' := [.int 1]) 2 rfl ?_
          exact l1_ret mt_X12_unpackFrom rfl rfl rfl
set_option maxRecDepth 100000 in
theorem en_X12_unpackFrom {Q : hS → am_H → Prop} (hQ : l1_em km Q) (N : Nat) (c : hS) (p1 : Int32) (p2 : Int32) (p3 : Int32) : l1_G (wN wI) Q am_i_X12_unpackFrom 0 [some (.ref 201), some (.int p1), some (.int p2), some (.int p3)] [] c (f_X12_unpackFrom N c p1 p2 p3) := by
  rw [f_X12_unpackFrom]
  refine l1_many mt_X12_unpackFrom (pc' := 5) (L' := [some (.ref 201), some (.int p1), some (.int p2), some (.int p3)]) (st' := [.int (8 * p1), .ref 201]) 4 rfl ?_
  refine l1_putI hQ mt_X12_unpackFrom rfl (o := 201) (ci := 11) (k := 25) (a := 0) rfl rfl rfl rfl rfl rfl (fun c1 => ?_)
  refine l1_many mt_X12_unpackFrom (pc' := 13) (L' := [some (.ref 201), some (.int p1), some (.int p2), some (.int p3)]) (st' := [.int (8 * p2), .ref 201]) 4 rfl ?_
  refine l1_putI hQ mt_X12_unpackFrom rfl (o := 201) (ci := 11) (k := 26) (a := 0) rfl rfl rfl rfl rfl rfl (fun c2 => ?_)
  refine l1_many mt_X12_unpackFrom (pc' := 18) (L' := [some (.ref 201), some (.int p1), some (.int p2), some (.int p3)]) (st' := [.int p3, .ref 201]) 2 rfl ?_
  refine l1_putI hQ mt_X12_unpackFrom rfl (o := 201) (ci := 11) (k := 24) (a := 0) rfl rfl rfl rfl rfl rfl (fun c3 => ?_)
  refine l1_many mt_X12_unpackFrom (pc' := 23) (L' := [some (.ref 201), some (.int p1), some (.int p2), some (.int p3)]) (st' := [.int 0, .ref 201]) 2 rfl ?_
  refine l1_putI hQ mt_X12_unpackFrom rfl (o := 201) (ci := 11) (k := 23) (a := 0) rfl rfl rfl rfl rfl rfl (fun c4 => ?_)
  refine l1_many mt_X12_unpackFrom (pc' := 29) (L' := [some (.ref 201), some (.int p1), some (.int p2), some (.int p3), some (.int 0)]) (st' := []) 2 rfl ?_
  refine l1_weak (m := [true, false, true, false, true, false, false, false]) (L' := [some (.ref 201), none, some (.int p2), none, some (.int 0)]) rfl ?_
  exact ok_X12_unpackFrom_29 hQ N p1 p2 p3 N c4 0
theorem ok_X12_unpackFrom {Q : hS → am_H → Prop} (hQ : l1_em km Q) (N : Nat) (c : hS) (p1 : Int32) (p2 : Int32) (p3 : Int32) : l1_T wI Q am_i_X12_unpackFrom [.ref 201, .int p1, .int p2, .int p3] c (f_X12_unpackFrom N c p1 p2 p3) := l1_of (en_X12_unpackFrom hQ N c p1 p2 p3) ⟨rfl, rfl, rfl, rfl, trivial⟩
end
section
/-! THAT THE MACHINE FOLLOWS THEM, printed by gen_l1.py -/
set_option maxRecDepth 100000 in
theorem ok_X12_readContent_112 {Q : hS → am_H → Prop} (hQ : l1_em km Q) (N : Nat) (p1 : Int32) (p2 : Int32) (p3 : Int32) : ∀ n : Nat, ∀ (c : hS) (v5 : Int32) (v6 : Int32), l1_G (wN wI) Q am_i_X12_readContent 112 [some (.ref 201), some (.int p1), none, none, none, some (.int v5), some (.int v6)] [] c (f_X12_readContent_112 N p1 p2 p3 n c v5 v6) := by
  intro n
  induction n with
  | zero => intro c v5 v6; exact l1_none
  | succ n ih =>
    intro c v5 v6
    rw [f_X12_readContent_112]
    refine l1_many mt_X12_readContent (pc' := 115) (L' := [some (.ref 201), some (.int p1), none, none, none, some (.int v5), some (.int v6)]) (st' := [.ref 201, .int v6]) 2 rfl ?_
    refine l1_getI hQ mt_X12_readContent rfl (o := 201) (ci := 11) (k := 16) (a := 0) (b := 0) rfl rfl rfl rfl rfl ?_
    refine l1_many mt_X12_readContent (pc' := bif am_cc .ge v6 (c.1 201 16) then 141 else 121) (L' := [some (.ref 201), some (.int p1), none, none, none, some (.int v5), some (.int v6)]) (st' := []) 1 rfl ?_
    refine l1_bif rfl ?_ ?_
    · refine l1_many mt_X12_readContent (pc' := 150) (L' := [some (.ref 201), some (.int p1), none, none, none, some (.int v5), some (.int v6)]) (st' := [.int (p1 + 16), .ref 201, .int (v5 ^^^ (-1))]) 7 rfl ?_
      refine l1_callV hQ mt_X12_readContent mt_X12_fourAt rfl rfl (o := 201) (ci := 11) (As := [.int (p1 + 16)]) (rest := [.int (v5 ^^^ (-1))]) rfl rfl rfl rfl rfl rfl (st1 := fun x1 => [.long x1, .int (v5 ^^^ (-1))]) (fun _ => rfl) (ok_X12_fourAt hQ c (p1 + 16)) (fun x1 c2 => ?_)
      refine l1_many mt_X12_readContent (pc' := bif am_cc .eq (v5 ^^^ (-1)) x1.toInt32 then 169 else 157) (L' := [some (.ref 201), some (.int p1), none, none, none, some (.int v5), some (.int v6)]) (st' := []) 2 rfl ?_
      refine l1_bif rfl ?_ ?_
      · refine l1_many mt_X12_readContent (pc' := 174) (L' := [some (.ref 201), some (.int p1), none, none, none, some (.int v5), some (.int v6)]) (st' := [.int 1]) 2 rfl ?_
        exact l1_ret mt_X12_readContent rfl rfl rfl
      · refine l1_many mt_X12_readContent (pc' := 163) (L' := [some (.ref 201), some (.int p1), none, none, none, some (.int v5), some (.int v6)]) (st' := [.int (p1 + 16), .int 4, .ref 201]) 5 rfl ?_
        refine l1_callV hQ mt_X12_readContent mt_X12_fails rfl rfl (o := 201) (ci := 11) (As := [.int 4, .int (p1 + 16)]) (rest := []) rfl rfl rfl rfl rfl rfl (st1 := fun x3 => [.int x3]) (fun _ => rfl) (ok_X12_fails hQ c2 4 (p1 + 16)) (fun x3 c4 => ?_)
        refine l1_many mt_X12_readContent (pc' := bif am_cc .eq x3 0 then 173 else 169) (L' := [some (.ref 201), some (.int p1), none, none, none, some (.int v5), some (.int v6)]) (st' := []) 1 rfl ?_
        refine l1_bif rfl ?_ ?_
        · refine l1_many mt_X12_readContent (pc' := 174) (L' := [some (.ref 201), some (.int p1), none, none, none, some (.int v5), some (.int v6)]) (st' := [.int 0]) 1 rfl ?_
          exact l1_ret mt_X12_readContent rfl rfl rfl
        · refine l1_many mt_X12_readContent (pc' := 174) (L' := [some (.ref 201), some (.int p1), none, none, none, some (.int v5), some (.int v6)]) (st' := [.int 1]) 2 rfl ?_
          exact l1_ret mt_X12_readContent rfl rfl rfl
    · refine l1_many mt_X12_readContent (pc' := 124) (L' := [some (.ref 201), some (.int p1), none, none, none, some (.int v5), some (.int v6)]) (st' := [.ref 201, .int v5]) 2 rfl ?_
      refine l1_getR hQ mt_X12_readContent rfl (o := 201) (ci := 11) (k := 17) (a := 0) (b := 0) rfl rfl rfl rfl rfl (q := 210) rfl ?_
      refine l1_many mt_X12_readContent (pc' := 129) (L' := [some (.ref 201), some (.int p1), none, none, none, some (.int v5), some (.int v6)]) (st' := [.int v6, .ref 210, .int v5]) 1 rfl ?_
      refine l1_ck (fun hx => ?_)
      refine l1_ald hQ mt_X12_readContent rfl (o := 210) rfl hx ?_
      refine l1_callS mt_X12_readContent mt_X12_checkMore rfl rfl (As := [.int v5, .int (c.1 210 v6.toNatClampNeg)]) (rest := []) rfl rfl rfl (st1 := fun x5 => [.int x5]) (fun _ => rfl) (ok_X12_checkMore hQ N c v5 (c.1 210 v6.toNatClampNeg)) (fun x5 c6 => ?_)
      refine l1_many mt_X12_readContent (pc' := 112) (L' := [some (.ref 201), some (.int p1), none, none, none, some (.int x5), some (.int (v6 + 1))]) (st' := []) 3 rfl ?_
      exact ih c6 x5 (v6 + 1)
set_option maxRecDepth 100000 in
theorem ok_X12_readContent_77 {Q : hS → am_H → Prop} (hQ : l1_em km Q) (N : Nat) (p1 : Int32) (p2 : Int32) (p3 : Int32) : ∀ n : Nat, ∀ (c : hS) (v5 : Int32), l1_G (wN wI) Q am_i_X12_readContent 77 [some (.ref 201), some (.int p1), none, none, none, some (.int v5)] [] c (f_X12_readContent_77 N p1 p2 p3 n c v5) := by
  intro n
  induction n with
  | zero => intro c v5; exact l1_none
  | succ n ih =>
    intro c v5
    rw [f_X12_readContent_77]
    refine l1_many mt_X12_readContent (pc' := 80) (L' := [some (.ref 201), some (.int p1), none, none, none, some (.int v5)]) (st' := [.ref 201, .int v5]) 2 rfl ?_
    refine l1_getI hQ mt_X12_readContent rfl (o := 201) (ci := 11) (k := 23) (a := 0) (b := 0) rfl rfl rfl rfl rfl ?_
    refine l1_many mt_X12_readContent (pc' := bif am_cc .ge v5 (c.1 201 23) then 106 else 86) (L' := [some (.ref 201), some (.int p1), none, none, none, some (.int v5)]) (st' := []) 1 rfl ?_
    refine l1_bif rfl ?_ ?_
    · refine l1_many mt_X12_readContent (pc' := 112) (L' := [some (.ref 201), some (.int p1), none, none, none, some (.int (-1)), some (.int 0)]) (st' := []) 4 rfl ?_
      exact ok_X12_readContent_112 hQ N p1 p2 p3 N c (-1) 0
    · refine l1_many mt_X12_readContent (pc' := 87) (L' := [some (.ref 201), some (.int p1), none, none, none, some (.int v5)]) (st' := [.ref 201]) 1 rfl ?_
      refine l1_getR hQ mt_X12_readContent rfl (o := 201) (ci := 11) (k := 17) (a := 0) (b := 0) rfl rfl rfl rfl rfl (q := 210) rfl ?_
      refine l1_many mt_X12_readContent (pc' := 93) (L' := [some (.ref 201), some (.int p1), none, none, none, some (.int v5)]) (st' := [.ref 201, .int v5, .ref 210]) 2 rfl ?_
      refine l1_getR hQ mt_X12_readContent rfl (o := 201) (ci := 11) (k := 22) (a := 0) (b := 0) rfl rfl rfl rfl rfl (q := 211) rfl ?_
      refine l1_many mt_X12_readContent (pc' := 98) (L' := [some (.ref 201), some (.int p1), none, none, none, some (.int v5)]) (st' := [.int v5, .ref 211, .int v5, .ref 210]) 1 rfl ?_
      refine l1_ck (fun hx => ?_)
      refine l1_ald hQ mt_X12_readContent rfl (o := 211) rfl hx ?_
      refine l1_ck (fun hx => ?_)
      refine l1_ast hQ mt_X12_readContent rfl (o := 210) rfl hx (fun c1 => ?_)
      refine l1_many mt_X12_readContent (pc' := 77) (L' := [some (.ref 201), some (.int p1), none, none, none, some (.int (v5 + 1))]) (st' := []) 2 rfl ?_
      exact ih c1 (v5 + 1)
set_option maxRecDepth 100000 in
theorem en_X12_readContent {Q : hS → am_H → Prop} (hQ : l1_em km Q) (N : Nat) (c : hS) (p1 : Int32) (p2 : Int32) (p3 : Int32) : l1_G (wN wI) Q am_i_X12_readContent 0 [some (.ref 201), some (.int p1), some (.int p2), some (.int p3)] [] c (f_X12_readContent N c p1 p2 p3) := by
  rw [f_X12_readContent]
  refine l1_many mt_X12_readContent (pc' := 5) (L' := [some (.ref 201), some (.int p1), some (.int p2), some (.int p3)]) (st' := [.int (p1 + 24), .ref 201]) 4 rfl ?_
  refine l1_callV hQ mt_X12_readContent mt_X12_fourAt rfl rfl (o := 201) (ci := 11) (As := [.int (p1 + 24)]) (rest := []) rfl rfl rfl rfl rfl rfl (st1 := fun x1 => [.long x1]) (fun _ => rfl) (ok_X12_fourAt hQ c (p1 + 24)) (fun x1 c2 => ?_)
  refine l1_many mt_X12_readContent (pc' := 16) (L' := [some (.ref 201), some (.int p1), some (.int p2), some (.int p3), some (.int x1.toInt32)]) (st' := [.int (p1 + 10), .ref 201]) 6 rfl ?_
  refine l1_callV hQ mt_X12_readContent mt_X12_twoAt rfl rfl (o := 201) (ci := 11) (As := [.int (p1 + 10)]) (rest := []) rfl rfl rfl rfl rfl rfl (st1 := fun x3 => [.int x3]) (fun _ => rfl) (ok_X12_twoAt hQ c2 (p1 + 10)) (fun x3 c4 => ?_)
  refine l1_many mt_X12_readContent (pc' := bif am_cc .ne x3 0 then 31 else 22) (L' := [some (.ref 201), some (.int p1), some (.int p2), some (.int p3), some (.int x1.toInt32)]) (st' := []) 1 rfl ?_
  refine l1_bin rfl ?_ ?_
  · refine l1_many mt_X12_readContent (pc' := 25) (L' := [some (.ref 201), some (.int p1), some (.int p2), some (.int p3), some (.int x1.toInt32)]) (st' := [.int p3, .int p2, .ref 201]) 3 rfl ?_
    refine l1_callV hQ mt_X12_readContent mt_X12_takeBytes rfl rfl (o := 201) (ci := 11) (As := [.int p2, .int p3]) (rest := []) rfl rfl rfl rfl rfl rfl (st1 := fun _ => []) (fun _ => rfl) (ok_X12_takeBytes hQ N c4 p2 p3) (fun _ c10 => ?_)
    refine l1_many mt_X12_readContent (pc' := 112) (L' := [some (.ref 201), some (.int p1), some (.int p2), some (.int p3), some (.int x1.toInt32), some (.int (-1)), some (.int 0)]) (st' := []) 5 rfl ?_
    refine l1_weak (m := [true, true, false, false, false, true, true]) (L' := [some (.ref 201), some (.int p1), none, none, none, some (.int (-1)), some (.int 0)]) rfl ?_
    exact ok_X12_readContent_112 hQ N p1 p2 p3 N c10 (-1) 0
  · refine l1_many mt_X12_readContent (pc' := 38) (L' := [some (.ref 201), some (.int p1), some (.int p2), some (.int p3), some (.int x1.toInt32)]) (st' := [.int x1.toInt32, .int (p2 + p3), .int p2, .ref 201]) 6 rfl ?_
    refine l1_callV hQ mt_X12_readContent mt_X12_unpackFrom rfl rfl (o := 201) (ci := 11) (As := [.int p2, .int (p2 + p3), .int x1.toInt32]) (rest := []) rfl rfl rfl rfl rfl rfl (st1 := fun x5 => [.int x5]) (fun _ => rfl) (ok_X12_unpackFrom hQ N c4 p2 (p2 + p3) x1.toInt32) (fun x5 c6 => ?_)
    refine l1_many mt_X12_readContent (pc' := bif am_cc .ne x5 0 then 46 else 44) (L' := [some (.ref 201), some (.int p1), some (.int p2), some (.int p3), some (.int x1.toInt32)]) (st' := []) 1 rfl ?_
    refine l1_bin rfl ?_ ?_
    · refine l1_many mt_X12_readContent (pc' := 45) (L' := [some (.ref 201), some (.int p1), some (.int p2), some (.int p3), some (.int x1.toInt32)]) (st' := [.int 0]) 1 rfl ?_
      exact l1_ret mt_X12_readContent rfl rfl rfl
    · refine l1_many mt_X12_readContent (pc' := 47) (L' := [some (.ref 201), some (.int p1), some (.int p2), some (.int p3), some (.int x1.toInt32)]) (st' := [.ref 201]) 1 rfl ?_
      refine l1_getI hQ mt_X12_readContent rfl (o := 201) (ci := 11) (k := 23) (a := 0) (b := 0) rfl rfl rfl rfl rfl ?_
      refine l1_many mt_X12_readContent (pc' := bif am_cc .eq (c6.1 201 23) x1.toInt32 then 66 else 55) (L' := [some (.ref 201), some (.int p1), some (.int p2), some (.int p3), some (.int x1.toInt32)]) (st' := []) 2 rfl ?_
      refine l1_bif rfl ?_ ?_
      · refine l1_many mt_X12_readContent (pc' := 68) (L' := [some (.ref 201), some (.int p1), some (.int p2), some (.int p3), some (.int x1.toInt32)]) (st' := [.ref 201, .ref 201]) 2 rfl ?_
        refine l1_getI hQ mt_X12_readContent rfl (o := 201) (ci := 11) (k := 23) (a := 0) (b := 0) rfl rfl rfl rfl rfl ?_
        refine l1_putI hQ mt_X12_readContent rfl (o := 201) (ci := 11) (k := 16) (a := 0) rfl rfl rfl rfl rfl rfl (fun c7 => ?_)
        refine l1_many mt_X12_readContent (pc' := 77) (L' := [some (.ref 201), some (.int p1), some (.int p2), some (.int p3), some (.int x1.toInt32), some (.int 0)]) (st' := []) 2 rfl ?_
        refine l1_weak (m := [true, true, false, false, false, true, false]) (L' := [some (.ref 201), some (.int p1), none, none, none, some (.int 0)]) rfl ?_
        exact ok_X12_readContent_77 hQ N p1 p2 p3 N c7 0
      · refine l1_many mt_X12_readContent (pc' := 62) (L' := [some (.ref 201), some (.int p1), some (.int p2), some (.int p3), some (.int x1.toInt32)]) (st' := [.int (p1 + 24), .int 14, .ref 201]) 5 rfl ?_
        refine l1_callV hQ mt_X12_readContent mt_X12_fails rfl rfl (o := 201) (ci := 11) (As := [.int 14, .int (p1 + 24)]) (rest := []) rfl rfl rfl rfl rfl rfl (st1 := fun x8 => [.int x8]) (fun _ => rfl) (ok_X12_fails hQ c6 14 (p1 + 24)) (fun x8 c9 => ?_)
        refine l1_ck (fun hz => ?_)
        exact l1_retZ mt_X12_readContent rfl rfl rfl hz
theorem ok_X12_readContent {Q : hS → am_H → Prop} (hQ : l1_em km Q) (N : Nat) (c : hS) (p1 : Int32) (p2 : Int32) (p3 : Int32) : l1_T wI Q am_i_X12_readContent [.ref 201, .int p1, .int p2, .int p3] c (f_X12_readContent N c p1 p2 p3) := l1_of (en_X12_readContent hQ N c p1 p2 p3) ⟨rfl, rfl, rfl, rfl, trivial⟩
set_option maxRecDepth 100000 in
theorem ok_X12_readLocal_170 {Q : hS → am_H → Prop} (hQ : l1_em km Q) (N : Nat) (p1 : Int32) (p2 : Int32) : ∀ n : Nat, ∀ (c : hS) (v5 : Int32) (v6 : Int32) (v7 : Int32), l1_G (wN wI) Q am_i_X12_readLocal 170 [some (.ref 201), some (.int p1), some (.int p2), none, none, some (.int v5), some (.int v6), some (.int v7)] [] c (f_X12_readLocal_170 N p1 p2 n c v5 v6 v7) := by
  intro n
  induction n with
  | zero => intro c v5 v6 v7; exact l1_none
  | succ n ih =>
    intro c v5 v6 v7
    rw [f_X12_readLocal_170]
    refine l1_many mt_X12_readLocal (pc' := bif am_cc .ge v7 v6 then 226 else 177) (L' := [some (.ref 201), some (.int p1), some (.int p2), none, none, some (.int v5), some (.int v6), some (.int v7)]) (st' := []) 3 rfl ?_
    refine l1_bif rfl ?_ ?_
    · refine l1_many mt_X12_readLocal (pc' := 243) (L' := [some (.ref 201), some (.int p1), some (.int p2), none, none, some (.int v5), some (.int v6), some (.int v7)]) (st' := [.int (v5 + 28), .ref 201, .long ((v5.toInt64 + 30) + v6.toInt64)]) 11 rfl ?_
      refine l1_callV hQ mt_X12_readLocal mt_X12_twoAt rfl rfl (o := 201) (ci := 11) (As := [.int (v5 + 28)]) (rest := [.long ((v5.toInt64 + 30) + v6.toInt64)]) rfl rfl rfl rfl rfl rfl (st1 := fun x1 => [.int x1, .long ((v5.toInt64 + 30) + v6.toInt64)]) (fun _ => rfl) (ok_X12_twoAt hQ c (v5 + 28)) (fun x1 c2 => ?_)
      refine l1_many mt_X12_readLocal (pc' := 255) (L' := [some (.ref 201), some (.int p1), some (.int p2), none, none, some (.int v5), some (.int v6), some (.long (((v5.toInt64 + 30) + v6.toInt64) + x1.toInt64))]) (st' := [.int (p1 + 20), .ref 201]) 7 rfl ?_
      refine l1_callV hQ mt_X12_readLocal mt_X12_fourAt rfl rfl (o := 201) (ci := 11) (As := [.int (p1 + 20)]) (rest := []) rfl rfl rfl rfl rfl rfl (st1 := fun x3 => [.long x3]) (fun _ => rfl) (ok_X12_fourAt hQ c2 (p1 + 20)) (fun x3 c4 => ?_)
      refine l1_many mt_X12_readLocal (pc' := bif am_cc .le (j_cmp ((((v5.toInt64 + 30) + v6.toInt64) + x1.toInt64) + x3) p2.toInt64) 0 then 282 else 271) (L' := [some (.ref 201), some (.int p1), some (.int p2), none, none, some (.int v5), some (.int v6), some (.long (((v5.toInt64 + 30) + v6.toInt64) + x1.toInt64)), none, some (.long x3)]) (st' := []) 8 rfl ?_
      refine l1_bif rfl ?_ ?_
      · refine l1_many mt_X12_readLocal (pc' := 290) (L' := [some (.ref 201), some (.int p1), some (.int p2), none, none, some (.int v5), some (.int v6), some (.long (((v5.toInt64 + 30) + v6.toInt64) + x1.toInt64)), none, some (.long x3)]) (st' := [.int x3.toInt32, .int ((((v5.toInt64 + 30) + v6.toInt64) + x1.toInt64).toInt32), .int p1, .ref 201]) 6 rfl ?_
        refine l1_callV hQ mt_X12_readLocal mt_X12_readContent rfl rfl (o := 201) (ci := 11) (As := [.int p1, .int ((((v5.toInt64 + 30) + v6.toInt64) + x1.toInt64).toInt32), .int x3.toInt32]) (rest := []) rfl rfl rfl rfl rfl rfl (st1 := fun x5 => [.int x5]) (fun _ => rfl) (ok_X12_readContent hQ N c4 p1 ((((v5.toInt64 + 30) + v6.toInt64) + x1.toInt64).toInt32) x3.toInt32) (fun x5 c6 => ?_)
        refine l1_ck (fun hz => ?_)
        exact l1_retZ mt_X12_readLocal rfl rfl rfl hz
      · refine l1_many mt_X12_readLocal (pc' := 278) (L' := [some (.ref 201), some (.int p1), some (.int p2), none, none, some (.int v5), some (.int v6), some (.long (((v5.toInt64 + 30) + v6.toInt64) + x1.toInt64)), none, some (.long x3)]) (st' := [.int (p1 + 42), .int 12, .ref 201]) 5 rfl ?_
        refine l1_callV hQ mt_X12_readLocal mt_X12_fails rfl rfl (o := 201) (ci := 11) (As := [.int 12, .int (p1 + 42)]) (rest := []) rfl rfl rfl rfl rfl rfl (st1 := fun x7 => [.int x7]) (fun _ => rfl) (ok_X12_fails hQ c4 12 (p1 + 42)) (fun x7 c8 => ?_)
        refine l1_ck (fun hz => ?_)
        exact l1_retZ mt_X12_readLocal rfl rfl rfl hz
    · refine l1_many mt_X12_readLocal (pc' := 178) (L' := [some (.ref 201), some (.int p1), some (.int p2), none, none, some (.int v5), some (.int v6), some (.int v7)]) (st' := [.ref 201]) 1 rfl ?_
      refine l1_getR hQ mt_X12_readLocal rfl (o := 201) (ci := 11) (k := 3) (a := 0) (b := 0) rfl rfl rfl rfl rfl (q := 203) rfl ?_
      refine l1_many mt_X12_readLocal (pc' := 189) (L' := [some (.ref 201), some (.int p1), some (.int p2), none, none, some (.int v5), some (.int v6), some (.int v7)]) (st' := [.int ((v5 + 30) + v7), .ref 203]) 5 rfl ?_
      refine l1_ck (fun hx => ?_)
      refine l1_ald hQ mt_X12_readLocal rfl (o := 203) rfl hx ?_
      refine l1_many mt_X12_readLocal (pc' := 191) (L' := [some (.ref 201), some (.int p1), some (.int p2), none, none, some (.int v5), some (.int v6), some (.int v7)]) (st' := [.ref 201, .int (c.1 203 ((v5 + 30) + v7).toNatClampNeg)]) 1 rfl ?_
      refine l1_getR hQ mt_X12_readLocal rfl (o := 201) (ci := 11) (k := 3) (a := 0) (b := 0) rfl rfl rfl rfl rfl (q := 203) rfl ?_
      refine l1_many mt_X12_readLocal (pc' := 201) (L' := [some (.ref 201), some (.int p1), some (.int p2), none, none, some (.int v5), some (.int v6), some (.int v7)]) (st' := [.int ((p1 + 46) + v7), .ref 203, .int (c.1 203 ((v5 + 30) + v7).toNatClampNeg)]) 5 rfl ?_
      refine l1_ck (fun hx => ?_)
      refine l1_ald hQ mt_X12_readLocal rfl (o := 203) rfl hx ?_
      refine l1_many mt_X12_readLocal (pc' := bif am_cc .eq (c.1 203 ((v5 + 30) + v7).toNatClampNeg) (c.1 203 ((p1 + 46) + v7).toNatClampNeg) then 220 else 205) (L' := [some (.ref 201), some (.int p1), some (.int p2), none, none, some (.int v5), some (.int v6), some (.int v7)]) (st' := []) 1 rfl ?_
      refine l1_bif rfl ?_ ?_
      · refine l1_many mt_X12_readLocal (pc' := 170) (L' := [some (.ref 201), some (.int p1), some (.int p2), none, none, some (.int v5), some (.int v6), some (.int (v7 + 1))]) (st' := []) 2 rfl ?_
        exact ih c v5 v6 (v7 + 1)
      · refine l1_many mt_X12_readLocal (pc' := 216) (L' := [some (.ref 201), some (.int p1), some (.int p2), none, none, some (.int v5), some (.int v6), some (.int v7)]) (st' := [.int ((v5 + 30) + v7), .int 13, .ref 201]) 7 rfl ?_
        refine l1_callV hQ mt_X12_readLocal mt_X12_fails rfl rfl (o := 201) (ci := 11) (As := [.int 13, .int ((v5 + 30) + v7)]) (rest := []) rfl rfl rfl rfl rfl rfl (st1 := fun x9 => [.int x9]) (fun _ => rfl) (ok_X12_fails hQ c 13 ((v5 + 30) + v7)) (fun x9 c10 => ?_)
        refine l1_ck (fun hz => ?_)
        exact l1_retZ mt_X12_readLocal rfl rfl rfl hz
set_option maxRecDepth 100000 in
theorem en_X12_readLocal {Q : hS → am_H → Prop} (hQ : l1_em km Q) (N : Nat) (c : hS) (p1 : Int32) (p2 : Int32) : l1_G (wN wI) Q am_i_X12_readLocal 0 [some (.ref 201), some (.int p1), some (.int p2)] [] c (f_X12_readLocal N c p1 p2) := by
  rw [f_X12_readLocal]
  refine l1_many mt_X12_readLocal (pc' := 5) (L' := [some (.ref 201), some (.int p1), some (.int p2)]) (st' := [.int (p1 + 42), .ref 201]) 4 rfl ?_
  refine l1_callV hQ mt_X12_readLocal mt_X12_fourAt rfl rfl (o := 201) (ci := 11) (As := [.int (p1 + 42)]) (rest := []) rfl rfl rfl rfl rfl rfl (st1 := fun x1 => [.long x1]) (fun _ => rfl) (ok_X12_fourAt hQ c (p1 + 42)) (fun x1 c2 => ?_)
  refine l1_many mt_X12_readLocal (pc' := bif am_cc .le (j_cmp (x1 + 30) p2.toInt64) 0 then 31 else 20) (L' := [some (.ref 201), some (.int p1), some (.int p2), some (.long x1)]) (st' := []) 8 rfl ?_
  refine l1_bif rfl ?_ ?_
  · refine l1_many mt_X12_readLocal (pc' := 45) (L' := [some (.ref 201), some (.int p1), some (.int p2), some (.long x1), none, some (.int x1.toInt32)]) (st' := [.int 3, .int 4, .int 3, .int 75, .int 80, .int x1.toInt32, .ref 201]) 10 rfl ?_
    refine l1_callV hQ mt_X12_readLocal mt_X12_isRow rfl rfl (o := 201) (ci := 11) (As := [.int x1.toInt32, .int 80, .int 75, .int 3, .int 4, .int 3]) (rest := []) rfl rfl rfl rfl rfl rfl (st1 := fun x3 => [.int x3]) (fun _ => rfl) (ok_X12_isRow hQ N c2 x1.toInt32 80 75 3 4 3) (fun x3 c4 => ?_)
    refine l1_many mt_X12_readLocal (pc' := bif am_cc .ne x3 0 then 53 else 51) (L' := [some (.ref 201), some (.int p1), some (.int p2), some (.long x1), none, some (.int x1.toInt32)]) (st' := []) 1 rfl ?_
    refine l1_bin rfl ?_ ?_
    · refine l1_many mt_X12_readLocal (pc' := 52) (L' := [some (.ref 201), some (.int p1), some (.int p2), some (.long x1), none, some (.int x1.toInt32)]) (st' := [.int 0]) 1 rfl ?_
      exact l1_ret mt_X12_readLocal rfl rfl rfl
    · refine l1_many mt_X12_readLocal (pc' := 64) (L' := [some (.ref 201), some (.int p1), some (.int p2), some (.long x1), none, some (.int x1.toInt32)]) (st' := [.int 2, .int (p1 + 8), .int (x1.toInt32 + 6), .ref 201]) 8 rfl ?_
      refine l1_callV hQ mt_X12_readLocal mt_X12_isAsThere rfl rfl (o := 201) (ci := 11) (As := [.int (x1.toInt32 + 6), .int (p1 + 8), .int 2]) (rest := []) rfl rfl rfl rfl rfl rfl (st1 := fun x5 => [.int x5]) (fun _ => rfl) (ok_X12_isAsThere hQ c4 (x1.toInt32 + 6) (p1 + 8) 2) (fun x5 c6 => ?_)
      refine l1_many mt_X12_readLocal (pc' := bif am_cc .eq x5 0 then 155 else 70) (L' := [some (.ref 201), some (.int p1), some (.int p2), some (.long x1), none, some (.int x1.toInt32)]) (st' := []) 1 rfl ?_
      refine l1_bif rfl ?_ ?_
      · refine l1_many mt_X12_readLocal (pc' := 156) (L' := [some (.ref 201), some (.int p1), some (.int p2), some (.long x1), none, some (.int x1.toInt32)]) (st' := [.int 0]) 1 rfl ?_
        exact l1_ret mt_X12_readLocal rfl rfl rfl
      · refine l1_many mt_X12_readLocal (pc' := 81) (L' := [some (.ref 201), some (.int p1), some (.int p2), some (.long x1), none, some (.int x1.toInt32)]) (st' := [.int 2, .int (p1 + 10), .int (x1.toInt32 + 8), .ref 201]) 8 rfl ?_
        refine l1_callV hQ mt_X12_readLocal mt_X12_isAsThere rfl rfl (o := 201) (ci := 11) (As := [.int (x1.toInt32 + 8), .int (p1 + 10), .int 2]) (rest := []) rfl rfl rfl rfl rfl rfl (st1 := fun x7 => [.int x7]) (fun _ => rfl) (ok_X12_isAsThere hQ c6 (x1.toInt32 + 8) (p1 + 10) 2) (fun x7 c8 => ?_)
        refine l1_many mt_X12_readLocal (pc' := bif am_cc .eq x7 0 then 155 else 87) (L' := [some (.ref 201), some (.int p1), some (.int p2), some (.long x1), none, some (.int x1.toInt32)]) (st' := []) 1 rfl ?_
        refine l1_bif rfl ?_ ?_
        · refine l1_many mt_X12_readLocal (pc' := 156) (L' := [some (.ref 201), some (.int p1), some (.int p2), some (.long x1), none, some (.int x1.toInt32)]) (st' := [.int 0]) 1 rfl ?_
          exact l1_ret mt_X12_readLocal rfl rfl rfl
        · refine l1_many mt_X12_readLocal (pc' := 98) (L' := [some (.ref 201), some (.int p1), some (.int p2), some (.long x1), none, some (.int x1.toInt32)]) (st' := [.int 4, .int (p1 + 16), .int (x1.toInt32 + 14), .ref 201]) 8 rfl ?_
          refine l1_callV hQ mt_X12_readLocal mt_X12_isAsThere rfl rfl (o := 201) (ci := 11) (As := [.int (x1.toInt32 + 14), .int (p1 + 16), .int 4]) (rest := []) rfl rfl rfl rfl rfl rfl (st1 := fun x9 => [.int x9]) (fun _ => rfl) (ok_X12_isAsThere hQ c8 (x1.toInt32 + 14) (p1 + 16) 4) (fun x9 c10 => ?_)
          refine l1_many mt_X12_readLocal (pc' := bif am_cc .eq x9 0 then 155 else 104) (L' := [some (.ref 201), some (.int p1), some (.int p2), some (.long x1), none, some (.int x1.toInt32)]) (st' := []) 1 rfl ?_
          refine l1_bif rfl ?_ ?_
          · refine l1_many mt_X12_readLocal (pc' := 156) (L' := [some (.ref 201), some (.int p1), some (.int p2), some (.long x1), none, some (.int x1.toInt32)]) (st' := [.int 0]) 1 rfl ?_
            exact l1_ret mt_X12_readLocal rfl rfl rfl
          · refine l1_many mt_X12_readLocal (pc' := 115) (L' := [some (.ref 201), some (.int p1), some (.int p2), some (.long x1), none, some (.int x1.toInt32)]) (st' := [.int 4, .int (p1 + 20), .int (x1.toInt32 + 18), .ref 201]) 8 rfl ?_
            refine l1_callV hQ mt_X12_readLocal mt_X12_isAsThere rfl rfl (o := 201) (ci := 11) (As := [.int (x1.toInt32 + 18), .int (p1 + 20), .int 4]) (rest := []) rfl rfl rfl rfl rfl rfl (st1 := fun x11 => [.int x11]) (fun _ => rfl) (ok_X12_isAsThere hQ c10 (x1.toInt32 + 18) (p1 + 20) 4) (fun x11 c12 => ?_)
            refine l1_many mt_X12_readLocal (pc' := bif am_cc .eq x11 0 then 155 else 121) (L' := [some (.ref 201), some (.int p1), some (.int p2), some (.long x1), none, some (.int x1.toInt32)]) (st' := []) 1 rfl ?_
            refine l1_bif rfl ?_ ?_
            · refine l1_many mt_X12_readLocal (pc' := 156) (L' := [some (.ref 201), some (.int p1), some (.int p2), some (.long x1), none, some (.int x1.toInt32)]) (st' := [.int 0]) 1 rfl ?_
              exact l1_ret mt_X12_readLocal rfl rfl rfl
            · refine l1_many mt_X12_readLocal (pc' := 132) (L' := [some (.ref 201), some (.int p1), some (.int p2), some (.long x1), none, some (.int x1.toInt32)]) (st' := [.int 4, .int (p1 + 24), .int (x1.toInt32 + 22), .ref 201]) 8 rfl ?_
              refine l1_callV hQ mt_X12_readLocal mt_X12_isAsThere rfl rfl (o := 201) (ci := 11) (As := [.int (x1.toInt32 + 22), .int (p1 + 24), .int 4]) (rest := []) rfl rfl rfl rfl rfl rfl (st1 := fun x13 => [.int x13]) (fun _ => rfl) (ok_X12_isAsThere hQ c12 (x1.toInt32 + 22) (p1 + 24) 4) (fun x13 c14 => ?_)
              refine l1_many mt_X12_readLocal (pc' := bif am_cc .eq x13 0 then 155 else 138) (L' := [some (.ref 201), some (.int p1), some (.int p2), some (.long x1), none, some (.int x1.toInt32)]) (st' := []) 1 rfl ?_
              refine l1_bif rfl ?_ ?_
              · refine l1_many mt_X12_readLocal (pc' := 156) (L' := [some (.ref 201), some (.int p1), some (.int p2), some (.long x1), none, some (.int x1.toInt32)]) (st' := [.int 0]) 1 rfl ?_
                exact l1_ret mt_X12_readLocal rfl rfl rfl
              · refine l1_many mt_X12_readLocal (pc' := 149) (L' := [some (.ref 201), some (.int p1), some (.int p2), some (.long x1), none, some (.int x1.toInt32)]) (st' := [.int 2, .int (p1 + 28), .int (x1.toInt32 + 26), .ref 201]) 8 rfl ?_
                refine l1_callV hQ mt_X12_readLocal mt_X12_isAsThere rfl rfl (o := 201) (ci := 11) (As := [.int (x1.toInt32 + 26), .int (p1 + 28), .int 2]) (rest := []) rfl rfl rfl rfl rfl rfl (st1 := fun x15 => [.int x15]) (fun _ => rfl) (ok_X12_isAsThere hQ c14 (x1.toInt32 + 26) (p1 + 28) 2) (fun x15 c16 => ?_)
                refine l1_many mt_X12_readLocal (pc' := bif am_cc .ne x15 0 then 157 else 155) (L' := [some (.ref 201), some (.int p1), some (.int p2), some (.long x1), none, some (.int x1.toInt32)]) (st' := []) 1 rfl ?_
                refine l1_bin rfl ?_ ?_
                · refine l1_many mt_X12_readLocal (pc' := 156) (L' := [some (.ref 201), some (.int p1), some (.int p2), some (.long x1), none, some (.int x1.toInt32)]) (st' := [.int 0]) 1 rfl ?_
                  exact l1_ret mt_X12_readLocal rfl rfl rfl
                · refine l1_many mt_X12_readLocal (pc' := 162) (L' := [some (.ref 201), some (.int p1), some (.int p2), some (.long x1), none, some (.int x1.toInt32)]) (st' := [.int (p1 + 28), .ref 201]) 4 rfl ?_
                  refine l1_callV hQ mt_X12_readLocal mt_X12_twoAt rfl rfl (o := 201) (ci := 11) (As := [.int (p1 + 28)]) (rest := []) rfl rfl rfl rfl rfl rfl (st1 := fun x17 => [.int x17]) (fun _ => rfl) (ok_X12_twoAt hQ c16 (p1 + 28)) (fun x17 c18 => ?_)
                  refine l1_many mt_X12_readLocal (pc' := 170) (L' := [some (.ref 201), some (.int p1), some (.int p2), some (.long x1), none, some (.int x1.toInt32), some (.int x17), some (.int 0)]) (st' := []) 3 rfl ?_
                  refine l1_weak (m := [true, true, true, false, false, true, true, true, false, false, false]) (L' := [some (.ref 201), some (.int p1), some (.int p2), none, none, some (.int x1.toInt32), some (.int x17), some (.int 0)]) rfl ?_
                  exact ok_X12_readLocal_170 hQ N p1 p2 N c18 x1.toInt32 x17 0
  · refine l1_many mt_X12_readLocal (pc' := 27) (L' := [some (.ref 201), some (.int p1), some (.int p2), some (.long x1)]) (st' := [.int (p1 + 42), .int 12, .ref 201]) 5 rfl ?_
    refine l1_callV hQ mt_X12_readLocal mt_X12_fails rfl rfl (o := 201) (ci := 11) (As := [.int 12, .int (p1 + 42)]) (rest := []) rfl rfl rfl rfl rfl rfl (st1 := fun x19 => [.int x19]) (fun _ => rfl) (ok_X12_fails hQ c2 12 (p1 + 42)) (fun x19 c20 => ?_)
    refine l1_ck (fun hz => ?_)
    exact l1_retZ mt_X12_readLocal rfl rfl rfl hz
theorem ok_X12_readLocal {Q : hS → am_H → Prop} (hQ : l1_em km Q) (N : Nat) (c : hS) (p1 : Int32) (p2 : Int32) : l1_T wI Q am_i_X12_readLocal [.ref 201, .int p1, .int p2] c (f_X12_readLocal N c p1 p2) := l1_of (en_X12_readLocal hQ N c p1 p2) ⟨rfl, rfl, rfl, trivial⟩
set_option maxRecDepth 100000 in
theorem ok_X12_readDirectory_52 {Q : hS → am_H → Prop} (hQ : l1_em km Q) (N : Nat) : ∀ n : Nat, ∀ (c : hS) (v1 : Int32) (v2 : Int32) (v3 : Int32) (v4 : Int32), l1_G (wN wI) Q am_i_X12_readDirectory 52 [some (.ref 201), some (.int v1), some (.int v2), some (.int v3), some (.int v4)] [] c (f_X12_readDirectory_52 N n c v1 v2 v3 v4) := by
  intro n
  induction n with
  | zero => intro c v1 v2 v3 v4; exact l1_none
  | succ n ih =>
    intro c v1 v2 v3 v4
    rw [f_X12_readDirectory_52]
    refine l1_many mt_X12_readDirectory (pc' := 59) (L' := [some (.ref 201), some (.int v1), some (.int v2), some (.int v3), some (.int v4)]) (st' := [.int (v1 + 10), .ref 201, .int v4]) 5 rfl ?_
    refine l1_callV hQ mt_X12_readDirectory mt_X12_twoAt rfl rfl (o := 201) (ci := 11) (As := [.int (v1 + 10)]) (rest := [.int v4]) rfl rfl rfl rfl rfl rfl (st1 := fun x1 => [.int x1, .int v4]) (fun _ => rfl) (ok_X12_twoAt hQ c (v1 + 10)) (fun x1 c2 => ?_)
    refine l1_many mt_X12_readDirectory (pc' := bif am_cc .ge v4 x1 then 131 else 65) (L' := [some (.ref 201), some (.int v1), some (.int v2), some (.int v3), some (.int v4)]) (st' := []) 1 rfl ?_
    refine l1_bif rfl ?_ ?_
    · refine l1_many mt_X12_readDirectory (pc' := bif am_cc .eq v3 v1 then 146 else 136) (L' := [some (.ref 201), some (.int v1), some (.int v2), some (.int v3), some (.int v4)]) (st' := []) 3 rfl ?_
      refine l1_bif rfl ?_ ?_
      · refine l1_many mt_X12_readDirectory (pc' := 151) (L' := [some (.ref 201), some (.int v1), some (.int v2), some (.int v3), some (.int v4)]) (st' := [.int 1]) 2 rfl ?_
        exact l1_ret mt_X12_readDirectory rfl rfl rfl
      · refine l1_many mt_X12_readDirectory (pc' := 140) (L' := [some (.ref 201), some (.int v1), some (.int v2), some (.int v3), some (.int v4)]) (st' := [.int v3, .int 12, .ref 201]) 3 rfl ?_
        refine l1_callV hQ mt_X12_readDirectory mt_X12_fails rfl rfl (o := 201) (ci := 11) (As := [.int 12, .int v3]) (rest := []) rfl rfl rfl rfl rfl rfl (st1 := fun x3 => [.int x3]) (fun _ => rfl) (ok_X12_fails hQ c2 12 v3) (fun x3 c4 => ?_)
        refine l1_many mt_X12_readDirectory (pc' := bif am_cc .eq x3 0 then 150 else 146) (L' := [some (.ref 201), some (.int v1), some (.int v2), some (.int v3), some (.int v4)]) (st' := []) 1 rfl ?_
        refine l1_bif rfl ?_ ?_
        · refine l1_many mt_X12_readDirectory (pc' := 151) (L' := [some (.ref 201), some (.int v1), some (.int v2), some (.int v3), some (.int v4)]) (st' := [.int 0]) 1 rfl ?_
          exact l1_ret mt_X12_readDirectory rfl rfl rfl
        · refine l1_many mt_X12_readDirectory (pc' := 151) (L' := [some (.ref 201), some (.int v1), some (.int v2), some (.int v3), some (.int v4)]) (st' := [.int 1]) 2 rfl ?_
          exact l1_ret mt_X12_readDirectory rfl rfl rfl
    · refine l1_many mt_X12_readDirectory (pc' := 68) (L' := [some (.ref 201), some (.int v1), some (.int v2), some (.int v3), some (.int v4)]) (st' := [.int v1, .int v3, .ref 201]) 3 rfl ?_
      refine l1_callV hQ mt_X12_readDirectory mt_X12_readEntryHead rfl rfl (o := 201) (ci := 11) (As := [.int v3, .int v1]) (rest := []) rfl rfl rfl rfl rfl rfl (st1 := fun x5 => [.int x5]) (fun _ => rfl) (ok_X12_readEntryHead hQ N c2 v3 v1) (fun x5 c6 => ?_)
      refine l1_many mt_X12_readDirectory (pc' := bif am_cc .eq x5 0 then 91 else 74) (L' := [some (.ref 201), some (.int v1), some (.int v2), some (.int v3), some (.int v4)]) (st' := []) 1 rfl ?_
      refine l1_bif rfl ?_ ?_
      · refine l1_many mt_X12_readDirectory (pc' := 92) (L' := [some (.ref 201), some (.int v1), some (.int v2), some (.int v3), some (.int v4)]) (st' := [.int 0]) 1 rfl ?_
        exact l1_ret mt_X12_readDirectory rfl rfl rfl
      · refine l1_many mt_X12_readDirectory (pc' := 77) (L' := [some (.ref 201), some (.int v1), some (.int v2), some (.int v3), some (.int v4)]) (st' := [.int v2, .int v3, .ref 201]) 3 rfl ?_
        refine l1_callV hQ mt_X12_readDirectory mt_X12_readLocal rfl rfl (o := 201) (ci := 11) (As := [.int v3, .int v2]) (rest := []) rfl rfl rfl rfl rfl rfl (st1 := fun x7 => [.int x7]) (fun _ => rfl) (ok_X12_readLocal hQ N c6 v3 v2) (fun x7 c8 => ?_)
        refine l1_many mt_X12_readDirectory (pc' := bif am_cc .eq x7 0 then 91 else 83) (L' := [some (.ref 201), some (.int v1), some (.int v2), some (.int v3), some (.int v4)]) (st' := []) 1 rfl ?_
        refine l1_bif rfl ?_ ?_
        · refine l1_many mt_X12_readDirectory (pc' := 92) (L' := [some (.ref 201), some (.int v1), some (.int v2), some (.int v3), some (.int v4)]) (st' := [.int 0]) 1 rfl ?_
          exact l1_ret mt_X12_readDirectory rfl rfl rfl
        · refine l1_many mt_X12_readDirectory (pc' := 85) (L' := [some (.ref 201), some (.int v1), some (.int v2), some (.int v3), some (.int v4)]) (st' := [.int v3, .ref 201]) 2 rfl ?_
          refine l1_callV hQ mt_X12_readDirectory mt_X12_comes rfl rfl (o := 201) (ci := 11) (As := [.int v3]) (rest := []) rfl rfl rfl rfl rfl rfl (st1 := fun x9 => [.int x9]) (fun _ => rfl) (ok_X12_comes hQ N c8 v3) (fun x9 c10 => ?_)
          refine l1_many mt_X12_readDirectory (pc' := bif am_cc .ne x9 0 then 93 else 91) (L' := [some (.ref 201), some (.int v1), some (.int v2), some (.int v3), some (.int v4)]) (st' := []) 1 rfl ?_
          refine l1_bin rfl ?_ ?_
          · refine l1_many mt_X12_readDirectory (pc' := 92) (L' := [some (.ref 201), some (.int v1), some (.int v2), some (.int v3), some (.int v4)]) (st' := [.int 0]) 1 rfl ?_
            exact l1_ret mt_X12_readDirectory rfl rfl rfl
          · refine l1_many mt_X12_readDirectory (pc' := 101) (L' := [some (.ref 201), some (.int v1), some (.int v2), some (.int v3), some (.int v4)]) (st' := [.int (v3 + 28), .ref 201, .int 46, .int v3]) 6 rfl ?_
            refine l1_callV hQ mt_X12_readDirectory mt_X12_twoAt rfl rfl (o := 201) (ci := 11) (As := [.int (v3 + 28)]) (rest := [.int 46, .int v3]) rfl rfl rfl rfl rfl rfl (st1 := fun x11 => [.int x11, .int 46, .int v3]) (fun _ => rfl) (ok_X12_twoAt hQ c10 (v3 + 28)) (fun x11 c12 => ?_)
            refine l1_many mt_X12_readDirectory (pc' := 110) (L' := [some (.ref 201), some (.int v1), some (.int v2), some (.int v3), some (.int v4)]) (st' := [.int (v3 + 30), .ref 201, .int (46 + x11), .int v3]) 5 rfl ?_
            refine l1_callV hQ mt_X12_readDirectory mt_X12_twoAt rfl rfl (o := 201) (ci := 11) (As := [.int (v3 + 30)]) (rest := [.int (46 + x11), .int v3]) rfl rfl rfl rfl rfl rfl (st1 := fun x13 => [.int x13, .int (46 + x11), .int v3]) (fun _ => rfl) (ok_X12_twoAt hQ c12 (v3 + 30)) (fun x13 c14 => ?_)
            refine l1_many mt_X12_readDirectory (pc' := 119) (L' := [some (.ref 201), some (.int v1), some (.int v2), some (.int v3), some (.int v4)]) (st' := [.int (v3 + 32), .ref 201, .int ((46 + x11) + x13), .int v3]) 5 rfl ?_
            refine l1_callV hQ mt_X12_readDirectory mt_X12_twoAt rfl rfl (o := 201) (ci := 11) (As := [.int (v3 + 32)]) (rest := [.int ((46 + x11) + x13), .int v3]) rfl rfl rfl rfl rfl rfl (st1 := fun x15 => [.int x15, .int ((46 + x11) + x13), .int v3]) (fun _ => rfl) (ok_X12_twoAt hQ c14 (v3 + 32)) (fun x15 c16 => ?_)
            refine l1_many mt_X12_readDirectory (pc' := 52) (L' := [some (.ref 201), some (.int v1), some (.int v2), some (.int (v3 + (((46 + x11) + x13) + x15))), some (.int (v4 + 1))]) (st' := []) 5 rfl ?_
            exact ih c16 v1 v2 (v3 + (((46 + x11) + x13) + x15)) (v4 + 1)
set_option maxRecDepth 100000 in
theorem en_X12_readDirectory {Q : hS → am_H → Prop} (hQ : l1_em km Q) (N : Nat) (c : hS) : l1_G (wN wI) Q am_i_X12_readDirectory 0 [some (.ref 201)] [] c (f_X12_readDirectory N c) := by
  rw [f_X12_readDirectory]
  refine l1_many mt_X12_readDirectory (pc' := 1) (L' := [some (.ref 201)]) (st' := [.ref 201]) 1 rfl ?_
  refine l1_getI hQ mt_X12_readDirectory rfl (o := 201) (ci := 11) (k := 4) (a := 0) (b := 0) rfl rfl rfl rfl rfl ?_
  refine l1_many mt_X12_readDirectory (pc' := bif am_cc .ge (c.1 201 4) 22 then 19 else 9) (L' := [some (.ref 201)]) (st' := []) 2 rfl ?_
  refine l1_bif rfl ?_ ?_
  · refine l1_many mt_X12_readDirectory (pc' := 20) (L' := [some (.ref 201)]) (st' := [.ref 201]) 1 rfl ?_
    refine l1_getI hQ mt_X12_readDirectory rfl (o := 201) (ci := 11) (k := 4) (a := 0) (b := 0) rfl rfl rfl rfl rfl ?_
    refine l1_many mt_X12_readDirectory (pc' := 29) (L' := [some (.ref 201), some (.int ((c.1 201 4) - 22))]) (st' := [.int ((c.1 201 4) - 22), .ref 201]) 5 rfl ?_
    refine l1_callV hQ mt_X12_readDirectory mt_X12_readEnd rfl rfl (o := 201) (ci := 11) (As := [.int ((c.1 201 4) - 22)]) (rest := []) rfl rfl rfl rfl rfl rfl (st1 := fun x1 => [.int x1]) (fun _ => rfl) (ok_X12_readEnd hQ N c ((c.1 201 4) - 22)) (fun x1 c2 => ?_)
    refine l1_many mt_X12_readDirectory (pc' := bif am_cc .ne x1 0 then 37 else 35) (L' := [some (.ref 201), some (.int ((c.1 201 4) - 22))]) (st' := []) 1 rfl ?_
    refine l1_bin rfl ?_ ?_
    · refine l1_many mt_X12_readDirectory (pc' := 36) (L' := [some (.ref 201), some (.int ((c.1 201 4) - 22))]) (st' := [.int 0]) 1 rfl ?_
      exact l1_ret mt_X12_readDirectory rfl rfl rfl
    · refine l1_many mt_X12_readDirectory (pc' := 42) (L' := [some (.ref 201), some (.int ((c.1 201 4) - 22))]) (st' := [.int (((c.1 201 4) - 22) + 16), .ref 201]) 4 rfl ?_
      refine l1_callV hQ mt_X12_readDirectory mt_X12_fourAt rfl rfl (o := 201) (ci := 11) (As := [.int (((c.1 201 4) - 22) + 16)]) (rest := []) rfl rfl rfl rfl rfl rfl (st1 := fun x3 => [.long x3]) (fun _ => rfl) (ok_X12_fourAt hQ c2 (((c.1 201 4) - 22) + 16)) (fun x3 c4 => ?_)
      refine l1_many mt_X12_readDirectory (pc' := 52) (L' := [some (.ref 201), some (.int ((c.1 201 4) - 22)), some (.int x3.toInt32), some (.int x3.toInt32), some (.int 0)]) (st' := []) 6 rfl ?_
      exact ok_X12_readDirectory_52 hQ N N c4 ((c.1 201 4) - 22) x3.toInt32 x3.toInt32 0
  · refine l1_many mt_X12_readDirectory (pc' := 12) (L' := [some (.ref 201)]) (st' := [.ref 201, .int 1, .ref 201]) 3 rfl ?_
    refine l1_getI hQ mt_X12_readDirectory rfl (o := 201) (ci := 11) (k := 4) (a := 0) (b := 0) rfl rfl rfl rfl rfl ?_
    refine l1_callV hQ mt_X12_readDirectory mt_X12_fails rfl rfl (o := 201) (ci := 11) (As := [.int 1, .int (c.1 201 4)]) (rest := []) rfl rfl rfl rfl rfl rfl (st1 := fun x5 => [.int x5]) (fun _ => rfl) (ok_X12_fails hQ c 1 (c.1 201 4)) (fun x5 c6 => ?_)
    refine l1_ck (fun hz => ?_)
    exact l1_retZ mt_X12_readDirectory rfl rfl rfl hz
theorem ok_X12_readDirectory {Q : hS → am_H → Prop} (hQ : l1_em km Q) (N : Nat) (c : hS) : l1_T wI Q am_i_X12_readDirectory [.ref 201] c (f_X12_readDirectory N c) := l1_of (en_X12_readDirectory hQ N c) ⟨rfl, trivial⟩
set_option maxRecDepth 100000 in
theorem ok_X12_read_91 {Q : hS → am_H → Prop} (hQ : l1_em km Q) (N : Nat) (p1 : Int32) : ∀ n : Nat, ∀ (c : hS) (v3 : Int32), l1_G (wN wI) Q am_i_X12_read 91 [some (.ref 201), none, none, some (.int v3)] [] c (f_X12_read_91 N p1 n c v3) := by
  intro n
  induction n with
  | zero => intro c v3; exact l1_none
  | succ n ih =>
    intro c v3
    rw [f_X12_read_91]
    refine l1_many mt_X12_read (pc' := 93) (L' := [some (.ref 201), none, none, some (.int v3)]) (st' := [.ref 201, .int v3]) 2 rfl ?_
    refine l1_getI hQ mt_X12_read rfl (o := 201) (ci := 11) (k := 7) (a := 0) (b := 0) rfl rfl rfl rfl rfl ?_
    refine l1_many mt_X12_read (pc' := bif am_cc .ge v3 (c.1 201 7) then 114 else 99) (L' := [some (.ref 201), none, none, some (.int v3)]) (st' := []) 1 rfl ?_
    refine l1_bif rfl ?_ ?_
    · refine l1_many mt_X12_read (pc' := 115) (L' := [some (.ref 201), none, none, some (.int v3)]) (st' := [.ref 201]) 1 rfl ?_
      refine l1_getI hQ mt_X12_read rfl (o := 201) (ci := 11) (k := 7) (a := 0) (b := 0) rfl rfl rfl rfl rfl ?_
      exact l1_ret mt_X12_read rfl rfl rfl
    · refine l1_many mt_X12_read (pc' := 105) (L' := [some (.ref 201), none, none, some (.int v3)]) (st' := [.int v3, .int (17 + v3), .ref 201]) 5 rfl ?_
      refine l1_callV hQ mt_X12_read mt_X12_move rfl rfl (o := 201) (ci := 11) (As := [.int (17 + v3), .int v3]) (rest := []) rfl rfl rfl rfl rfl rfl (st1 := fun _ => []) (fun _ => rfl) (ok_X12_move hQ N c (17 + v3) v3) (fun _ c1 => ?_)
      refine l1_many mt_X12_read (pc' := 91) (L' := [some (.ref 201), none, none, some (.int (v3 + 1))]) (st' := []) 2 rfl ?_
      exact ih c1 (v3 + 1)
set_option maxRecDepth 100000 in
theorem ok_X12_read_74 {Q : hS → am_H → Prop} (hQ : l1_em km Q) (N : Nat) (p1 : Int32) : ∀ (c : hS) (w0 : Int32), l1_G (wN wI) Q am_i_X12_read 74 [some (.ref 201)] [.int w0] c (f_X12_read_74 N p1 c w0) := by
  intro c w0
  rw [f_X12_read_74]
  refine l1_many mt_X12_read (pc' := bif am_cc .ne w0 0 then 81 else 79) (L' := [some (.ref 201), none, some (.int w0)]) (st' := []) 3 rfl ?_
  refine l1_bin rfl ?_ ?_
  · refine l1_many mt_X12_read (pc' := 80) (L' := [some (.ref 201), none, some (.int w0)]) (st' := [.int (-1)]) 1 rfl ?_
    exact l1_ret mt_X12_read rfl rfl rfl
  · refine l1_many mt_X12_read (pc' := 83) (L' := [some (.ref 201), none, some (.int w0)]) (st' := [.ref 201, .ref 201]) 2 rfl ?_
    refine l1_getI hQ mt_X12_read rfl (o := 201) (ci := 11) (k := 8) (a := 0) (b := 0) rfl rfl rfl rfl rfl ?_
    refine l1_putI hQ mt_X12_read rfl (o := 201) (ci := 11) (k := 7) (a := 0) rfl rfl rfl rfl rfl rfl (fun c1 => ?_)
    refine l1_many mt_X12_read (pc' := 91) (L' := [some (.ref 201), none, some (.int w0), some (.int 0)]) (st' := []) 2 rfl ?_
    refine l1_weak (m := [true, false, false, true]) (L' := [some (.ref 201), none, none, some (.int 0)]) rfl ?_
    exact ok_X12_read_91 hQ N p1 N c1 0
set_option maxRecDepth 100000 in
theorem ok_X12_read_23 {Q : hS → am_H → Prop} (hQ : l1_em km Q) (N : Nat) (p1 : Int32) : ∀ (c : hS) (w0 : Int32), l1_G (wN wI) Q am_i_X12_read 23 [some (.ref 201), some (.int p1)] [.int w0, .ref 201] c (f_X12_read_23 N p1 c w0) := by
  intro c w0
  rw [f_X12_read_23]
  refine l1_many mt_X12_read (pc' := 24) (L' := [some (.ref 201), some (.int p1)]) (st' := [.int 1, .int w0, .ref 201]) 1 rfl ?_
  refine l1_callV hQ mt_X12_read mt_X12_refuses rfl rfl (o := 201) (ci := 11) (As := [.int w0, .int 1]) (rest := []) rfl rfl rfl rfl rfl rfl (st1 := fun x1 => [.int x1]) (fun _ => rfl) (ok_X12_refuses hQ c w0 1) (fun x1 c2 => ?_)
  refine l1_many mt_X12_read (pc' := bif am_cc .eq x1 0 then 32 else 30) (L' := [some (.ref 201), some (.int p1)]) (st' := []) 1 rfl ?_
  refine l1_bif rfl ?_ ?_
  · refine l1_many mt_X12_read (pc' := 34) (L' := [some (.ref 201), some (.int p1)]) (st' := [.int 0, .ref 201]) 2 rfl ?_
    refine l1_putI hQ mt_X12_read rfl (o := 201) (ci := 11) (k := 5) (a := 0) rfl rfl rfl rfl rfl rfl (fun c3 => ?_)
    refine l1_many mt_X12_read (pc' := 39) (L' := [some (.ref 201), some (.int p1)]) (st' := [.int (-1), .ref 201]) 2 rfl ?_
    refine l1_putI hQ mt_X12_read rfl (o := 201) (ci := 11) (k := 6) (a := 0) rfl rfl rfl rfl rfl rfl (fun c4 => ?_)
    refine l1_many mt_X12_read (pc' := 44) (L' := [some (.ref 201), some (.int p1)]) (st' := [.int 0, .ref 201]) 2 rfl ?_
    refine l1_putI hQ mt_X12_read rfl (o := 201) (ci := 11) (k := 8) (a := 0) rfl rfl rfl rfl rfl rfl (fun c5 => ?_)
    refine l1_many mt_X12_read (pc' := bif am_cc .ne p1 0 then 58 else 51) (L' := [some (.ref 201), some (.int p1)]) (st' := []) 2 rfl ?_
    refine l1_bin rfl ?_ ?_
    · refine l1_many mt_X12_read (pc' := 52) (L' := [some (.ref 201), some (.int p1)]) (st' := [.ref 201]) 1 rfl ?_
      refine l1_callV hQ mt_X12_read mt_X12_readBlocks rfl rfl (o := 201) (ci := 11) (As := []) (rest := []) rfl rfl rfl rfl rfl rfl (st1 := fun x10 => [.int x10]) (fun _ => rfl) (ok_X12_readBlocks hQ N c5) (fun x10 c11 => ?_)
      refine l1_many mt_X12_read (pc' := 74) (L' := [some (.ref 201), some (.int p1)]) (st' := [.int x10]) 1 rfl ?_
      refine l1_weak (m := [true, false, false, false]) (L' := [some (.ref 201)]) rfl ?_
      exact ok_X12_read_74 hQ N p1 c11 x10
    · refine l1_many mt_X12_read (pc' := bif am_cc .ne p1 1 then 70 else 63) (L' := [some (.ref 201), some (.int p1)]) (st' := []) 3 rfl ?_
      refine l1_bin rfl ?_ ?_
      · refine l1_many mt_X12_read (pc' := 64) (L' := [some (.ref 201), some (.int p1)]) (st' := [.ref 201]) 1 rfl ?_
        refine l1_callV hQ mt_X12_read mt_X12_readDigits rfl rfl (o := 201) (ci := 11) (As := []) (rest := []) rfl rfl rfl rfl rfl rfl (st1 := fun x8 => [.int x8]) (fun _ => rfl) (ok_X12_readDigits hQ N c5) (fun x8 c9 => ?_)
        refine l1_many mt_X12_read (pc' := 74) (L' := [some (.ref 201), some (.int p1)]) (st' := [.int x8]) 1 rfl ?_
        refine l1_weak (m := [true, false, false, false]) (L' := [some (.ref 201)]) rfl ?_
        exact ok_X12_read_74 hQ N p1 c9 x8
      · refine l1_many mt_X12_read (pc' := 71) (L' := [some (.ref 201), some (.int p1)]) (st' := [.ref 201]) 1 rfl ?_
        refine l1_callV hQ mt_X12_read mt_X12_readDirectory rfl rfl (o := 201) (ci := 11) (As := []) (rest := []) rfl rfl rfl rfl rfl rfl (st1 := fun x6 => [.int x6]) (fun _ => rfl) (ok_X12_readDirectory hQ N c5) (fun x6 c7 => ?_)
        refine l1_weak (m := [true, false, false, false]) (L' := [some (.ref 201)]) rfl ?_
        exact ok_X12_read_74 hQ N p1 c7 x6
  · refine l1_many mt_X12_read (pc' := 31) (L' := [some (.ref 201), some (.int p1)]) (st' := [.int 0]) 1 rfl ?_
    exact l1_ret mt_X12_read rfl rfl rfl
set_option maxRecDepth 100000 in
theorem en_X12_read {Q : hS → am_H → Prop} (hQ : l1_em km Q) (N : Nat) (c : hS) (p1 : Int32) : l1_G (wN wI) Q am_i_X12_read 0 [some (.ref 201), some (.int p1)] [] c (f_X12_read N c p1) := by
  rw [f_X12_read]
  refine l1_many mt_X12_read (pc' := 2) (L' := [some (.ref 201), some (.int p1)]) (st' := [.int 0, .ref 201]) 2 rfl ?_
  refine l1_putI hQ mt_X12_read rfl (o := 201) (ci := 11) (k := 0) (a := 0) rfl rfl rfl rfl rfl rfl (fun c1 => ?_)
  refine l1_many mt_X12_read (pc' := 12) (L' := [some (.ref 201), some (.int p1)]) (st' := [.long 2, .long 0, .long p1.toInt64, .ref 201]) 5 rfl ?_
  refine l1_callS mt_X12_read mt_X12_in rfl rfl (As := [.long p1.toInt64, .long 0, .long 2]) (rest := [.ref 201]) rfl rfl rfl (st1 := fun x2 => [.int x2, .ref 201]) (fun _ => rfl) (ok_X12_in hQ c1 p1.toInt64 0 2) (fun x2 c3 => ?_)
  refine l1_many mt_X12_read (pc' := bif am_cc .ne x2 0 then 22 else 18) (L' := [some (.ref 201), some (.int p1)]) (st' := [.ref 201]) 1 rfl ?_
  refine l1_bin rfl ?_ ?_
  · refine l1_many mt_X12_read (pc' := 23) (L' := [some (.ref 201), some (.int p1)]) (st' := [.int 1, .ref 201]) 2 rfl ?_
    exact ok_X12_read_23 hQ N p1 c3 1
  · refine l1_many mt_X12_read (pc' := 23) (L' := [some (.ref 201), some (.int p1)]) (st' := [.int 0, .ref 201]) 1 rfl ?_
    exact ok_X12_read_23 hQ N p1 c3 0
theorem ok_X12_read {Q : hS → am_H → Prop} (hQ : l1_em km Q) (N : Nat) (c : hS) (p1 : Int32) : l1_T wI Q am_i_X12_read [.ref 201, .int p1] c (f_X12_read N c p1) := l1_of (en_X12_read hQ N c p1) ⟨rfl, rfl, trivial⟩
set_option maxRecDepth 100000 in
theorem ok_X12_unpack_42 {Q : hS → am_H → Prop} (hQ : l1_em km Q) (N : Nat) : ∀ n : Nat, ∀ (c : hS) (v1 : Int32), l1_G (wN wI) Q am_i_X12_unpack 42 [some (.ref 201), some (.int v1)] [] c (f_X12_unpack_42 N n c v1) := by
  intro n
  induction n with
  | zero => intro c v1; exact l1_none
  | succ n ih =>
    intro c v1
    rw [f_X12_unpack_42]
    refine l1_many mt_X12_unpack (pc' := 44) (L' := [some (.ref 201), some (.int v1)]) (st' := [.ref 201, .int v1]) 2 rfl ?_
    refine l1_getI hQ mt_X12_unpack rfl (o := 201) (ci := 11) (k := 23) (a := 0) (b := 0) rfl rfl rfl rfl rfl ?_
    refine l1_many mt_X12_unpack (pc' := bif am_cc .ge v1 (c.1 201 23) then 68 else 50) (L' := [some (.ref 201), some (.int v1)]) (st' := []) 1 rfl ?_
    refine l1_bif rfl ?_ ?_
    · refine l1_many mt_X12_unpack (pc' := 69) (L' := [some (.ref 201), some (.int v1)]) (st' := [.ref 201]) 1 rfl ?_
      refine l1_getI hQ mt_X12_unpack rfl (o := 201) (ci := 11) (k := 2) (a := 0) (b := 0) rfl rfl rfl rfl rfl ?_
      exact l1_ret mt_X12_unpack rfl rfl rfl
    · refine l1_many mt_X12_unpack (pc' := 51) (L' := [some (.ref 201), some (.int v1)]) (st' := [.ref 201]) 1 rfl ?_
      refine l1_getR hQ mt_X12_unpack rfl (o := 201) (ci := 11) (k := 1) (a := 0) (b := 0) rfl rfl rfl rfl rfl (q := 202) rfl ?_
      refine l1_many mt_X12_unpack (pc' := 56) (L' := [some (.ref 201), some (.int v1)]) (st' := [.ref 201, .int v1, .ref 202]) 2 rfl ?_
      refine l1_getR hQ mt_X12_unpack rfl (o := 201) (ci := 11) (k := 22) (a := 0) (b := 0) rfl rfl rfl rfl rfl (q := 211) rfl ?_
      refine l1_many mt_X12_unpack (pc' := 60) (L' := [some (.ref 201), some (.int v1)]) (st' := [.int v1, .ref 211, .int v1, .ref 202]) 1 rfl ?_
      refine l1_ck (fun hx => ?_)
      refine l1_ald hQ mt_X12_unpack rfl (o := 211) rfl hx ?_
      refine l1_ck (fun hx => ?_)
      refine l1_ast hQ mt_X12_unpack rfl (o := 202) rfl hx (fun c1 => ?_)
      refine l1_many mt_X12_unpack (pc' := 42) (L' := [some (.ref 201), some (.int (v1 + 1))]) (st' := []) 2 rfl ?_
      exact ih c1 (v1 + 1)
set_option maxRecDepth 100000 in
theorem en_X12_unpack {Q : hS → am_H → Prop} (hQ : l1_em km Q) (N : Nat) (c : hS) : l1_G (wN wI) Q am_i_X12_unpack 0 [some (.ref 201)] [] c (f_X12_unpack N c) := by
  rw [f_X12_unpack]
  refine l1_many mt_X12_unpack (pc' := 2) (L' := [some (.ref 201)]) (st' := [.int 0, .ref 201]) 2 rfl ?_
  refine l1_putI hQ mt_X12_unpack rfl (o := 201) (ci := 11) (k := 0) (a := 0) rfl rfl rfl rfl rfl rfl (fun c1 => ?_)
  refine l1_many mt_X12_unpack (pc' := 7) (L' := [some (.ref 201)]) (st' := [.int 0, .ref 201]) 2 rfl ?_
  refine l1_putI hQ mt_X12_unpack rfl (o := 201) (ci := 11) (k := 5) (a := 0) rfl rfl rfl rfl rfl rfl (fun c2 => ?_)
  refine l1_many mt_X12_unpack (pc' := 12) (L' := [some (.ref 201)]) (st' := [.int (-1), .ref 201]) 2 rfl ?_
  refine l1_putI hQ mt_X12_unpack rfl (o := 201) (ci := 11) (k := 6) (a := 0) rfl rfl rfl rfl rfl rfl (fun c3 => ?_)
  refine l1_many mt_X12_unpack (pc' := 18) (L' := [some (.ref 201)]) (st' := [.ref 201, .int 0, .ref 201]) 3 rfl ?_
  refine l1_getI hQ mt_X12_unpack rfl (o := 201) (ci := 11) (k := 4) (a := 0) (b := 0) rfl rfl rfl rfl rfl ?_
  refine l1_many mt_X12_unpack (pc' := 24) (L' := [some (.ref 201)]) (st' := [.int 512, .int (c3.1 201 4), .int 0, .ref 201]) 1 rfl ?_
  refine l1_callV hQ mt_X12_unpack mt_X12_unpackFrom rfl rfl (o := 201) (ci := 11) (As := [.int 0, .int (c3.1 201 4), .int 512]) (rest := []) rfl rfl rfl rfl rfl rfl (st1 := fun x4 => [.int x4]) (fun _ => rfl) (ok_X12_unpackFrom hQ N c3 0 (c3.1 201 4) 512) (fun x4 c5 => ?_)
  refine l1_many mt_X12_unpack (pc' := bif am_cc .ne x4 0 then 32 else 30) (L' := [some (.ref 201)]) (st' := []) 1 rfl ?_
  refine l1_bin rfl ?_ ?_
  · refine l1_many mt_X12_unpack (pc' := 31) (L' := [some (.ref 201)]) (st' := [.int (-1)]) 1 rfl ?_
    exact l1_ret mt_X12_unpack rfl rfl rfl
  · refine l1_many mt_X12_unpack (pc' := 34) (L' := [some (.ref 201)]) (st' := [.ref 201, .ref 201]) 2 rfl ?_
    refine l1_getI hQ mt_X12_unpack rfl (o := 201) (ci := 11) (k := 23) (a := 0) (b := 0) rfl rfl rfl rfl rfl ?_
    refine l1_putI hQ mt_X12_unpack rfl (o := 201) (ci := 11) (k := 2) (a := 0) rfl rfl rfl rfl rfl rfl (fun c6 => ?_)
    refine l1_many mt_X12_unpack (pc' := 42) (L' := [some (.ref 201), some (.int 0)]) (st' := []) 2 rfl ?_
    exact ok_X12_unpack_42 hQ N N c6 0
theorem ok_X12_unpack {Q : hS → am_H → Prop} (hQ : l1_em km Q) (N : Nat) (c : hS) : l1_T wI Q am_i_X12_unpack [.ref 201] c (f_X12_unpack N c) := l1_of (en_X12_unpack hQ N c) ⟨rfl, trivial⟩
set_option maxRecDepth 100000 in
theorem ok_X12_check_9 {Q : hS → am_H → Prop} (hQ : l1_em km Q) (N : Nat) : ∀ n : Nat, ∀ (c : hS) (v1 : Int32) (v2 : Int32), l1_G (wN wI) Q am_i_X12_check 9 [some (.ref 201), some (.int v1), some (.int v2)] [] c (f_X12_check_9 N n c v1 v2) := by
  intro n
  induction n with
  | zero => intro c v1 v2; exact l1_none
  | succ n ih =>
    intro c v1 v2
    rw [f_X12_check_9]
    refine l1_many mt_X12_check (pc' := 11) (L' := [some (.ref 201), some (.int v1), some (.int v2)]) (st' := [.ref 201, .int v2]) 2 rfl ?_
    refine l1_getI hQ mt_X12_check rfl (o := 201) (ci := 11) (k := 2) (a := 0) (b := 0) rfl rfl rfl rfl rfl ?_
    refine l1_many mt_X12_check (pc' := bif am_cc .ge v2 (c.1 201 2) then 34 else 17) (L' := [some (.ref 201), some (.int v1), some (.int v2)]) (st' := []) 1 rfl ?_
    refine l1_bif rfl ?_ ?_
    · refine l1_many mt_X12_check (pc' := 37) (L' := [some (.ref 201), some (.int v1), some (.int v2)]) (st' := [.int (v1 ^^^ (-1))]) 3 rfl ?_
      exact l1_ret mt_X12_check rfl rfl rfl
    · refine l1_many mt_X12_check (pc' := 19) (L' := [some (.ref 201), some (.int v1), some (.int v2)]) (st' := [.ref 201, .int v1]) 2 rfl ?_
      refine l1_getR hQ mt_X12_check rfl (o := 201) (ci := 11) (k := 1) (a := 0) (b := 0) rfl rfl rfl rfl rfl (q := 202) rfl ?_
      refine l1_many mt_X12_check (pc' := 23) (L' := [some (.ref 201), some (.int v1), some (.int v2)]) (st' := [.int v2, .ref 202, .int v1]) 1 rfl ?_
      refine l1_ck (fun hx => ?_)
      refine l1_ald hQ mt_X12_check rfl (o := 202) rfl hx ?_
      refine l1_callS mt_X12_check mt_X12_checkMore rfl rfl (As := [.int v1, .int (c.1 202 v2.toNatClampNeg)]) (rest := []) rfl rfl rfl (st1 := fun x1 => [.int x1]) (fun _ => rfl) (ok_X12_checkMore hQ N c v1 (c.1 202 v2.toNatClampNeg)) (fun x1 c2 => ?_)
      refine l1_many mt_X12_check (pc' := 9) (L' := [some (.ref 201), some (.int x1), some (.int (v2 + 1))]) (st' := []) 3 rfl ?_
      exact ih c2 x1 (v2 + 1)
set_option maxRecDepth 100000 in
theorem en_X12_check {Q : hS → am_H → Prop} (hQ : l1_em km Q) (N : Nat) (c : hS) : l1_G (wN wI) Q am_i_X12_check 0 [some (.ref 201)] [] c (f_X12_check N c) := by
  rw [f_X12_check]
  refine l1_many mt_X12_check (pc' := 2) (L' := [some (.ref 201)]) (st' := [.int 0, .ref 201]) 2 rfl ?_
  refine l1_putI hQ mt_X12_check rfl (o := 201) (ci := 11) (k := 0) (a := 0) rfl rfl rfl rfl rfl rfl (fun c1 => ?_)
  refine l1_many mt_X12_check (pc' := 9) (L' := [some (.ref 201), some (.int (-1)), some (.int 0)]) (st' := []) 4 rfl ?_
  exact ok_X12_check_9 hQ N N c1 (-1) 0
theorem ok_X12_check {Q : hS → am_H → Prop} (hQ : l1_em km Q) (N : Nat) (c : hS) : l1_T wI Q am_i_X12_check [.ref 201] c (f_X12_check N c) := l1_of (en_X12_check hQ N c) ⟨rfl, trivial⟩
set_option maxRecDepth 100000 in
theorem en_X12_putBit {Q : hS → am_H → Prop} (hQ : l1_em km Q) (c : hS) (p1 : Int32) : l1_G (wN wV) Q am_i_X12_putBit 0 [some (.ref 201), some (.int p1)] [] c (f_X12_putBit c p1) := by
  rw [f_X12_putBit]
  refine l1_many mt_X12_putBit (pc' := 2) (L' := [some (.ref 201), some (.int p1)]) (st' := [.ref 201, .ref 201]) 2 rfl ?_
  refine l1_getI hQ mt_X12_putBit rfl (o := 201) (ci := 11) (k := 33) (a := 0) (b := 0) rfl rfl rfl rfl rfl ?_
  refine l1_many mt_X12_putBit (pc' := 7) (L' := [some (.ref 201), some (.int p1)]) (st' := [.ref 201, .int p1, .int (c.1 201 33), .ref 201]) 2 rfl ?_
  refine l1_getI hQ mt_X12_putBit rfl (o := 201) (ci := 11) (k := 34) (a := 0) (b := 0) rfl rfl rfl rfl rfl ?_
  refine l1_many mt_X12_putBit (pc' := 12) (L' := [some (.ref 201), some (.int p1)]) (st' := [.int ((c.1 201 33) ||| (j_shl p1 (c.1 201 34))), .ref 201]) 2 rfl ?_
  refine l1_putI hQ mt_X12_putBit rfl (o := 201) (ci := 11) (k := 33) (a := 0) rfl rfl rfl rfl rfl rfl (fun c1 => ?_)
  refine l1_many mt_X12_putBit (pc' := 17) (L' := [some (.ref 201), some (.int p1)]) (st' := [.ref 201, .ref 201]) 2 rfl ?_
  refine l1_getI hQ mt_X12_putBit rfl (o := 201) (ci := 11) (k := 34) (a := 0) (b := 0) rfl rfl rfl rfl rfl ?_
  refine l1_many mt_X12_putBit (pc' := 22) (L' := [some (.ref 201), some (.int p1)]) (st' := [.int ((c1.1 201 34) + 1), .ref 201]) 2 rfl ?_
  refine l1_putI hQ mt_X12_putBit rfl (o := 201) (ci := 11) (k := 34) (a := 0) rfl rfl rfl rfl rfl rfl (fun c2 => ?_)
  refine l1_many mt_X12_putBit (pc' := 26) (L' := [some (.ref 201), some (.int p1)]) (st' := [.ref 201]) 1 rfl ?_
  refine l1_getI hQ mt_X12_putBit rfl (o := 201) (ci := 11) (k := 34) (a := 0) (b := 0) rfl rfl rfl rfl rfl ?_
  refine l1_many mt_X12_putBit (pc' := bif am_cc .ne (c2.1 201 34) 8 then 52 else 34) (L' := [some (.ref 201), some (.int p1)]) (st' := []) 2 rfl ?_
  refine l1_bin rfl ?_ ?_
  · refine l1_many mt_X12_putBit (pc' := 36) (L' := [some (.ref 201), some (.int p1)]) (st' := [.ref 201, .ref 201]) 2 rfl ?_
    refine l1_getI hQ mt_X12_putBit rfl (o := 201) (ci := 11) (k := 33) (a := 0) (b := 0) rfl rfl rfl rfl rfl ?_
    refine l1_callV hQ mt_X12_putBit mt_X12_put rfl rfl (o := 201) (ci := 11) (As := [.int (c2.1 201 33)]) (rest := []) rfl rfl rfl rfl rfl rfl (st1 := fun _ => []) (fun _ => rfl) (ok_X12_put hQ c2 (c2.1 201 33)) (fun _ c3 => ?_)
    refine l1_many mt_X12_putBit (pc' := 44) (L' := [some (.ref 201), some (.int p1)]) (st' := [.int 0, .ref 201]) 2 rfl ?_
    refine l1_putI hQ mt_X12_putBit rfl (o := 201) (ci := 11) (k := 33) (a := 0) rfl rfl rfl rfl rfl rfl (fun c4 => ?_)
    refine l1_many mt_X12_putBit (pc' := 49) (L' := [some (.ref 201), some (.int p1)]) (st' := [.int 0, .ref 201]) 2 rfl ?_
    refine l1_putI hQ mt_X12_putBit rfl (o := 201) (ci := 11) (k := 34) (a := 0) rfl rfl rfl rfl rfl rfl (fun c5 => ?_)
    exact l1_ret mt_X12_putBit rfl rfl rfl
  · exact l1_ret mt_X12_putBit rfl rfl rfl
theorem ok_X12_putBit {Q : hS → am_H → Prop} (hQ : l1_em km Q) (c : hS) (p1 : Int32) : l1_T wV Q am_i_X12_putBit [.ref 201, .int p1] c (f_X12_putBit c p1) := l1_of (en_X12_putBit hQ c p1) ⟨rfl, rfl, trivial⟩
set_option maxRecDepth 100000 in
theorem ok_X12_putBits_2 {Q : hS → am_H → Prop} (hQ : l1_em km Q) (N : Nat) (p1 : Int32) (p2 : Int32) : ∀ n : Nat, ∀ (c : hS) (v3 : Int32), l1_G (wN wV) Q am_i_X12_putBits 2 [some (.ref 201), some (.int p1), some (.int p2), some (.int v3)] [] c (f_X12_putBits_2 N p1 p2 n c v3) := by
  intro n
  induction n with
  | zero => intro c v3; exact l1_none
  | succ n ih =>
    intro c v3
    rw [f_X12_putBits_2]
    refine l1_many mt_X12_putBits (pc' := bif am_cc .ge v3 p2 then 22 else 7) (L' := [some (.ref 201), some (.int p1), some (.int p2), some (.int v3)]) (st' := []) 3 rfl ?_
    refine l1_bif rfl ?_ ?_
    · exact l1_ret mt_X12_putBits rfl rfl rfl
    · refine l1_many mt_X12_putBits (pc' := 13) (L' := [some (.ref 201), some (.int p1), some (.int p2), some (.int v3)]) (st' := [.int ((j_shr p1 v3) &&& 1), .ref 201]) 6 rfl ?_
      refine l1_callV hQ mt_X12_putBits mt_X12_putBit rfl rfl (o := 201) (ci := 11) (As := [.int ((j_shr p1 v3) &&& 1)]) (rest := []) rfl rfl rfl rfl rfl rfl (st1 := fun _ => []) (fun _ => rfl) (ok_X12_putBit hQ c ((j_shr p1 v3) &&& 1)) (fun _ c1 => ?_)
      refine l1_many mt_X12_putBits (pc' := 2) (L' := [some (.ref 201), some (.int p1), some (.int p2), some (.int (v3 + 1))]) (st' := []) 2 rfl ?_
      exact ih c1 (v3 + 1)
set_option maxRecDepth 100000 in
theorem en_X12_putBits {Q : hS → am_H → Prop} (hQ : l1_em km Q) (N : Nat) (c : hS) (p1 : Int32) (p2 : Int32) : l1_G (wN wV) Q am_i_X12_putBits 0 [some (.ref 201), some (.int p1), some (.int p2)] [] c (f_X12_putBits N c p1 p2) := by
  rw [f_X12_putBits]
  refine l1_many mt_X12_putBits (pc' := 2) (L' := [some (.ref 201), some (.int p1), some (.int p2), some (.int 0)]) (st' := []) 2 rfl ?_
  exact ok_X12_putBits_2 hQ N p1 p2 N c 0
theorem ok_X12_putBits {Q : hS → am_H → Prop} (hQ : l1_em km Q) (N : Nat) (c : hS) (p1 : Int32) (p2 : Int32) : l1_T wV Q am_i_X12_putBits [.ref 201, .int p1, .int p2] c (f_X12_putBits N c p1 p2) := l1_of (en_X12_putBits hQ N c p1 p2) ⟨rfl, rfl, rfl, trivial⟩
set_option maxRecDepth 100000 in
theorem ok_X12_putCode_9 {Q : hS → am_H → Prop} (hQ : l1_em km Q) (N : Nat) (p1 : Int32) : ∀ n : Nat, ∀ (c : hS) (v2 : Int32), l1_G (wN wV) Q am_i_X12_putCode 9 [some (.ref 201), some (.int p1), some (.int v2)] [] c (f_X12_putCode_9 N p1 n c v2) := by
  intro n
  induction n with
  | zero => intro c v2; exact l1_none
  | succ n ih =>
    intro c v2
    rw [f_X12_putCode_9]
    refine l1_many mt_X12_putCode (pc' := bif am_cc .lt v2 0 then 33 else 13) (L' := [some (.ref 201), some (.int p1), some (.int v2)]) (st' := []) 2 rfl ?_
    refine l1_bif rfl ?_ ?_
    · exact l1_ret mt_X12_putCode rfl rfl rfl
    · refine l1_many mt_X12_putCode (pc' := 15) (L' := [some (.ref 201), some (.int p1), some (.int v2)]) (st' := [.ref 201, .ref 201]) 2 rfl ?_
      refine l1_getR hQ mt_X12_putCode rfl (o := 201) (ci := 11) (k := 28) (a := 0) (b := 0) rfl rfl rfl rfl rfl (q := 213) rfl ?_
      refine l1_many mt_X12_putCode (pc' := 19) (L' := [some (.ref 201), some (.int p1), some (.int v2)]) (st' := [.int p1, .ref 213, .ref 201]) 1 rfl ?_
      refine l1_ck (fun hx => ?_)
      refine l1_ald hQ mt_X12_putCode rfl (o := 213) rfl hx ?_
      refine l1_many mt_X12_putCode (pc' := 24) (L' := [some (.ref 201), some (.int p1), some (.int v2)]) (st' := [.int ((j_shr (c.1 213 p1.toNatClampNeg) v2) &&& 1), .ref 201]) 4 rfl ?_
      refine l1_callV hQ mt_X12_putCode mt_X12_putBit rfl rfl (o := 201) (ci := 11) (As := [.int ((j_shr (c.1 213 p1.toNatClampNeg) v2) &&& 1)]) (rest := []) rfl rfl rfl rfl rfl rfl (st1 := fun _ => []) (fun _ => rfl) (ok_X12_putBit hQ c ((j_shr (c.1 213 p1.toNatClampNeg) v2) &&& 1)) (fun _ c1 => ?_)
      refine l1_many mt_X12_putCode (pc' := 9) (L' := [some (.ref 201), some (.int p1), some (.int (v2 + (-1)))]) (st' := []) 2 rfl ?_
      exact ih c1 (v2 + (-1))
set_option maxRecDepth 100000 in
theorem en_X12_putCode {Q : hS → am_H → Prop} (hQ : l1_em km Q) (N : Nat) (c : hS) (p1 : Int32) : l1_G (wN wV) Q am_i_X12_putCode 0 [some (.ref 201), some (.int p1)] [] c (f_X12_putCode N c p1) := by
  rw [f_X12_putCode]
  refine l1_many mt_X12_putCode (pc' := 1) (L' := [some (.ref 201), some (.int p1)]) (st' := [.ref 201]) 1 rfl ?_
  refine l1_getR hQ mt_X12_putCode rfl (o := 201) (ci := 11) (k := 27) (a := 0) (b := 0) rfl rfl rfl rfl rfl (q := 212) rfl ?_
  refine l1_many mt_X12_putCode (pc' := 5) (L' := [some (.ref 201), some (.int p1)]) (st' := [.int p1, .ref 212]) 1 rfl ?_
  refine l1_ck (fun hx => ?_)
  refine l1_ald hQ mt_X12_putCode rfl (o := 212) rfl hx ?_
  refine l1_many mt_X12_putCode (pc' := 9) (L' := [some (.ref 201), some (.int p1), some (.int ((c.1 212 p1.toNatClampNeg) - 1))]) (st' := []) 3 rfl ?_
  exact ok_X12_putCode_9 hQ N p1 N c ((c.1 212 p1.toNatClampNeg) - 1)
theorem ok_X12_putCode {Q : hS → am_H → Prop} (hQ : l1_em km Q) (N : Nat) (c : hS) (p1 : Int32) : l1_T wV Q am_i_X12_putCode [.ref 201, .int p1] c (f_X12_putCode N c p1) := l1_of (en_X12_putCode hQ N c p1) ⟨rfl, rfl, trivial⟩
set_option maxRecDepth 100000 in
theorem ok_X12_match_59 {Q : hS → am_H → Prop} (hQ : l1_em km Q) (N : Nat) (p1 : Int32) {k6 : hS → Int32 → Int32 → Option (Int32 × hS)} (hk6 : ∀ c v2 v3, l1_G (wN wI) Q am_i_X12_match 6 [some (.ref 201), some (.int p1), some (.int v2), some (.int v3)] [] c (k6 c v2 v3)) : ∀ (c : hS) (v2 : Int32) (v3 : Int32) (v4 : Int32), l1_G (wN wI) Q am_i_X12_match 59 [some (.ref 201), some (.int p1), some (.int v2), some (.int v3), some (.int v4)] [] c (f_X12_match_59 N p1 k6 c v2 v3 v4) := by
  intro c v2 v3 v4
  rw [f_X12_match_59]
  refine l1_many mt_X12_match (pc' := bif am_cc .le v4 v2 then 75 else 65) (L' := [some (.ref 201), some (.int p1), some (.int v2), some (.int v3), some (.int v4)]) (st' := []) 3 rfl ?_
  refine l1_bif rfl ?_ ?_
  · refine l1_many mt_X12_match (pc' := 6) (L' := [some (.ref 201), some (.int p1), some (.int v2), some (.int (v3 + (-1))), some (.int v4)]) (st' := []) 2 rfl ?_
    refine l1_weak (m := [true, true, true, true, false]) (L' := [some (.ref 201), some (.int p1), some (.int v2), some (.int (v3 + (-1)))]) rfl ?_
    exact hk6 c v2 (v3 + (-1))
  · refine l1_many mt_X12_match (pc' := 72) (L' := [some (.ref 201), some (.int p1), some (.int v4), some (.int v3), some (.int v4)]) (st' := [.int (p1 - v3), .ref 201]) 6 rfl ?_
    refine l1_putI hQ mt_X12_match rfl (o := 201) (ci := 11) (k := 35) (a := 0) rfl rfl rfl rfl rfl rfl (fun c1 => ?_)
    refine l1_many mt_X12_match (pc' := 6) (L' := [some (.ref 201), some (.int p1), some (.int v4), some (.int (v3 + (-1))), some (.int v4)]) (st' := []) 2 rfl ?_
    refine l1_weak (m := [true, true, true, true, false]) (L' := [some (.ref 201), some (.int p1), some (.int v4), some (.int (v3 + (-1)))]) rfl ?_
    exact hk6 c1 v4 (v3 + (-1))
set_option maxRecDepth 100000 in
theorem ok_X12_match_13 {Q : hS → am_H → Prop} (hQ : l1_em km Q) (N : Nat) (p1 : Int32) {k6 : hS → Int32 → Int32 → Option (Int32 × hS)} (hk6 : ∀ c v2 v3, l1_G (wN wI) Q am_i_X12_match 6 [some (.ref 201), some (.int p1), some (.int v2), some (.int v3)] [] c (k6 c v2 v3)) : ∀ n : Nat, ∀ (c : hS) (v2 : Int32) (v3 : Int32) (v4 : Int32), l1_G (wN wI) Q am_i_X12_match 13 [some (.ref 201), some (.int p1), some (.int v2), some (.int v3), some (.int v4)] [] c (f_X12_match_13 N p1 k6 n c v2 v3 v4) := by
  intro n
  induction n with
  | zero => intro c v2 v3 v4; exact l1_none
  | succ n ih =>
    intro c v2 v3 v4
    rw [f_X12_match_13]
    refine l1_many mt_X12_match (pc' := bif am_cc .ge v4 258 then 59 else 21) (L' := [some (.ref 201), some (.int p1), some (.int v2), some (.int v3), some (.int v4)]) (st' := []) 3 rfl ?_
    refine l1_bif rfl ?_ ?_
    · exact ok_X12_match_59 hQ N p1 hk6 c v2 v3 v4
    · refine l1_many mt_X12_match (pc' := 26) (L' := [some (.ref 201), some (.int p1), some (.int v2), some (.int v3), some (.int v4)]) (st' := [.ref 201, .int (p1 + v4)]) 4 rfl ?_
      refine l1_getI hQ mt_X12_match rfl (o := 201) (ci := 11) (k := 32) (a := 0) (b := 0) rfl rfl rfl rfl rfl ?_
      refine l1_many mt_X12_match (pc' := bif am_cc .ge (p1 + v4) (c.1 201 32) then 59 else 32) (L' := [some (.ref 201), some (.int p1), some (.int v2), some (.int v3), some (.int v4)]) (st' := []) 1 rfl ?_
      refine l1_bif rfl ?_ ?_
      · exact ok_X12_match_59 hQ N p1 hk6 c v2 v3 v4
      · refine l1_many mt_X12_match (pc' := 33) (L' := [some (.ref 201), some (.int p1), some (.int v2), some (.int v3), some (.int v4)]) (st' := [.ref 201]) 1 rfl ?_
        refine l1_getR hQ mt_X12_match rfl (o := 201) (ci := 11) (k := 31) (a := 0) (b := 0) rfl rfl rfl rfl rfl (q := 215) rfl ?_
        refine l1_many mt_X12_match (pc' := 40) (L' := [some (.ref 201), some (.int p1), some (.int v2), some (.int v3), some (.int v4)]) (st' := [.int (v3 + v4), .ref 215]) 3 rfl ?_
        refine l1_ck (fun hx => ?_)
        refine l1_ald hQ mt_X12_match rfl (o := 215) rfl hx ?_
        refine l1_many mt_X12_match (pc' := 42) (L' := [some (.ref 201), some (.int p1), some (.int v2), some (.int v3), some (.int v4)]) (st' := [.ref 201, .int (c.1 215 (v3 + v4).toNatClampNeg)]) 1 rfl ?_
        refine l1_getR hQ mt_X12_match rfl (o := 201) (ci := 11) (k := 31) (a := 0) (b := 0) rfl rfl rfl rfl rfl (q := 215) rfl ?_
        refine l1_many mt_X12_match (pc' := 49) (L' := [some (.ref 201), some (.int p1), some (.int v2), some (.int v3), some (.int v4)]) (st' := [.int (p1 + v4), .ref 215, .int (c.1 215 (v3 + v4).toNatClampNeg)]) 3 rfl ?_
        refine l1_ck (fun hx => ?_)
        refine l1_ald hQ mt_X12_match rfl (o := 215) rfl hx ?_
        refine l1_many mt_X12_match (pc' := bif am_cc .ne (c.1 215 (v3 + v4).toNatClampNeg) (c.1 215 (p1 + v4).toNatClampNeg) then 59 else 53) (L' := [some (.ref 201), some (.int p1), some (.int v2), some (.int v3), some (.int v4)]) (st' := []) 1 rfl ?_
        refine l1_bin rfl ?_ ?_
        · refine l1_many mt_X12_match (pc' := 13) (L' := [some (.ref 201), some (.int p1), some (.int v2), some (.int v3), some (.int (v4 + 1))]) (st' := []) 2 rfl ?_
          exact ih c v2 v3 (v4 + 1)
        · exact ok_X12_match_59 hQ N p1 hk6 c v2 v3 v4
set_option maxRecDepth 100000 in
theorem ok_X12_match_6 {Q : hS → am_H → Prop} (hQ : l1_em km Q) (N : Nat) (p1 : Int32) : ∀ n : Nat, ∀ (c : hS) (v2 : Int32) (v3 : Int32), l1_G (wN wI) Q am_i_X12_match 6 [some (.ref 201), some (.int p1), some (.int v2), some (.int v3)] [] c (f_X12_match_6 N p1 n c v2 v3) := by
  intro n
  induction n with
  | zero => intro c v2 v3; exact l1_none
  | succ n ih =>
    intro c v2 v3
    rw [f_X12_match_6]
    refine l1_many mt_X12_match (pc' := bif am_cc .lt v3 0 then 81 else 10) (L' := [some (.ref 201), some (.int p1), some (.int v2), some (.int v3)]) (st' := []) 2 rfl ?_
    refine l1_bif rfl ?_ ?_
    · refine l1_many mt_X12_match (pc' := 82) (L' := [some (.ref 201), some (.int p1), some (.int v2), some (.int v3)]) (st' := [.int v2]) 1 rfl ?_
      exact l1_ret mt_X12_match rfl rfl rfl
    · refine l1_many mt_X12_match (pc' := 13) (L' := [some (.ref 201), some (.int p1), some (.int v2), some (.int v3), some (.int 0)]) (st' := []) 2 rfl ?_
      exact ok_X12_match_13 hQ N p1 ih N c v2 v3 0
set_option maxRecDepth 100000 in
theorem en_X12_match {Q : hS → am_H → Prop} (hQ : l1_em km Q) (N : Nat) (c : hS) (p1 : Int32) : l1_G (wN wI) Q am_i_X12_match 0 [some (.ref 201), some (.int p1)] [] c (f_X12_match N c p1) := by
  rw [f_X12_match]
  refine l1_many mt_X12_match (pc' := 6) (L' := [some (.ref 201), some (.int p1), some (.int 0), some (.int (p1 - 1))]) (st' := []) 6 rfl ?_
  exact ok_X12_match_6 hQ N p1 N c 0 (p1 - 1)
theorem ok_X12_match {Q : hS → am_H → Prop} (hQ : l1_em km Q) (N : Nat) (c : hS) (p1 : Int32) : l1_T wI Q am_i_X12_match [.ref 201, .int p1] c (f_X12_match N c p1) := l1_of (en_X12_match hQ N c p1) ⟨rfl, rfl, trivial⟩
set_option maxRecDepth 100000 in
theorem ok_X12_putMatch_50 {Q : hS → am_H → Prop} (hQ : l1_em km Q) (N : Nat) (p1 : Int32) (p2 : Int32) : ∀ n : Nat, ∀ (c : hS) (v5 : Int32), l1_G (wN wV) Q am_i_X12_putMatch 50 [some (.ref 201), none, some (.int p2), none, none, some (.int v5)] [] c (f_X12_putMatch_50 N p1 p2 n c v5) := by
  intro n
  induction n with
  | zero => intro c v5; exact l1_none
  | succ n ih =>
    intro c v5
    rw [f_X12_putMatch_50]
    refine l1_many mt_X12_putMatch (pc' := 53) (L' := [some (.ref 201), none, some (.int p2), none, none, some (.int v5)]) (st' := [.int v5, .ref 201]) 2 rfl ?_
    refine l1_callV hQ mt_X12_putMatch mt_X12_distanceOf rfl rfl (o := 201) (ci := 11) (As := [.int v5]) (rest := []) rfl rfl rfl rfl rfl rfl (st1 := fun x1 => [.int x1]) (fun _ => rfl) (ok_X12_distanceOf hQ c v5) (fun x1 c2 => ?_)
    refine l1_many mt_X12_putMatch (pc' := bif am_cc .le x1 p2 then 66 else 60) (L' := [some (.ref 201), none, some (.int p2), none, none, some (.int v5)]) (st' := []) 2 rfl ?_
    refine l1_bif rfl ?_ ?_
    · refine l1_many mt_X12_putMatch (pc' := 69) (L' := [some (.ref 201), none, some (.int p2), none, none, some (.int v5)]) (st' := [.int v5, .ref 201]) 2 rfl ?_
      refine l1_callV hQ mt_X12_putMatch mt_X12_distanceOf rfl rfl (o := 201) (ci := 11) (As := [.int v5]) (rest := []) rfl rfl rfl rfl rfl rfl (st1 := fun x3 => [.int x3]) (fun _ => rfl) (ok_X12_distanceOf hQ c2 v5) (fun x3 c4 => ?_)
      refine l1_many mt_X12_putMatch (pc' := 81) (L' := [some (.ref 201), none, some (.int p2), none, some (.int x3), some (.int v5)]) (st' := [.int (300 + v5), .ref 201]) 5 rfl ?_
      refine l1_callV hQ mt_X12_putMatch mt_X12_putCode rfl rfl (o := 201) (ci := 11) (As := [.int (300 + v5)]) (rest := []) rfl rfl rfl rfl rfl rfl (st1 := fun _ => []) (fun _ => rfl) (ok_X12_putCode hQ N c4 (300 + v5)) (fun _ c5 => ?_)
      refine l1_many mt_X12_putMatch (pc' := 90) (L' := [some (.ref 201), none, some (.int p2), none, some (.int x3), some (.int v5)]) (st' := [.ref 201, .int (p2 - x3), .ref 201]) 5 rfl ?_
      refine l1_getI hQ mt_X12_putMatch rfl (o := 201) (ci := 11) (k := 30) (a := 0) (b := 0) rfl rfl rfl rfl rfl ?_
      refine l1_callV hQ mt_X12_putMatch mt_X12_putBits rfl rfl (o := 201) (ci := 11) (As := [.int (p2 - x3), .int (c5.1 201 30)]) (rest := []) rfl rfl rfl rfl rfl rfl (st1 := fun _ => []) (fun _ => rfl) (ok_X12_putBits hQ N c5 (p2 - x3) (c5.1 201 30)) (fun _ c6 => ?_)
      exact l1_ret mt_X12_putMatch rfl rfl rfl
    · refine l1_many mt_X12_putMatch (pc' := 50) (L' := [some (.ref 201), none, some (.int p2), none, none, some (.int (v5 + (-1)))]) (st' := []) 2 rfl ?_
      exact ih c2 (v5 + (-1))
set_option maxRecDepth 100000 in
theorem ok_X12_putMatch_3 {Q : hS → am_H → Prop} (hQ : l1_em km Q) (N : Nat) (p1 : Int32) (p2 : Int32) : ∀ n : Nat, ∀ (c : hS) (v3 : Int32), l1_G (wN wV) Q am_i_X12_putMatch 3 [some (.ref 201), some (.int p1), some (.int p2), some (.int v3)] [] c (f_X12_putMatch_3 N p1 p2 n c v3) := by
  intro n
  induction n with
  | zero => intro c v3; exact l1_none
  | succ n ih =>
    intro c v3
    rw [f_X12_putMatch_3]
    refine l1_many mt_X12_putMatch (pc' := 5) (L' := [some (.ref 201), some (.int p1), some (.int p2), some (.int v3)]) (st' := [.int v3, .ref 201]) 2 rfl ?_
    refine l1_callV hQ mt_X12_putMatch mt_X12_lengthOf rfl rfl (o := 201) (ci := 11) (As := [.int v3]) (rest := []) rfl rfl rfl rfl rfl rfl (st1 := fun x1 => [.int x1]) (fun _ => rfl) (ok_X12_lengthOf hQ c v3) (fun x1 c2 => ?_)
    refine l1_many mt_X12_putMatch (pc' := bif am_cc .le x1 p1 then 18 else 12) (L' := [some (.ref 201), some (.int p1), some (.int p2), some (.int v3)]) (st' := []) 2 rfl ?_
    refine l1_bif rfl ?_ ?_
    · refine l1_many mt_X12_putMatch (pc' := 20) (L' := [some (.ref 201), some (.int p1), some (.int p2), some (.int v3)]) (st' := [.int v3, .ref 201]) 2 rfl ?_
      refine l1_callV hQ mt_X12_putMatch mt_X12_lengthOf rfl rfl (o := 201) (ci := 11) (As := [.int v3]) (rest := []) rfl rfl rfl rfl rfl rfl (st1 := fun x3 => [.int x3]) (fun _ => rfl) (ok_X12_lengthOf hQ c2 v3) (fun x3 c4 => ?_)
      refine l1_many mt_X12_putMatch (pc' := 31) (L' := [some (.ref 201), some (.int p1), some (.int p2), some (.int v3), some (.int x3)]) (st' := [.int (257 + v3), .ref 201]) 5 rfl ?_
      refine l1_callV hQ mt_X12_putMatch mt_X12_putCode rfl rfl (o := 201) (ci := 11) (As := [.int (257 + v3)]) (rest := []) rfl rfl rfl rfl rfl rfl (st1 := fun _ => []) (fun _ => rfl) (ok_X12_putCode hQ N c4 (257 + v3)) (fun _ c5 => ?_)
      refine l1_many mt_X12_putMatch (pc' := 40) (L' := [some (.ref 201), some (.int p1), some (.int p2), some (.int v3), some (.int x3)]) (st' := [.ref 201, .int (p1 - x3), .ref 201]) 5 rfl ?_
      refine l1_getI hQ mt_X12_putMatch rfl (o := 201) (ci := 11) (k := 30) (a := 0) (b := 0) rfl rfl rfl rfl rfl ?_
      refine l1_callV hQ mt_X12_putMatch mt_X12_putBits rfl rfl (o := 201) (ci := 11) (As := [.int (p1 - x3), .int (c5.1 201 30)]) (rest := []) rfl rfl rfl rfl rfl rfl (st1 := fun _ => []) (fun _ => rfl) (ok_X12_putBits hQ N c5 (p1 - x3) (c5.1 201 30)) (fun _ c6 => ?_)
      refine l1_many mt_X12_putMatch (pc' := 50) (L' := [some (.ref 201), some (.int p1), some (.int p2), some (.int v3), some (.int x3), some (.int 29)]) (st' := []) 2 rfl ?_
      refine l1_weak (m := [true, false, true, false, false, true]) (L' := [some (.ref 201), none, some (.int p2), none, none, some (.int 29)]) rfl ?_
      exact ok_X12_putMatch_50 hQ N p1 p2 N c6 29
    · refine l1_many mt_X12_putMatch (pc' := 3) (L' := [some (.ref 201), some (.int p1), some (.int p2), some (.int (v3 + (-1)))]) (st' := []) 2 rfl ?_
      exact ih c2 (v3 + (-1))
set_option maxRecDepth 100000 in
theorem en_X12_putMatch {Q : hS → am_H → Prop} (hQ : l1_em km Q) (N : Nat) (c : hS) (p1 : Int32) (p2 : Int32) : l1_G (wN wV) Q am_i_X12_putMatch 0 [some (.ref 201), some (.int p1), some (.int p2)] [] c (f_X12_putMatch N c p1 p2) := by
  rw [f_X12_putMatch]
  refine l1_many mt_X12_putMatch (pc' := 3) (L' := [some (.ref 201), some (.int p1), some (.int p2), some (.int 28)]) (st' := []) 2 rfl ?_
  exact ok_X12_putMatch_3 hQ N p1 p2 N c 28
theorem ok_X12_putMatch {Q : hS → am_H → Prop} (hQ : l1_em km Q) (N : Nat) (c : hS) (p1 : Int32) (p2 : Int32) : l1_T wV Q am_i_X12_putMatch [.ref 201, .int p1, .int p2] c (f_X12_putMatch N c p1 p2) := l1_of (en_X12_putMatch hQ N c p1 p2) ⟨rfl, rfl, rfl, trivial⟩
set_option maxRecDepth 100000 in
theorem ok_X12_putPacked_22 {Q : hS → am_H → Prop} (hQ : l1_em km Q) (N : Nat) : ∀ n : Nat, ∀ (c : hS) (v1 : Int32), l1_G (wN wV) Q am_i_X12_putPacked 22 [some (.ref 201), some (.int v1)] [] c (f_X12_putPacked_22 N n c v1) := by
  intro n
  induction n with
  | zero => intro c v1; exact l1_none
  | succ n ih =>
    intro c v1
    rw [f_X12_putPacked_22]
    refine l1_many mt_X12_putPacked (pc' := 24) (L' := [some (.ref 201), some (.int v1)]) (st' := [.ref 201, .int v1]) 2 rfl ?_
    refine l1_getI hQ mt_X12_putPacked rfl (o := 201) (ci := 11) (k := 32) (a := 0) (b := 0) rfl rfl rfl rfl rfl ?_
    refine l1_many mt_X12_putPacked (pc' := bif am_cc .ge v1 (c.1 201 32) then 73 else 30) (L' := [some (.ref 201), some (.int v1)]) (st' := []) 1 rfl ?_
    refine l1_bif rfl ?_ ?_
    · refine l1_many mt_X12_putPacked (pc' := 77) (L' := [some (.ref 201), some (.int v1)]) (st' := [.int 256, .ref 201]) 2 rfl ?_
      refine l1_callV hQ mt_X12_putPacked mt_X12_putCode rfl rfl (o := 201) (ci := 11) (As := [.int 256]) (rest := []) rfl rfl rfl rfl rfl rfl (st1 := fun _ => []) (fun _ => rfl) (ok_X12_putCode hQ N c 256) (fun _ c1 => ?_)
      refine l1_many mt_X12_putPacked (pc' := 81) (L' := [some (.ref 201), some (.int v1)]) (st' := [.ref 201]) 1 rfl ?_
      refine l1_getI hQ mt_X12_putPacked rfl (o := 201) (ci := 11) (k := 34) (a := 0) (b := 0) rfl rfl rfl rfl rfl ?_
      refine l1_many mt_X12_putPacked (pc' := bif am_cc .le (c1.1 201 34) 0 then 95 else 87) (L' := [some (.ref 201), some (.int v1)]) (st' := []) 1 rfl ?_
      refine l1_bif rfl ?_ ?_
      · exact l1_ret mt_X12_putPacked rfl rfl rfl
      · refine l1_many mt_X12_putPacked (pc' := 89) (L' := [some (.ref 201), some (.int v1)]) (st' := [.ref 201, .ref 201]) 2 rfl ?_
        refine l1_getI hQ mt_X12_putPacked rfl (o := 201) (ci := 11) (k := 33) (a := 0) (b := 0) rfl rfl rfl rfl rfl ?_
        refine l1_callV hQ mt_X12_putPacked mt_X12_put rfl rfl (o := 201) (ci := 11) (As := [.int (c1.1 201 33)]) (rest := []) rfl rfl rfl rfl rfl rfl (st1 := fun _ => []) (fun _ => rfl) (ok_X12_put hQ c1 (c1.1 201 33)) (fun _ c2 => ?_)
        exact l1_ret mt_X12_putPacked rfl rfl rfl
    · refine l1_many mt_X12_putPacked (pc' := 32) (L' := [some (.ref 201), some (.int v1)]) (st' := [.int v1, .ref 201]) 2 rfl ?_
      refine l1_callV hQ mt_X12_putPacked mt_X12_match rfl rfl (o := 201) (ci := 11) (As := [.int v1]) (rest := []) rfl rfl rfl rfl rfl rfl (st1 := fun x3 => [.int x3]) (fun _ => rfl) (ok_X12_match hQ N c v1) (fun x3 c4 => ?_)
      refine l1_many mt_X12_putPacked (pc' := bif am_cc .lt x3 3 then 57 else 41) (L' := [some (.ref 201), some (.int v1), some (.int x3)]) (st' := []) 4 rfl ?_
      refine l1_bif rfl ?_ ?_
      · refine l1_many mt_X12_putPacked (pc' := 59) (L' := [some (.ref 201), some (.int v1), some (.int x3)]) (st' := [.ref 201, .ref 201]) 2 rfl ?_
        refine l1_getR hQ mt_X12_putPacked rfl (o := 201) (ci := 11) (k := 31) (a := 0) (b := 0) rfl rfl rfl rfl rfl (q := 215) rfl ?_
        refine l1_many mt_X12_putPacked (pc' := 63) (L' := [some (.ref 201), some (.int v1), some (.int x3)]) (st' := [.int v1, .ref 215, .ref 201]) 1 rfl ?_
        refine l1_ck (fun hx => ?_)
        refine l1_ald hQ mt_X12_putPacked rfl (o := 215) rfl hx ?_
        refine l1_callV hQ mt_X12_putPacked mt_X12_putCode rfl rfl (o := 201) (ci := 11) (As := [.int (c4.1 215 v1.toNatClampNeg)]) (rest := []) rfl rfl rfl rfl rfl rfl (st1 := fun _ => []) (fun _ => rfl) (ok_X12_putCode hQ N c4 (c4.1 215 v1.toNatClampNeg)) (fun _ c5 => ?_)
        refine l1_many mt_X12_putPacked (pc' := 22) (L' := [some (.ref 201), some (.int (v1 + 1)), some (.int x3)]) (st' := []) 2 rfl ?_
        refine l1_weak (m := [true, true, false]) (L' := [some (.ref 201), some (.int (v1 + 1))]) rfl ?_
        exact ih c5 (v1 + 1)
      · refine l1_many mt_X12_putPacked (pc' := 44) (L' := [some (.ref 201), some (.int v1), some (.int x3)]) (st' := [.ref 201, .int x3, .ref 201]) 3 rfl ?_
        refine l1_getI hQ mt_X12_putPacked rfl (o := 201) (ci := 11) (k := 35) (a := 0) (b := 0) rfl rfl rfl rfl rfl ?_
        refine l1_callV hQ mt_X12_putPacked mt_X12_putMatch rfl rfl (o := 201) (ci := 11) (As := [.int x3, .int (c4.1 201 35)]) (rest := []) rfl rfl rfl rfl rfl rfl (st1 := fun _ => []) (fun _ => rfl) (ok_X12_putMatch hQ N c4 x3 (c4.1 201 35)) (fun _ c6 => ?_)
        refine l1_many mt_X12_putPacked (pc' := 22) (L' := [some (.ref 201), some (.int (v1 + x3)), some (.int x3)]) (st' := []) 6 rfl ?_
        refine l1_weak (m := [true, true, false]) (L' := [some (.ref 201), some (.int (v1 + x3))]) rfl ?_
        exact ih c6 (v1 + x3)
set_option maxRecDepth 100000 in
theorem en_X12_putPacked {Q : hS → am_H → Prop} (hQ : l1_em km Q) (N : Nat) (c : hS) : l1_G (wN wV) Q am_i_X12_putPacked 0 [some (.ref 201)] [] c (f_X12_putPacked N c) := by
  rw [f_X12_putPacked]
  refine l1_many mt_X12_putPacked (pc' := 2) (L' := [some (.ref 201)]) (st' := [.int 0, .ref 201]) 2 rfl ?_
  refine l1_putI hQ mt_X12_putPacked rfl (o := 201) (ci := 11) (k := 33) (a := 0) rfl rfl rfl rfl rfl rfl (fun c1 => ?_)
  refine l1_many mt_X12_putPacked (pc' := 7) (L' := [some (.ref 201)]) (st' := [.int 0, .ref 201]) 2 rfl ?_
  refine l1_putI hQ mt_X12_putPacked rfl (o := 201) (ci := 11) (k := 34) (a := 0) rfl rfl rfl rfl rfl rfl (fun c2 => ?_)
  refine l1_many mt_X12_putPacked (pc' := 11) (L' := [some (.ref 201)]) (st' := [.ref 201]) 1 rfl ?_
  refine l1_callV hQ mt_X12_putPacked mt_X12_layFixed rfl rfl (o := 201) (ci := 11) (As := []) (rest := []) rfl rfl rfl rfl rfl rfl (st1 := fun _ => []) (fun _ => rfl) (ok_X12_layFixed hQ N c2) (fun _ c3 => ?_)
  refine l1_many mt_X12_putPacked (pc' := 17) (L' := [some (.ref 201)]) (st' := [.int 3, .int 3, .ref 201]) 3 rfl ?_
  refine l1_callV hQ mt_X12_putPacked mt_X12_putBits rfl rfl (o := 201) (ci := 11) (As := [.int 3, .int 3]) (rest := []) rfl rfl rfl rfl rfl rfl (st1 := fun _ => []) (fun _ => rfl) (ok_X12_putBits hQ N c3 3 3) (fun _ c4 => ?_)
  refine l1_many mt_X12_putPacked (pc' := 22) (L' := [some (.ref 201), some (.int 0)]) (st' := []) 2 rfl ?_
  exact ok_X12_putPacked_22 hQ N N c4 0
theorem ok_X12_putPacked {Q : hS → am_H → Prop} (hQ : l1_em km Q) (N : Nat) (c : hS) : l1_T wV Q am_i_X12_putPacked [.ref 201] c (f_X12_putPacked N c) := l1_of (en_X12_putPacked hQ N c) ⟨rfl, trivial⟩
set_option maxRecDepth 100000 in
theorem ok_X12_pack_15 {Q : hS → am_H → Prop} (hQ : l1_em km Q) (N : Nat) : ∀ n : Nat, ∀ (c : hS) (v1 : Int32), l1_G (wN wI) Q am_i_X12_pack 15 [some (.ref 201), some (.int v1)] [] c (f_X12_pack_15 N n c v1) := by
  intro n
  induction n with
  | zero => intro c v1; exact l1_none
  | succ n ih =>
    intro c v1
    rw [f_X12_pack_15]
    refine l1_many mt_X12_pack (pc' := 17) (L' := [some (.ref 201), some (.int v1)]) (st' := [.ref 201, .int v1]) 2 rfl ?_
    refine l1_getI hQ mt_X12_pack rfl (o := 201) (ci := 11) (k := 2) (a := 0) (b := 0) rfl rfl rfl rfl rfl ?_
    refine l1_many mt_X12_pack (pc' := bif am_cc .ge v1 (c.1 201 2) then 41 else 23) (L' := [some (.ref 201), some (.int v1)]) (st' := []) 1 rfl ?_
    refine l1_bif rfl ?_ ?_
    · refine l1_many mt_X12_pack (pc' := 43) (L' := [some (.ref 201), some (.int v1)]) (st' := [.int 0, .ref 201]) 2 rfl ?_
      refine l1_putI hQ mt_X12_pack rfl (o := 201) (ci := 11) (k := 4) (a := 0) rfl rfl rfl rfl rfl rfl (fun c1 => ?_)
      refine l1_many mt_X12_pack (pc' := 47) (L' := [some (.ref 201), some (.int v1)]) (st' := [.ref 201]) 1 rfl ?_
      refine l1_callV hQ mt_X12_pack mt_X12_putPacked rfl rfl (o := 201) (ci := 11) (As := []) (rest := []) rfl rfl rfl rfl rfl rfl (st1 := fun _ => []) (fun _ => rfl) (ok_X12_putPacked hQ N c1) (fun _ c2 => ?_)
      refine l1_many mt_X12_pack (pc' := 51) (L' := [some (.ref 201), some (.int v1)]) (st' := [.ref 201]) 1 rfl ?_
      refine l1_getI hQ mt_X12_pack rfl (o := 201) (ci := 11) (k := 4) (a := 0) (b := 0) rfl rfl rfl rfl rfl ?_
      exact l1_ret mt_X12_pack rfl rfl rfl
    · refine l1_many mt_X12_pack (pc' := 24) (L' := [some (.ref 201), some (.int v1)]) (st' := [.ref 201]) 1 rfl ?_
      refine l1_getR hQ mt_X12_pack rfl (o := 201) (ci := 11) (k := 31) (a := 0) (b := 0) rfl rfl rfl rfl rfl (q := 215) rfl ?_
      refine l1_many mt_X12_pack (pc' := 29) (L' := [some (.ref 201), some (.int v1)]) (st' := [.ref 201, .int v1, .ref 215]) 2 rfl ?_
      refine l1_getR hQ mt_X12_pack rfl (o := 201) (ci := 11) (k := 1) (a := 0) (b := 0) rfl rfl rfl rfl rfl (q := 202) rfl ?_
      refine l1_many mt_X12_pack (pc' := 33) (L' := [some (.ref 201), some (.int v1)]) (st' := [.int v1, .ref 202, .int v1, .ref 215]) 1 rfl ?_
      refine l1_ck (fun hx => ?_)
      refine l1_ald hQ mt_X12_pack rfl (o := 202) rfl hx ?_
      refine l1_ck (fun hx => ?_)
      refine l1_ast hQ mt_X12_pack rfl (o := 215) rfl hx (fun c3 => ?_)
      refine l1_many mt_X12_pack (pc' := 15) (L' := [some (.ref 201), some (.int (v1 + 1))]) (st' := []) 2 rfl ?_
      exact ih c3 (v1 + 1)
set_option maxRecDepth 100000 in
theorem en_X12_pack {Q : hS → am_H → Prop} (hQ : l1_em km Q) (N : Nat) (c : hS) : l1_G (wN wI) Q am_i_X12_pack 0 [some (.ref 201)] [] c (f_X12_pack N c) := by
  rw [f_X12_pack]
  refine l1_many mt_X12_pack (pc' := 2) (L' := [some (.ref 201)]) (st' := [.int 0, .ref 201]) 2 rfl ?_
  refine l1_putI hQ mt_X12_pack rfl (o := 201) (ci := 11) (k := 0) (a := 0) rfl rfl rfl rfl rfl rfl (fun c1 => ?_)
  refine l1_many mt_X12_pack (pc' := 7) (L' := [some (.ref 201)]) (st' := [.ref 201, .ref 201]) 2 rfl ?_
  refine l1_getI hQ mt_X12_pack rfl (o := 201) (ci := 11) (k := 2) (a := 0) (b := 0) rfl rfl rfl rfl rfl ?_
  refine l1_putI hQ mt_X12_pack rfl (o := 201) (ci := 11) (k := 32) (a := 0) rfl rfl rfl rfl rfl rfl (fun c2 => ?_)
  refine l1_many mt_X12_pack (pc' := 15) (L' := [some (.ref 201), some (.int 0)]) (st' := []) 2 rfl ?_
  exact ok_X12_pack_15 hQ N N c2 0
theorem ok_X12_pack {Q : hS → am_H → Prop} (hQ : l1_em km Q) (N : Nat) (c : hS) : l1_T wI Q am_i_X12_pack [.ref 201] c (f_X12_pack N c) := l1_of (en_X12_pack hQ N c) ⟨rfl, trivial⟩
set_option maxRecDepth 100000 in
theorem ok_X12_putZeros_0 {Q : hS → am_H → Prop} (hQ : l1_em km Q) (N : Nat) (p1 : Int32) : ∀ n : Nat, ∀ (c : hS), l1_G (wN wV) Q am_i_X12_putZeros 0 [some (.ref 201), some (.int p1)] [] c (f_X12_putZeros_0 N p1 n c) := by
  intro n
  induction n with
  | zero => intro c; exact l1_none
  | succ n ih =>
    intro c
    rw [f_X12_putZeros_0]
    refine l1_many mt_X12_putZeros (pc' := 1) (L' := [some (.ref 201), some (.int p1)]) (st' := [.ref 201]) 1 rfl ?_
    refine l1_getI hQ mt_X12_putZeros rfl (o := 201) (ci := 11) (k := 4) (a := 0) (b := 0) rfl rfl rfl rfl rfl ?_
    refine l1_many mt_X12_putZeros (pc' := bif am_cc .ge (c.1 201 4) p1 then 16 else 8) (L' := [some (.ref 201), some (.int p1)]) (st' := []) 2 rfl ?_
    refine l1_bif rfl ?_ ?_
    · exact l1_ret mt_X12_putZeros rfl rfl rfl
    · refine l1_many mt_X12_putZeros (pc' := 10) (L' := [some (.ref 201), some (.int p1)]) (st' := [.int 0, .ref 201]) 2 rfl ?_
      refine l1_callV hQ mt_X12_putZeros mt_X12_put rfl rfl (o := 201) (ci := 11) (As := [.int 0]) (rest := []) rfl rfl rfl rfl rfl rfl (st1 := fun _ => []) (fun _ => rfl) (ok_X12_put hQ c 0) (fun _ c1 => ?_)
      refine l1_many mt_X12_putZeros (pc' := 0) (L' := [some (.ref 201), some (.int p1)]) (st' := []) 1 rfl ?_
      exact ih c1
set_option maxRecDepth 100000 in
theorem en_X12_putZeros {Q : hS → am_H → Prop} (hQ : l1_em km Q) (N : Nat) (c : hS) (p1 : Int32) : l1_G (wN wV) Q am_i_X12_putZeros 0 [some (.ref 201), some (.int p1)] [] c (f_X12_putZeros N c p1) := by
  rw [f_X12_putZeros]
  exact ok_X12_putZeros_0 hQ N p1 N c
theorem ok_X12_putZeros {Q : hS → am_H → Prop} (hQ : l1_em km Q) (N : Nat) (c : hS) (p1 : Int32) : l1_T wV Q am_i_X12_putZeros [.ref 201, .int p1] c (f_X12_putZeros N c p1) := l1_of (en_X12_putZeros hQ N c p1) ⟨rfl, rfl, trivial⟩
end
section
/-! THAT THE MACHINE FOLLOWS THEM, printed by gen_l1.py -/
set_option maxRecDepth 100000 in
theorem ok_X12_putName_2 {Q : hS → am_H → Prop} (hQ : l1_em km Q) (N : Nat) (p1 : Int32) (p2 : Int32) : ∀ n : Nat, ∀ (c : hS) (v3 : Int32), l1_G (wN wV) Q am_i_X12_putName 2 [some (.ref 201), some (.int p1), some (.int p2), some (.int v3)] [] c (f_X12_putName_2 N p1 p2 n c v3) := by
  intro n
  induction n with
  | zero => intro c v3; exact l1_none
  | succ n ih =>
    intro c v3
    rw [f_X12_putName_2]
    refine l1_many mt_X12_putName (pc' := 4) (L' := [some (.ref 201), some (.int p1), some (.int p2), some (.int v3)]) (st' := [.ref 201, .int v3]) 2 rfl ?_
    refine l1_getR hQ mt_X12_putName rfl (o := 201) (ci := 11) (k := 9) (a := 0) (b := 0) rfl rfl rfl rfl rfl (q := 204) rfl ?_
    refine l1_many mt_X12_putName (pc' := 8) (L' := [some (.ref 201), some (.int p1), some (.int p2), some (.int v3)]) (st' := [.int p1, .ref 204, .int v3]) 1 rfl ?_
    refine l1_ck (fun hx => ?_)
    refine l1_ald hQ mt_X12_putName rfl (o := 204) rfl hx ?_
    refine l1_many mt_X12_putName (pc' := bif am_cc .ge v3 (c.1 204 p1.toNatClampNeg) then 28 else 12) (L' := [some (.ref 201), some (.int p1), some (.int p2), some (.int v3)]) (st' := []) 1 rfl ?_
    refine l1_bif rfl ?_ ?_
    · refine l1_many mt_X12_putName (pc' := bif am_cc .eq p2 0 then 47 else 32) (L' := [some (.ref 201), some (.int p1), some (.int p2), some (.int v3)]) (st' := []) 2 rfl ?_
      refine l1_bif rfl ?_ ?_
      · exact l1_ret mt_X12_putName rfl rfl rfl
      · refine l1_many mt_X12_putName (pc' := 33) (L' := [some (.ref 201), some (.int p1), some (.int p2), some (.int v3)]) (st' := [.ref 201]) 1 rfl ?_
        refine l1_getR hQ mt_X12_putName rfl (o := 201) (ci := 11) (k := 13) (a := 0) (b := 0) rfl rfl rfl rfl rfl (q := 208) rfl ?_
        refine l1_many mt_X12_putName (pc' := 37) (L' := [some (.ref 201), some (.int p1), some (.int p2), some (.int v3)]) (st' := [.int p1, .ref 208]) 1 rfl ?_
        refine l1_ck (fun hx => ?_)
        refine l1_bld hQ mt_X12_putName rfl (o := 208) rfl hx ?_
        refine l1_many mt_X12_putName (pc' := bif am_cc .eq (c.1 208 p1.toNatClampNeg) 0 then 47 else 41) (L' := [some (.ref 201), some (.int p1), some (.int p2), some (.int v3)]) (st' := []) 1 rfl ?_
        refine l1_bif rfl ?_ ?_
        · exact l1_ret mt_X12_putName rfl rfl rfl
        · refine l1_many mt_X12_putName (pc' := 44) (L' := [some (.ref 201), some (.int p1), some (.int p2), some (.int v3)]) (st' := [.int 47, .ref 201]) 2 rfl ?_
          refine l1_callV hQ mt_X12_putName mt_X12_put rfl rfl (o := 201) (ci := 11) (As := [.int 47]) (rest := []) rfl rfl rfl rfl rfl rfl (st1 := fun _ => []) (fun _ => rfl) (ok_X12_put hQ c 47) (fun _ c1 => ?_)
          exact l1_ret mt_X12_putName rfl rfl rfl
    · refine l1_many mt_X12_putName (pc' := 16) (L' := [some (.ref 201), some (.int p1), some (.int p2), some (.int v3)]) (st' := [.int v3, .int p1, .ref 201, .ref 201]) 4 rfl ?_
      refine l1_callV hQ mt_X12_putName mt_X12_nameAt rfl rfl (o := 201) (ci := 11) (As := [.int p1, .int v3]) (rest := [.ref 201]) rfl rfl rfl rfl rfl rfl (st1 := fun x2 => [.int x2, .ref 201]) (fun _ => rfl) (ok_X12_nameAt hQ c p1 v3) (fun x2 c3 => ?_)
      refine l1_callV hQ mt_X12_putName mt_X12_put rfl rfl (o := 201) (ci := 11) (As := [.int x2]) (rest := []) rfl rfl rfl rfl rfl rfl (st1 := fun _ => []) (fun _ => rfl) (ok_X12_put hQ c3 x2) (fun _ c4 => ?_)
      refine l1_many mt_X12_putName (pc' := 2) (L' := [some (.ref 201), some (.int p1), some (.int p2), some (.int (v3 + 1))]) (st' := []) 2 rfl ?_
      exact ih c4 (v3 + 1)
set_option maxRecDepth 100000 in
theorem en_X12_putName {Q : hS → am_H → Prop} (hQ : l1_em km Q) (N : Nat) (c : hS) (p1 : Int32) (p2 : Int32) : l1_G (wN wV) Q am_i_X12_putName 0 [some (.ref 201), some (.int p1), some (.int p2)] [] c (f_X12_putName N c p1 p2) := by
  rw [f_X12_putName]
  refine l1_many mt_X12_putName (pc' := 2) (L' := [some (.ref 201), some (.int p1), some (.int p2), some (.int 0)]) (st' := []) 2 rfl ?_
  exact ok_X12_putName_2 hQ N p1 p2 N c 0
theorem ok_X12_putName {Q : hS → am_H → Prop} (hQ : l1_em km Q) (N : Nat) (c : hS) (p1 : Int32) (p2 : Int32) : l1_T wV Q am_i_X12_putName [.ref 201, .int p1, .int p2] c (f_X12_putName N c p1 p2) := l1_of (en_X12_putName hQ N c p1 p2) ⟨rfl, rfl, rfl, trivial⟩
set_option maxRecDepth 100000 in
theorem ok_X12_putBytes_2 {Q : hS → am_H → Prop} (hQ : l1_em km Q) (N : Nat) (p1 : Int32) : ∀ n : Nat, ∀ (c : hS) (v2 : Int32), l1_G (wN wV) Q am_i_X12_putBytes 2 [some (.ref 201), some (.int p1), some (.int v2)] [] c (f_X12_putBytes_2 N p1 n c v2) := by
  intro n
  induction n with
  | zero => intro c v2; exact l1_none
  | succ n ih =>
    intro c v2
    rw [f_X12_putBytes_2]
    refine l1_many mt_X12_putBytes (pc' := 4) (L' := [some (.ref 201), some (.int p1), some (.int v2)]) (st' := [.ref 201, .int v2]) 2 rfl ?_
    refine l1_getR hQ mt_X12_putBytes rfl (o := 201) (ci := 11) (k := 11) (a := 0) (b := 0) rfl rfl rfl rfl rfl (q := 206) rfl ?_
    refine l1_many mt_X12_putBytes (pc' := 8) (L' := [some (.ref 201), some (.int p1), some (.int v2)]) (st' := [.int p1, .ref 206, .int v2]) 1 rfl ?_
    refine l1_ck (fun hx => ?_)
    refine l1_ald hQ mt_X12_putBytes rfl (o := 206) rfl hx ?_
    refine l1_many mt_X12_putBytes (pc' := bif am_cc .ge v2 (c.1 206 p1.toNatClampNeg) then 34 else 12) (L' := [some (.ref 201), some (.int p1), some (.int v2)]) (st' := []) 1 rfl ?_
    refine l1_bif rfl ?_ ?_
    · exact l1_ret mt_X12_putBytes rfl rfl rfl
    · refine l1_many mt_X12_putBytes (pc' := 14) (L' := [some (.ref 201), some (.int p1), some (.int v2)]) (st' := [.ref 201, .ref 201]) 2 rfl ?_
      refine l1_getR hQ mt_X12_putBytes rfl (o := 201) (ci := 11) (k := 12) (a := 0) (b := 0) rfl rfl rfl rfl rfl (q := 207) rfl ?_
      refine l1_many mt_X12_putBytes (pc' := 24) (L' := [some (.ref 201), some (.int p1), some (.int v2)]) (st' := [.int ((400 * p1) + v2), .ref 207, .ref 201]) 5 rfl ?_
      refine l1_ck (fun hx => ?_)
      refine l1_ald hQ mt_X12_putBytes rfl (o := 207) rfl hx ?_
      refine l1_callV hQ mt_X12_putBytes mt_X12_put rfl rfl (o := 201) (ci := 11) (As := [.int (c.1 207 ((400 * p1) + v2).toNatClampNeg)]) (rest := []) rfl rfl rfl rfl rfl rfl (st1 := fun _ => []) (fun _ => rfl) (ok_X12_put hQ c (c.1 207 ((400 * p1) + v2).toNatClampNeg)) (fun _ c1 => ?_)
      refine l1_many mt_X12_putBytes (pc' := 2) (L' := [some (.ref 201), some (.int p1), some (.int (v2 + 1))]) (st' := []) 2 rfl ?_
      exact ih c1 (v2 + 1)
set_option maxRecDepth 100000 in
theorem en_X12_putBytes {Q : hS → am_H → Prop} (hQ : l1_em km Q) (N : Nat) (c : hS) (p1 : Int32) : l1_G (wN wV) Q am_i_X12_putBytes 0 [some (.ref 201), some (.int p1)] [] c (f_X12_putBytes N c p1) := by
  rw [f_X12_putBytes]
  refine l1_many mt_X12_putBytes (pc' := 2) (L' := [some (.ref 201), some (.int p1), some (.int 0)]) (st' := []) 2 rfl ?_
  exact ok_X12_putBytes_2 hQ N p1 N c 0
theorem ok_X12_putBytes {Q : hS → am_H → Prop} (hQ : l1_em km Q) (N : Nat) (c : hS) (p1 : Int32) : l1_T wV Q am_i_X12_putBytes [.ref 201, .int p1] c (f_X12_putBytes N c p1) := l1_of (en_X12_putBytes hQ N c p1) ⟨rfl, rfl, trivial⟩
set_option maxRecDepth 100000 in
theorem ok_X12_octalAt_3 {Q : hS → am_H → Prop} (hQ : l1_em km Q) (N : Nat) (p1 : Int32) (p2 : Int32) (p3 : Int32) : ∀ n : Nat, ∀ (c : hS) (v4 : Int32), l1_G (wN wV) Q am_i_X12_octalAt 3 [some (.ref 201), some (.int p1), some (.int p2), some (.int p3), some (.int v4)] [] c (f_X12_octalAt_3 N p1 p2 p3 n c v4) := by
  intro n
  induction n with
  | zero => intro c v4; exact l1_none
  | succ n ih =>
    intro c v4
    rw [f_X12_octalAt_3]
    refine l1_many mt_X12_octalAt (pc' := bif am_cc .ge v4 p3 then 55 else 9) (L' := [some (.ref 201), some (.int p1), some (.int p2), some (.int p3), some (.int v4)]) (st' := []) 3 rfl ?_
    refine l1_bif rfl ?_ ?_
    · exact l1_ret mt_X12_octalAt rfl rfl rfl
    · refine l1_many mt_X12_octalAt (pc' := 20) (L' := [some (.ref 201), some (.int p1), some (.int p2), some (.int p3), some (.int v4), some (.int (3 * ((p3 - 1) - v4)))]) (st' := [.ref 201]) 9 rfl ?_
      refine l1_getR hQ mt_X12_octalAt rfl (o := 201) (ci := 11) (k := 3) (a := 0) (b := 0) rfl rfl rfl rfl rfl (q := 203) rfl ?_
      refine l1_many mt_X12_octalAt (pc' := bif am_cc .le (3 * ((p3 - 1) - v4)) 30 then 40 else 36) (L' := [some (.ref 201), some (.int p1), some (.int p2), some (.int p3), some (.int v4), some (.int (3 * ((p3 - 1) - v4)))]) (st' := [.int 48, .int (p1 + v4), .ref 203]) 7 rfl ?_
      refine l1_bif rfl ?_ ?_
      · refine l1_many mt_X12_octalAt (pc' := 48) (L' := [some (.ref 201), some (.int p1), some (.int p2), some (.int p3), some (.int v4), some (.int (3 * ((p3 - 1) - v4)))]) (st' := [.int (48 + ((j_shr p2 (3 * ((p3 - 1) - v4))) &&& 7)), .int (p1 + v4), .ref 203]) 6 rfl ?_
        refine l1_ck (fun hx => ?_)
        refine l1_ast hQ mt_X12_octalAt rfl (o := 203) rfl hx (fun c1 => ?_)
        refine l1_many mt_X12_octalAt (pc' := 3) (L' := [some (.ref 201), some (.int p1), some (.int p2), some (.int p3), some (.int (v4 + 1)), some (.int (3 * ((p3 - 1) - v4)))]) (st' := []) 2 rfl ?_
        refine l1_weak (m := [true, true, true, true, true, false]) (L' := [some (.ref 201), some (.int p1), some (.int p2), some (.int p3), some (.int (v4 + 1))]) rfl ?_
        exact ih c1 (v4 + 1)
      · refine l1_many mt_X12_octalAt (pc' := 48) (L' := [some (.ref 201), some (.int p1), some (.int p2), some (.int p3), some (.int v4), some (.int (3 * ((p3 - 1) - v4)))]) (st' := [.int (48 + 0), .int (p1 + v4), .ref 203]) 3 rfl ?_
        refine l1_ck (fun hx => ?_)
        refine l1_ast hQ mt_X12_octalAt rfl (o := 203) rfl hx (fun c2 => ?_)
        refine l1_many mt_X12_octalAt (pc' := 3) (L' := [some (.ref 201), some (.int p1), some (.int p2), some (.int p3), some (.int (v4 + 1)), some (.int (3 * ((p3 - 1) - v4)))]) (st' := []) 2 rfl ?_
        refine l1_weak (m := [true, true, true, true, true, false]) (L' := [some (.ref 201), some (.int p1), some (.int p2), some (.int p3), some (.int (v4 + 1))]) rfl ?_
        exact ih c2 (v4 + 1)
set_option maxRecDepth 100000 in
theorem en_X12_octalAt {Q : hS → am_H → Prop} (hQ : l1_em km Q) (N : Nat) (c : hS) (p1 : Int32) (p2 : Int32) (p3 : Int32) : l1_G (wN wV) Q am_i_X12_octalAt 0 [some (.ref 201), some (.int p1), some (.int p2), some (.int p3)] [] c (f_X12_octalAt N c p1 p2 p3) := by
  rw [f_X12_octalAt]
  refine l1_many mt_X12_octalAt (pc' := 3) (L' := [some (.ref 201), some (.int p1), some (.int p2), some (.int p3), some (.int 0)]) (st' := []) 2 rfl ?_
  exact ok_X12_octalAt_3 hQ N p1 p2 p3 N c 0
theorem ok_X12_octalAt {Q : hS → am_H → Prop} (hQ : l1_em km Q) (N : Nat) (c : hS) (p1 : Int32) (p2 : Int32) (p3 : Int32) : l1_T wV Q am_i_X12_octalAt [.ref 201, .int p1, .int p2, .int p3] c (f_X12_octalAt N c p1 p2 p3) := l1_of (en_X12_octalAt hQ N c p1 p2 p3) ⟨rfl, rfl, rfl, rfl, trivial⟩
set_option maxRecDepth 100000 in
theorem ok_X12_writeBlock_241 {Q : hS → am_H → Prop} (hQ : l1_em km Q) (N : Nat) (p1 : Int32) : ∀ n : Nat, ∀ (c : hS) (v2 : Int32) (v3 : Int32) (v4 : Int32), l1_G (wN wV) Q am_i_X12_writeBlock 241 [some (.ref 201), some (.int p1), some (.int v2), some (.int v3), some (.int v4)] [] c (f_X12_writeBlock_241 N p1 n c v2 v3 v4) := by
  intro n
  induction n with
  | zero => intro c v2 v3 v4; exact l1_none
  | succ n ih =>
    intro c v2 v3 v4
    rw [f_X12_writeBlock_241]
    refine l1_many mt_X12_writeBlock (pc' := bif am_cc .ge v4 512 then 267 else 249) (L' := [some (.ref 201), some (.int p1), some (.int v2), some (.int v3), some (.int v4)]) (st' := []) 3 rfl ?_
    refine l1_bif rfl ?_ ?_
    · refine l1_many mt_X12_writeBlock (pc' := 276) (L' := [some (.ref 201), some (.int p1), some (.int v2), some (.int v3), some (.int v4)]) (st' := [.int 6, .int v3, .int (v2 + 148), .ref 201]) 6 rfl ?_
      refine l1_callV hQ mt_X12_writeBlock mt_X12_octalAt rfl rfl (o := 201) (ci := 11) (As := [.int (v2 + 148), .int v3, .int 6]) (rest := []) rfl rfl rfl rfl rfl rfl (st1 := fun _ => []) (fun _ => rfl) (ok_X12_octalAt hQ N c (v2 + 148) v3 6) (fun _ c1 => ?_)
      refine l1_many mt_X12_writeBlock (pc' := 280) (L' := [some (.ref 201), some (.int p1), some (.int v2), some (.int v3), some (.int v4)]) (st' := [.ref 201]) 1 rfl ?_
      refine l1_getR hQ mt_X12_writeBlock rfl (o := 201) (ci := 11) (k := 3) (a := 0) (b := 0) rfl rfl rfl rfl rfl (q := 203) rfl ?_
      refine l1_many mt_X12_writeBlock (pc' := 289) (L' := [some (.ref 201), some (.int p1), some (.int v2), some (.int v3), some (.int v4)]) (st' := [.int 0, .int (v2 + 154), .ref 203]) 4 rfl ?_
      refine l1_ck (fun hx => ?_)
      refine l1_ast hQ mt_X12_writeBlock rfl (o := 203) rfl hx (fun c2 => ?_)
      refine l1_many mt_X12_writeBlock (pc' := 291) (L' := [some (.ref 201), some (.int p1), some (.int v2), some (.int v3), some (.int v4)]) (st' := [.ref 201]) 1 rfl ?_
      refine l1_getR hQ mt_X12_writeBlock rfl (o := 201) (ci := 11) (k := 3) (a := 0) (b := 0) rfl rfl rfl rfl rfl (q := 203) rfl ?_
      refine l1_many mt_X12_writeBlock (pc' := 301) (L' := [some (.ref 201), some (.int p1), some (.int v2), some (.int v3), some (.int v4)]) (st' := [.int 32, .int (v2 + 155), .ref 203]) 4 rfl ?_
      refine l1_ck (fun hx => ?_)
      refine l1_ast hQ mt_X12_writeBlock rfl (o := 203) rfl hx (fun c3 => ?_)
      refine l1_many mt_X12_writeBlock (pc' := 304) (L' := [some (.ref 201), some (.int p1), some (.int v2), some (.int v3), some (.int v4)]) (st' := [.int p1, .ref 201]) 2 rfl ?_
      refine l1_callV hQ mt_X12_writeBlock mt_X12_putBytes rfl rfl (o := 201) (ci := 11) (As := [.int p1]) (rest := []) rfl rfl rfl rfl rfl rfl (st1 := fun _ => []) (fun _ => rfl) (ok_X12_putBytes hQ N c3 p1) (fun _ c4 => ?_)
      refine l1_many mt_X12_writeBlock (pc' := 309) (L' := [some (.ref 201), some (.int p1), some (.int v2), some (.int v3), some (.int v4)]) (st' := [.ref 201, .ref 201]) 2 rfl ?_
      refine l1_getI hQ mt_X12_writeBlock rfl (o := 201) (ci := 11) (k := 4) (a := 0) (b := 0) rfl rfl rfl rfl rfl ?_
      refine l1_many mt_X12_writeBlock (pc' := 324) (L' := [some (.ref 201), some (.int p1), some (.int v2), some (.int v3), some (.int v4)]) (st' := [.int ((((c4.1 201 4) + 511) / 512) * 512), .ref 201]) 6 rfl ?_
      refine l1_callV hQ mt_X12_writeBlock mt_X12_putZeros rfl rfl (o := 201) (ci := 11) (As := [.int ((((c4.1 201 4) + 511) / 512) * 512)]) (rest := []) rfl rfl rfl rfl rfl rfl (st1 := fun _ => []) (fun _ => rfl) (ok_X12_putZeros hQ N c4 ((((c4.1 201 4) + 511) / 512) * 512)) (fun _ c5 => ?_)
      exact l1_ret mt_X12_writeBlock rfl rfl rfl
    · refine l1_many mt_X12_writeBlock (pc' := 251) (L' := [some (.ref 201), some (.int p1), some (.int v2), some (.int v3), some (.int v4)]) (st' := [.ref 201, .int v3]) 2 rfl ?_
      refine l1_getR hQ mt_X12_writeBlock rfl (o := 201) (ci := 11) (k := 3) (a := 0) (b := 0) rfl rfl rfl rfl rfl (q := 203) rfl ?_
      refine l1_many mt_X12_writeBlock (pc' := 258) (L' := [some (.ref 201), some (.int p1), some (.int v2), some (.int v3), some (.int v4)]) (st' := [.int (v2 + v4), .ref 203, .int v3]) 3 rfl ?_
      refine l1_ck (fun hx => ?_)
      refine l1_ald hQ mt_X12_writeBlock rfl (o := 203) rfl hx ?_
      refine l1_many mt_X12_writeBlock (pc' := 241) (L' := [some (.ref 201), some (.int p1), some (.int v2), some (.int (v3 + (c.1 203 (v2 + v4).toNatClampNeg))), some (.int (v4 + 1))]) (st' := []) 4 rfl ?_
      exact ih c v2 (v3 + (c.1 203 (v2 + v4).toNatClampNeg)) (v4 + 1)
set_option maxRecDepth 100000 in
theorem ok_X12_writeBlock_126 {Q : hS → am_H → Prop} (hQ : l1_em km Q) (N : Nat) (p1 : Int32) : ∀ n : Nat, ∀ (c : hS) (v2 : Int32) (v3 : Int32), l1_G (wN wV) Q am_i_X12_writeBlock 126 [some (.ref 201), some (.int p1), some (.int v2), some (.int v3)] [] c (f_X12_writeBlock_126 N p1 n c v2 v3) := by
  intro n
  induction n with
  | zero => intro c v2 v3; exact l1_none
  | succ n ih =>
    intro c v2 v3
    rw [f_X12_writeBlock_126]
    refine l1_many mt_X12_writeBlock (pc' := bif am_cc .ge v3 8 then 210 else 132) (L' := [some (.ref 201), some (.int p1), some (.int v2), some (.int v3)]) (st' := []) 3 rfl ?_
    refine l1_bif rfl ?_ ?_
    · refine l1_many mt_X12_writeBlock (pc' := 219) (L' := [some (.ref 201), some (.int p1), some (.int v2), some (.int v3)]) (st' := [.int 7, .int 0, .int (v2 + 329), .ref 201]) 6 rfl ?_
      refine l1_callV hQ mt_X12_writeBlock mt_X12_octalAt rfl rfl (o := 201) (ci := 11) (As := [.int (v2 + 329), .int 0, .int 7]) (rest := []) rfl rfl rfl rfl rfl rfl (st1 := fun _ => []) (fun _ => rfl) (ok_X12_octalAt hQ N c (v2 + 329) 0 7) (fun _ c1 => ?_)
      refine l1_many mt_X12_writeBlock (pc' := 231) (L' := [some (.ref 201), some (.int p1), some (.int v2), some (.int v3)]) (st' := [.int 7, .int 0, .int (v2 + 337), .ref 201]) 6 rfl ?_
      refine l1_callV hQ mt_X12_writeBlock mt_X12_octalAt rfl rfl (o := 201) (ci := 11) (As := [.int (v2 + 337), .int 0, .int 7]) (rest := []) rfl rfl rfl rfl rfl rfl (st1 := fun _ => []) (fun _ => rfl) (ok_X12_octalAt hQ N c1 (v2 + 337) 0 7) (fun _ c2 => ?_)
      refine l1_many mt_X12_writeBlock (pc' := 241) (L' := [some (.ref 201), some (.int p1), some (.int v2), some (.int 256), some (.int 0)]) (st' := []) 4 rfl ?_
      exact ok_X12_writeBlock_241 hQ N p1 N c2 v2 256 0
    · refine l1_many mt_X12_writeBlock (pc' := 133) (L' := [some (.ref 201), some (.int p1), some (.int v2), some (.int v3)]) (st' := [.ref 201]) 1 rfl ?_
      refine l1_getR hQ mt_X12_writeBlock rfl (o := 201) (ci := 11) (k := 3) (a := 0) (b := 0) rfl rfl rfl rfl rfl (q := 203) rfl ?_
      refine l1_many mt_X12_writeBlock (pc' := bif am_cc .ne v3 0 then 152 else 147) (L' := [some (.ref 201), some (.int p1), some (.int v2), some (.int v3)]) (st' := [.int ((v2 + 257) + v3), .ref 203]) 7 rfl ?_
      refine l1_bin rfl ?_ ?_
      · refine l1_many mt_X12_writeBlock (pc' := 203) (L' := [some (.ref 201), some (.int p1), some (.int v2), some (.int v3)]) (st' := [.int 117, .int ((v2 + 257) + v3), .ref 203]) 2 rfl ?_
        refine l1_ck (fun hx => ?_)
        refine l1_ast hQ mt_X12_writeBlock rfl (o := 203) rfl hx (fun c9 => ?_)
        refine l1_many mt_X12_writeBlock (pc' := 126) (L' := [some (.ref 201), some (.int p1), some (.int v2), some (.int (v3 + 1))]) (st' := []) 2 rfl ?_
        exact ih c9 v2 (v3 + 1)
      · refine l1_many mt_X12_writeBlock (pc' := bif am_cc .ne v3 1 then 162 else 157) (L' := [some (.ref 201), some (.int p1), some (.int v2), some (.int v3)]) (st' := [.int ((v2 + 257) + v3), .ref 203]) 3 rfl ?_
        refine l1_bin rfl ?_ ?_
        · refine l1_many mt_X12_writeBlock (pc' := 203) (L' := [some (.ref 201), some (.int p1), some (.int v2), some (.int v3)]) (st' := [.int 115, .int ((v2 + 257) + v3), .ref 203]) 2 rfl ?_
          refine l1_ck (fun hx => ?_)
          refine l1_ast hQ mt_X12_writeBlock rfl (o := 203) rfl hx (fun c8 => ?_)
          refine l1_many mt_X12_writeBlock (pc' := 126) (L' := [some (.ref 201), some (.int p1), some (.int v2), some (.int (v3 + 1))]) (st' := []) 2 rfl ?_
          exact ih c8 v2 (v3 + 1)
        · refine l1_many mt_X12_writeBlock (pc' := bif am_cc .ne v3 2 then 172 else 167) (L' := [some (.ref 201), some (.int p1), some (.int v2), some (.int v3)]) (st' := [.int ((v2 + 257) + v3), .ref 203]) 3 rfl ?_
          refine l1_bin rfl ?_ ?_
          · refine l1_many mt_X12_writeBlock (pc' := 203) (L' := [some (.ref 201), some (.int p1), some (.int v2), some (.int v3)]) (st' := [.int 116, .int ((v2 + 257) + v3), .ref 203]) 2 rfl ?_
            refine l1_ck (fun hx => ?_)
            refine l1_ast hQ mt_X12_writeBlock rfl (o := 203) rfl hx (fun c7 => ?_)
            refine l1_many mt_X12_writeBlock (pc' := 126) (L' := [some (.ref 201), some (.int p1), some (.int v2), some (.int (v3 + 1))]) (st' := []) 2 rfl ?_
            exact ih c7 v2 (v3 + 1)
          · refine l1_many mt_X12_writeBlock (pc' := bif am_cc .ne v3 3 then 182 else 177) (L' := [some (.ref 201), some (.int p1), some (.int v2), some (.int v3)]) (st' := [.int ((v2 + 257) + v3), .ref 203]) 3 rfl ?_
            refine l1_bin rfl ?_ ?_
            · refine l1_many mt_X12_writeBlock (pc' := 203) (L' := [some (.ref 201), some (.int p1), some (.int v2), some (.int v3)]) (st' := [.int 97, .int ((v2 + 257) + v3), .ref 203]) 2 rfl ?_
              refine l1_ck (fun hx => ?_)
              refine l1_ast hQ mt_X12_writeBlock rfl (o := 203) rfl hx (fun c6 => ?_)
              refine l1_many mt_X12_writeBlock (pc' := 126) (L' := [some (.ref 201), some (.int p1), some (.int v2), some (.int (v3 + 1))]) (st' := []) 2 rfl ?_
              exact ih c6 v2 (v3 + 1)
            · refine l1_many mt_X12_writeBlock (pc' := bif am_cc .ne v3 4 then 192 else 187) (L' := [some (.ref 201), some (.int p1), some (.int v2), some (.int v3)]) (st' := [.int ((v2 + 257) + v3), .ref 203]) 3 rfl ?_
              refine l1_bin rfl ?_ ?_
              · refine l1_many mt_X12_writeBlock (pc' := 203) (L' := [some (.ref 201), some (.int p1), some (.int v2), some (.int v3)]) (st' := [.int 114, .int ((v2 + 257) + v3), .ref 203]) 2 rfl ?_
                refine l1_ck (fun hx => ?_)
                refine l1_ast hQ mt_X12_writeBlock rfl (o := 203) rfl hx (fun c5 => ?_)
                refine l1_many mt_X12_writeBlock (pc' := 126) (L' := [some (.ref 201), some (.int p1), some (.int v2), some (.int (v3 + 1))]) (st' := []) 2 rfl ?_
                exact ih c5 v2 (v3 + 1)
              · refine l1_many mt_X12_writeBlock (pc' := bif am_cc .ne v3 5 then 201 else 197) (L' := [some (.ref 201), some (.int p1), some (.int v2), some (.int v3)]) (st' := [.int ((v2 + 257) + v3), .ref 203]) 3 rfl ?_
                refine l1_bin rfl ?_ ?_
                · refine l1_many mt_X12_writeBlock (pc' := 203) (L' := [some (.ref 201), some (.int p1), some (.int v2), some (.int v3)]) (st' := [.int 0, .int ((v2 + 257) + v3), .ref 203]) 2 rfl ?_
                  refine l1_ck (fun hx => ?_)
                  refine l1_ast hQ mt_X12_writeBlock rfl (o := 203) rfl hx (fun c4 => ?_)
                  refine l1_many mt_X12_writeBlock (pc' := 126) (L' := [some (.ref 201), some (.int p1), some (.int v2), some (.int (v3 + 1))]) (st' := []) 2 rfl ?_
                  exact ih c4 v2 (v3 + 1)
                · refine l1_many mt_X12_writeBlock (pc' := 203) (L' := [some (.ref 201), some (.int p1), some (.int v2), some (.int v3)]) (st' := [.int 48, .int ((v2 + 257) + v3), .ref 203]) 1 rfl ?_
                  refine l1_ck (fun hx => ?_)
                  refine l1_ast hQ mt_X12_writeBlock rfl (o := 203) rfl hx (fun c3 => ?_)
                  refine l1_many mt_X12_writeBlock (pc' := 126) (L' := [some (.ref 201), some (.int p1), some (.int v2), some (.int (v3 + 1))]) (st' := []) 2 rfl ?_
                  exact ih c3 v2 (v3 + 1)
set_option maxRecDepth 100000 in
theorem ok_X12_writeBlock_43 {Q : hS → am_H → Prop} (hQ : l1_em km Q) (N : Nat) (p1 : Int32) : ∀ (c : hS) (v2 : Int32) (w0 : Int32) (w1 : Int32), l1_G (wN wV) Q am_i_X12_writeBlock 43 [some (.ref 201), some (.int p1), some (.int v2)] [.int w0, .int w1, .ref 201] c (f_X12_writeBlock_43 N p1 c v2 w0 w1) := by
  intro c v2 w0 w1
  rw [f_X12_writeBlock_43]
  refine l1_many mt_X12_writeBlock (pc' := 45) (L' := [some (.ref 201), some (.int p1), some (.int v2)]) (st' := [.int 7, .int w0, .int w1, .ref 201]) 1 rfl ?_
  refine l1_callV hQ mt_X12_writeBlock mt_X12_octalAt rfl rfl (o := 201) (ci := 11) (As := [.int w1, .int w0, .int 7]) (rest := []) rfl rfl rfl rfl rfl rfl (st1 := fun _ => []) (fun _ => rfl) (ok_X12_octalAt hQ N c w1 w0 7) (fun _ c1 => ?_)
  refine l1_many mt_X12_writeBlock (pc' := 56) (L' := [some (.ref 201), some (.int p1), some (.int v2)]) (st' := [.int 7, .int 0, .int (v2 + 108), .ref 201]) 6 rfl ?_
  refine l1_callV hQ mt_X12_writeBlock mt_X12_octalAt rfl rfl (o := 201) (ci := 11) (As := [.int (v2 + 108), .int 0, .int 7]) (rest := []) rfl rfl rfl rfl rfl rfl (st1 := fun _ => []) (fun _ => rfl) (ok_X12_octalAt hQ N c1 (v2 + 108) 0 7) (fun _ c2 => ?_)
  refine l1_many mt_X12_writeBlock (pc' := 67) (L' := [some (.ref 201), some (.int p1), some (.int v2)]) (st' := [.int 7, .int 0, .int (v2 + 116), .ref 201]) 6 rfl ?_
  refine l1_callV hQ mt_X12_writeBlock mt_X12_octalAt rfl rfl (o := 201) (ci := 11) (As := [.int (v2 + 116), .int 0, .int 7]) (rest := []) rfl rfl rfl rfl rfl rfl (st1 := fun _ => []) (fun _ => rfl) (ok_X12_octalAt hQ N c2 (v2 + 116) 0 7) (fun _ c3 => ?_)
  refine l1_many mt_X12_writeBlock (pc' := 76) (L' := [some (.ref 201), some (.int p1), some (.int v2)]) (st' := [.ref 201, .int (v2 + 124), .ref 201]) 5 rfl ?_
  refine l1_getR hQ mt_X12_writeBlock rfl (o := 201) (ci := 11) (k := 11) (a := 0) (b := 0) rfl rfl rfl rfl rfl (q := 206) rfl ?_
  refine l1_many mt_X12_writeBlock (pc' := 80) (L' := [some (.ref 201), some (.int p1), some (.int v2)]) (st' := [.int p1, .ref 206, .int (v2 + 124), .ref 201]) 1 rfl ?_
  refine l1_ck (fun hx => ?_)
  refine l1_ald hQ mt_X12_writeBlock rfl (o := 206) rfl hx ?_
  refine l1_many mt_X12_writeBlock (pc' := 83) (L' := [some (.ref 201), some (.int p1), some (.int v2)]) (st' := [.int 11, .int (c3.1 206 p1.toNatClampNeg), .int (v2 + 124), .ref 201]) 1 rfl ?_
  refine l1_callV hQ mt_X12_writeBlock mt_X12_octalAt rfl rfl (o := 201) (ci := 11) (As := [.int (v2 + 124), .int (c3.1 206 p1.toNatClampNeg), .int 11]) (rest := []) rfl rfl rfl rfl rfl rfl (st1 := fun _ => []) (fun _ => rfl) (ok_X12_octalAt hQ N c3 (v2 + 124) (c3.1 206 p1.toNatClampNeg) 11) (fun _ c4 => ?_)
  refine l1_many mt_X12_writeBlock (pc' := 95) (L' := [some (.ref 201), some (.int p1), some (.int v2)]) (st' := [.int 11, .int 0, .int (v2 + 136), .ref 201]) 6 rfl ?_
  refine l1_callV hQ mt_X12_writeBlock mt_X12_octalAt rfl rfl (o := 201) (ci := 11) (As := [.int (v2 + 136), .int 0, .int 11]) (rest := []) rfl rfl rfl rfl rfl rfl (st1 := fun _ => []) (fun _ => rfl) (ok_X12_octalAt hQ N c4 (v2 + 136) 0 11) (fun _ c5 => ?_)
  refine l1_many mt_X12_writeBlock (pc' := 99) (L' := [some (.ref 201), some (.int p1), some (.int v2)]) (st' := [.ref 201]) 1 rfl ?_
  refine l1_getR hQ mt_X12_writeBlock rfl (o := 201) (ci := 11) (k := 3) (a := 0) (b := 0) rfl rfl rfl rfl rfl (q := 203) rfl ?_
  refine l1_many mt_X12_writeBlock (pc' := 108) (L' := [some (.ref 201), some (.int p1), some (.int v2)]) (st' := [.ref 201, .int (v2 + 156), .ref 203]) 4 rfl ?_
  refine l1_getR hQ mt_X12_writeBlock rfl (o := 201) (ci := 11) (k := 13) (a := 0) (b := 0) rfl rfl rfl rfl rfl (q := 208) rfl ?_
  refine l1_many mt_X12_writeBlock (pc' := 112) (L' := [some (.ref 201), some (.int p1), some (.int v2)]) (st' := [.int p1, .ref 208, .int (v2 + 156), .ref 203]) 1 rfl ?_
  refine l1_ck (fun hx => ?_)
  refine l1_bld hQ mt_X12_writeBlock rfl (o := 208) rfl hx ?_
  refine l1_many mt_X12_writeBlock (pc' := bif am_cc .eq (c5.1 208 p1.toNatClampNeg) 0 then 121 else 116) (L' := [some (.ref 201), some (.int p1), some (.int v2)]) (st' := [.int (v2 + 156), .ref 203]) 1 rfl ?_
  refine l1_bif rfl ?_ ?_
  · refine l1_many mt_X12_writeBlock (pc' := 123) (L' := [some (.ref 201), some (.int p1), some (.int v2)]) (st' := [.int 48, .int (v2 + 156), .ref 203]) 1 rfl ?_
    refine l1_ck (fun hx => ?_)
    refine l1_ast hQ mt_X12_writeBlock rfl (o := 203) rfl hx (fun c6 => ?_)
    refine l1_many mt_X12_writeBlock (pc' := 126) (L' := [some (.ref 201), some (.int p1), some (.int v2), some (.int 0)]) (st' := []) 2 rfl ?_
    exact ok_X12_writeBlock_126 hQ N p1 N c6 v2 0
  · refine l1_many mt_X12_writeBlock (pc' := 123) (L' := [some (.ref 201), some (.int p1), some (.int v2)]) (st' := [.int 53, .int (v2 + 156), .ref 203]) 2 rfl ?_
    refine l1_ck (fun hx => ?_)
    refine l1_ast hQ mt_X12_writeBlock rfl (o := 203) rfl hx (fun c7 => ?_)
    refine l1_many mt_X12_writeBlock (pc' := 126) (L' := [some (.ref 201), some (.int p1), some (.int v2), some (.int 0)]) (st' := []) 2 rfl ?_
    exact ok_X12_writeBlock_126 hQ N p1 N c7 v2 0
set_option maxRecDepth 100000 in
theorem en_X12_writeBlock {Q : hS → am_H → Prop} (hQ : l1_em km Q) (N : Nat) (c : hS) (p1 : Int32) : l1_G (wN wV) Q am_i_X12_writeBlock 0 [some (.ref 201), some (.int p1)] [] c (f_X12_writeBlock N c p1) := by
  rw [f_X12_writeBlock]
  refine l1_many mt_X12_writeBlock (pc' := 1) (L' := [some (.ref 201), some (.int p1)]) (st' := [.ref 201]) 1 rfl ?_
  refine l1_getI hQ mt_X12_writeBlock rfl (o := 201) (ci := 11) (k := 4) (a := 0) (b := 0) rfl rfl rfl rfl rfl ?_
  refine l1_many mt_X12_writeBlock (pc' := 8) (L' := [some (.ref 201), some (.int p1), some (.int (c.1 201 4))]) (st' := [.int 1, .int p1, .ref 201]) 4 rfl ?_
  refine l1_callV hQ mt_X12_writeBlock mt_X12_putName rfl rfl (o := 201) (ci := 11) (As := [.int p1, .int 1]) (rest := []) rfl rfl rfl rfl rfl rfl (st1 := fun _ => []) (fun _ => rfl) (ok_X12_putName hQ N c p1 1) (fun _ c1 => ?_)
  refine l1_many mt_X12_writeBlock (pc' := 17) (L' := [some (.ref 201), some (.int p1), some (.int (c.1 201 4))]) (st' := [.int ((c.1 201 4) + 512), .ref 201]) 4 rfl ?_
  refine l1_callV hQ mt_X12_writeBlock mt_X12_putZeros rfl rfl (o := 201) (ci := 11) (As := [.int ((c.1 201 4) + 512)]) (rest := []) rfl rfl rfl rfl rfl rfl (st1 := fun _ => []) (fun _ => rfl) (ok_X12_putZeros hQ N c1 ((c.1 201 4) + 512)) (fun _ c2 => ?_)
  refine l1_many mt_X12_writeBlock (pc' := 26) (L' := [some (.ref 201), some (.int p1), some (.int (c.1 201 4))]) (st' := [.ref 201, .int ((c.1 201 4) + 100), .ref 201]) 5 rfl ?_
  refine l1_getR hQ mt_X12_writeBlock rfl (o := 201) (ci := 11) (k := 13) (a := 0) (b := 0) rfl rfl rfl rfl rfl (q := 208) rfl ?_
  refine l1_many mt_X12_writeBlock (pc' := 30) (L' := [some (.ref 201), some (.int p1), some (.int (c.1 201 4))]) (st' := [.int p1, .ref 208, .int ((c.1 201 4) + 100), .ref 201]) 1 rfl ?_
  refine l1_ck (fun hx => ?_)
  refine l1_bld hQ mt_X12_writeBlock rfl (o := 208) rfl hx ?_
  refine l1_many mt_X12_writeBlock (pc' := bif am_cc .eq (c2.1 208 p1.toNatClampNeg) 0 then 40 else 34) (L' := [some (.ref 201), some (.int p1), some (.int (c.1 201 4))]) (st' := [.int ((c.1 201 4) + 100), .ref 201]) 1 rfl ?_
  refine l1_bif rfl ?_ ?_
  · refine l1_many mt_X12_writeBlock (pc' := 43) (L' := [some (.ref 201), some (.int p1), some (.int (c.1 201 4))]) (st' := [.int 420, .int ((c.1 201 4) + 100), .ref 201]) 1 rfl ?_
    exact ok_X12_writeBlock_43 hQ N p1 c2 (c.1 201 4) 420 ((c.1 201 4) + 100)
  · refine l1_many mt_X12_writeBlock (pc' := 43) (L' := [some (.ref 201), some (.int p1), some (.int (c.1 201 4))]) (st' := [.int 493, .int ((c.1 201 4) + 100), .ref 201]) 2 rfl ?_
    exact ok_X12_writeBlock_43 hQ N p1 c2 (c.1 201 4) 493 ((c.1 201 4) + 100)
theorem ok_X12_writeBlock {Q : hS → am_H → Prop} (hQ : l1_em km Q) (N : Nat) (c : hS) (p1 : Int32) : l1_T wV Q am_i_X12_writeBlock [.ref 201, .int p1] c (f_X12_writeBlock N c p1) := l1_of (en_X12_writeBlock hQ N c p1) ⟨rfl, rfl, trivial⟩
set_option maxRecDepth 100000 in
theorem ok_X12_putHex_3 {Q : hS → am_H → Prop} (hQ : l1_em km Q) (N : Nat) (p1 : Int32) : ∀ n : Nat, ∀ (c : hS) (v2 : Int32), l1_G (wN wV) Q am_i_X12_putHex 3 [some (.ref 201), some (.int p1), some (.int v2)] [] c (f_X12_putHex_3 N p1 n c v2) := by
  intro n
  induction n with
  | zero => intro c v2; exact l1_none
  | succ n ih =>
    intro c v2
    rw [f_X12_putHex_3]
    refine l1_many mt_X12_putHex (pc' := bif am_cc .lt v2 0 then 41 else 7) (L' := [some (.ref 201), some (.int p1), some (.int v2)]) (st' := []) 2 rfl ?_
    refine l1_bif rfl ?_ ?_
    · exact l1_ret mt_X12_putHex rfl rfl rfl
    · refine l1_many mt_X12_putHex (pc' := bif am_cc .ge ((j_shr p1 v2) &&& 15) 10 then 28 else 21) (L' := [some (.ref 201), some (.int p1), some (.int v2), some (.int ((j_shr p1 v2) &&& 15))]) (st' := [.ref 201]) 10 rfl ?_
      refine l1_bif rfl ?_ ?_
      · refine l1_many mt_X12_putHex (pc' := 32) (L' := [some (.ref 201), some (.int p1), some (.int v2), some (.int ((j_shr p1 v2) &&& 15))]) (st' := [.int (87 + ((j_shr p1 v2) &&& 15)), .ref 201]) 3 rfl ?_
        refine l1_callV hQ mt_X12_putHex mt_X12_put rfl rfl (o := 201) (ci := 11) (As := [.int (87 + ((j_shr p1 v2) &&& 15))]) (rest := []) rfl rfl rfl rfl rfl rfl (st1 := fun _ => []) (fun _ => rfl) (ok_X12_put hQ c (87 + ((j_shr p1 v2) &&& 15))) (fun _ c1 => ?_)
        refine l1_many mt_X12_putHex (pc' := 3) (L' := [some (.ref 201), some (.int p1), some (.int (v2 + (-4))), some (.int ((j_shr p1 v2) &&& 15))]) (st' := []) 2 rfl ?_
        refine l1_weak (m := [true, true, true, false]) (L' := [some (.ref 201), some (.int p1), some (.int (v2 + (-4)))]) rfl ?_
        exact ih c1 (v2 + (-4))
      · refine l1_many mt_X12_putHex (pc' := 32) (L' := [some (.ref 201), some (.int p1), some (.int v2), some (.int ((j_shr p1 v2) &&& 15))]) (st' := [.int (48 + ((j_shr p1 v2) &&& 15)), .ref 201]) 4 rfl ?_
        refine l1_callV hQ mt_X12_putHex mt_X12_put rfl rfl (o := 201) (ci := 11) (As := [.int (48 + ((j_shr p1 v2) &&& 15))]) (rest := []) rfl rfl rfl rfl rfl rfl (st1 := fun _ => []) (fun _ => rfl) (ok_X12_put hQ c (48 + ((j_shr p1 v2) &&& 15))) (fun _ c2 => ?_)
        refine l1_many mt_X12_putHex (pc' := 3) (L' := [some (.ref 201), some (.int p1), some (.int (v2 + (-4))), some (.int ((j_shr p1 v2) &&& 15))]) (st' := []) 2 rfl ?_
        refine l1_weak (m := [true, true, true, false]) (L' := [some (.ref 201), some (.int p1), some (.int (v2 + (-4)))]) rfl ?_
        exact ih c2 (v2 + (-4))
set_option maxRecDepth 100000 in
theorem en_X12_putHex {Q : hS → am_H → Prop} (hQ : l1_em km Q) (N : Nat) (c : hS) (p1 : Int32) : l1_G (wN wV) Q am_i_X12_putHex 0 [some (.ref 201), some (.int p1)] [] c (f_X12_putHex N c p1) := by
  rw [f_X12_putHex]
  refine l1_many mt_X12_putHex (pc' := 3) (L' := [some (.ref 201), some (.int p1), some (.int 28)]) (st' := []) 2 rfl ?_
  exact ok_X12_putHex_3 hQ N p1 N c 28
theorem ok_X12_putHex {Q : hS → am_H → Prop} (hQ : l1_em km Q) (N : Nat) (c : hS) (p1 : Int32) : l1_T wV Q am_i_X12_putHex [.ref 201, .int p1] c (f_X12_putHex N c p1) := l1_of (en_X12_putHex hQ N c p1) ⟨rfl, rfl, trivial⟩
set_option maxRecDepth 100000 in
theorem ok_X12_putDigitsHead_93 {Q : hS → am_H → Prop} (hQ : l1_em km Q) (N : Nat) (p1 : Int32) (p2 : Int32) (p3 : Int32) (p4 : Int32) : ∀ n : Nat, ∀ (c : hS) (v5 : Int32), l1_G (wN wV) Q am_i_X12_putDigitsHead 93 [some (.ref 201), none, none, none, some (.int p4), some (.int v5)] [] c (f_X12_putDigitsHead_93 N p1 p2 p3 p4 n c v5) := by
  intro n
  induction n with
  | zero => intro c v5; exact l1_none
  | succ n ih =>
    intro c v5
    rw [f_X12_putDigitsHead_93]
    refine l1_many mt_X12_putDigitsHead (pc' := bif am_cc .ge v5 4 then 110 else 99) (L' := [some (.ref 201), none, none, none, some (.int p4), some (.int v5)]) (st' := []) 3 rfl ?_
    refine l1_bif rfl ?_ ?_
    · refine l1_many mt_X12_putDigitsHead (pc' := 113) (L' := [some (.ref 201), none, none, none, some (.int p4), some (.int v5)]) (st' := [.int p4, .ref 201]) 2 rfl ?_
      refine l1_callV hQ mt_X12_putDigitsHead mt_X12_putHex rfl rfl (o := 201) (ci := 11) (As := [.int p4]) (rest := []) rfl rfl rfl rfl rfl rfl (st1 := fun _ => []) (fun _ => rfl) (ok_X12_putHex hQ N c p4) (fun _ c1 => ?_)
      refine l1_many mt_X12_putDigitsHead (pc' := 118) (L' := [some (.ref 201), none, none, none, some (.int p4), some (.int v5)]) (st' := [.int 0, .ref 201]) 2 rfl ?_
      refine l1_callV hQ mt_X12_putDigitsHead mt_X12_putHex rfl rfl (o := 201) (ci := 11) (As := [.int 0]) (rest := []) rfl rfl rfl rfl rfl rfl (st1 := fun _ => []) (fun _ => rfl) (ok_X12_putHex hQ N c1 0) (fun _ c2 => ?_)
      exact l1_ret mt_X12_putDigitsHead rfl rfl rfl
    · refine l1_many mt_X12_putDigitsHead (pc' := 101) (L' := [some (.ref 201), none, none, none, some (.int p4), some (.int v5)]) (st' := [.int 0, .ref 201]) 2 rfl ?_
      refine l1_callV hQ mt_X12_putDigitsHead mt_X12_putHex rfl rfl (o := 201) (ci := 11) (As := [.int 0]) (rest := []) rfl rfl rfl rfl rfl rfl (st1 := fun _ => []) (fun _ => rfl) (ok_X12_putHex hQ N c 0) (fun _ c3 => ?_)
      refine l1_many mt_X12_putDigitsHead (pc' := 93) (L' := [some (.ref 201), none, none, none, some (.int p4), some (.int (v5 + 1))]) (st' := []) 2 rfl ?_
      exact ih c3 (v5 + 1)
set_option maxRecDepth 100000 in
theorem ok_X12_putDigitsHead_68 {Q : hS → am_H → Prop} (hQ : l1_em km Q) (N : Nat) (p1 : Int32) (p2 : Int32) (p3 : Int32) (p4 : Int32) : ∀ n : Nat, ∀ (c : hS) (v5 : Int32), l1_G (wN wV) Q am_i_X12_putDigitsHead 68 [some (.ref 201), none, none, some (.int p3), some (.int p4), some (.int v5)] [] c (f_X12_putDigitsHead_68 N p1 p2 p3 p4 n c v5) := by
  intro n
  induction n with
  | zero => intro c v5; exact l1_none
  | succ n ih =>
    intro c v5
    rw [f_X12_putDigitsHead_68]
    refine l1_many mt_X12_putDigitsHead (pc' := bif am_cc .ge v5 3 then 85 else 74) (L' := [some (.ref 201), none, none, some (.int p3), some (.int p4), some (.int v5)]) (st' := []) 3 rfl ?_
    refine l1_bif rfl ?_ ?_
    · refine l1_many mt_X12_putDigitsHead (pc' := 87) (L' := [some (.ref 201), none, none, some (.int p3), some (.int p4), some (.int v5)]) (st' := [.int p3, .ref 201]) 2 rfl ?_
      refine l1_callV hQ mt_X12_putDigitsHead mt_X12_putHex rfl rfl (o := 201) (ci := 11) (As := [.int p3]) (rest := []) rfl rfl rfl rfl rfl rfl (st1 := fun _ => []) (fun _ => rfl) (ok_X12_putHex hQ N c p3) (fun _ c1 => ?_)
      refine l1_many mt_X12_putDigitsHead (pc' := 93) (L' := [some (.ref 201), none, none, some (.int p3), some (.int p4), some (.int 0)]) (st' := []) 2 rfl ?_
      refine l1_weak (m := [true, false, false, false, true, true]) (L' := [some (.ref 201), none, none, none, some (.int p4), some (.int 0)]) rfl ?_
      exact ok_X12_putDigitsHead_93 hQ N p1 p2 p3 p4 N c1 0
    · refine l1_many mt_X12_putDigitsHead (pc' := 76) (L' := [some (.ref 201), none, none, some (.int p3), some (.int p4), some (.int v5)]) (st' := [.int 0, .ref 201]) 2 rfl ?_
      refine l1_callV hQ mt_X12_putDigitsHead mt_X12_putHex rfl rfl (o := 201) (ci := 11) (As := [.int 0]) (rest := []) rfl rfl rfl rfl rfl rfl (st1 := fun _ => []) (fun _ => rfl) (ok_X12_putHex hQ N c 0) (fun _ c2 => ?_)
      refine l1_many mt_X12_putDigitsHead (pc' := 68) (L' := [some (.ref 201), none, none, some (.int p3), some (.int p4), some (.int (v5 + 1))]) (st' := []) 2 rfl ?_
      exact ih c2 (v5 + 1)
set_option maxRecDepth 100000 in
theorem ok_X12_putDigitsHead_3 {Q : hS → am_H → Prop} (hQ : l1_em km Q) (N : Nat) (p1 : Int32) (p2 : Int32) (p3 : Int32) (p4 : Int32) : ∀ n : Nat, ∀ (c : hS) (v5 : Int32), l1_G (wN wV) Q am_i_X12_putDigitsHead 3 [some (.ref 201), some (.int p1), some (.int p2), some (.int p3), some (.int p4), some (.int v5)] [] c (f_X12_putDigitsHead_3 N p1 p2 p3 p4 n c v5) := by
  intro n
  induction n with
  | zero => intro c v5; exact l1_none
  | succ n ih =>
    intro c v5
    rw [f_X12_putDigitsHead_3]
    refine l1_many mt_X12_putDigitsHead (pc' := bif am_cc .ge v5 6 then 50 else 10) (L' := [some (.ref 201), some (.int p1), some (.int p2), some (.int p3), some (.int p4), some (.int v5)]) (st' := []) 3 rfl ?_
    refine l1_bif rfl ?_ ?_
    · refine l1_many mt_X12_putDigitsHead (pc' := 52) (L' := [some (.ref 201), some (.int p1), some (.int p2), some (.int p3), some (.int p4), some (.int v5)]) (st' := [.int p1, .ref 201]) 2 rfl ?_
      refine l1_callV hQ mt_X12_putDigitsHead mt_X12_putHex rfl rfl (o := 201) (ci := 11) (As := [.int p1]) (rest := []) rfl rfl rfl rfl rfl rfl (st1 := fun _ => []) (fun _ => rfl) (ok_X12_putHex hQ N c p1) (fun _ c1 => ?_)
      refine l1_many mt_X12_putDigitsHead (pc' := 57) (L' := [some (.ref 201), some (.int p1), some (.int p2), some (.int p3), some (.int p4), some (.int v5)]) (st' := [.int p2, .ref 201]) 2 rfl ?_
      refine l1_callV hQ mt_X12_putDigitsHead mt_X12_putHex rfl rfl (o := 201) (ci := 11) (As := [.int p2]) (rest := []) rfl rfl rfl rfl rfl rfl (st1 := fun _ => []) (fun _ => rfl) (ok_X12_putHex hQ N c1 p2) (fun _ c2 => ?_)
      refine l1_many mt_X12_putDigitsHead (pc' := 62) (L' := [some (.ref 201), some (.int p1), some (.int p2), some (.int p3), some (.int p4), some (.int v5)]) (st' := [.int 1, .ref 201]) 2 rfl ?_
      refine l1_callV hQ mt_X12_putDigitsHead mt_X12_putHex rfl rfl (o := 201) (ci := 11) (As := [.int 1]) (rest := []) rfl rfl rfl rfl rfl rfl (st1 := fun _ => []) (fun _ => rfl) (ok_X12_putHex hQ N c2 1) (fun _ c3 => ?_)
      refine l1_many mt_X12_putDigitsHead (pc' := 68) (L' := [some (.ref 201), some (.int p1), some (.int p2), some (.int p3), some (.int p4), some (.int 0)]) (st' := []) 2 rfl ?_
      refine l1_weak (m := [true, false, false, true, true, true]) (L' := [some (.ref 201), none, none, some (.int p3), some (.int p4), some (.int 0)]) rfl ?_
      exact ok_X12_putDigitsHead_68 hQ N p1 p2 p3 p4 N c3 0
    · refine l1_many mt_X12_putDigitsHead (pc' := bif am_cc .eq v5 1 then 23 else 17) (L' := [some (.ref 201), some (.int p1), some (.int p2), some (.int p3), some (.int p4), some (.int v5)]) (st' := [.ref 201]) 4 rfl ?_
      refine l1_bif rfl ?_ ?_
      · refine l1_many mt_X12_putDigitsHead (pc' := 41) (L' := [some (.ref 201), some (.int p1), some (.int p2), some (.int p3), some (.int p4), some (.int v5)]) (st' := [.int 55, .ref 201]) 2 rfl ?_
        refine l1_callV hQ mt_X12_putDigitsHead mt_X12_put rfl rfl (o := 201) (ci := 11) (As := [.int 55]) (rest := []) rfl rfl rfl rfl rfl rfl (st1 := fun _ => []) (fun _ => rfl) (ok_X12_put hQ c 55) (fun _ c4 => ?_)
        refine l1_many mt_X12_putDigitsHead (pc' := 3) (L' := [some (.ref 201), some (.int p1), some (.int p2), some (.int p3), some (.int p4), some (.int (v5 + 1))]) (st' := []) 2 rfl ?_
        exact ih c4 (v5 + 1)
      · refine l1_many mt_X12_putDigitsHead (pc' := bif am_cc .ne v5 3 then 28 else 23) (L' := [some (.ref 201), some (.int p1), some (.int p2), some (.int p3), some (.int p4), some (.int v5)]) (st' := [.ref 201]) 3 rfl ?_
        refine l1_bin rfl ?_ ?_
        · refine l1_many mt_X12_putDigitsHead (pc' := 41) (L' := [some (.ref 201), some (.int p1), some (.int p2), some (.int p3), some (.int p4), some (.int v5)]) (st' := [.int 55, .ref 201]) 2 rfl ?_
          refine l1_callV hQ mt_X12_putDigitsHead mt_X12_put rfl rfl (o := 201) (ci := 11) (As := [.int 55]) (rest := []) rfl rfl rfl rfl rfl rfl (st1 := fun _ => []) (fun _ => rfl) (ok_X12_put hQ c 55) (fun _ c7 => ?_)
          refine l1_many mt_X12_putDigitsHead (pc' := 3) (L' := [some (.ref 201), some (.int p1), some (.int p2), some (.int p3), some (.int p4), some (.int (v5 + 1))]) (st' := []) 2 rfl ?_
          exact ih c7 (v5 + 1)
        · refine l1_many mt_X12_putDigitsHead (pc' := bif am_cc .ne v5 5 then 39 else 34) (L' := [some (.ref 201), some (.int p1), some (.int p2), some (.int p3), some (.int p4), some (.int v5)]) (st' := [.ref 201]) 3 rfl ?_
          refine l1_bin rfl ?_ ?_
          · refine l1_many mt_X12_putDigitsHead (pc' := 41) (L' := [some (.ref 201), some (.int p1), some (.int p2), some (.int p3), some (.int p4), some (.int v5)]) (st' := [.int 49, .ref 201]) 2 rfl ?_
            refine l1_callV hQ mt_X12_putDigitsHead mt_X12_put rfl rfl (o := 201) (ci := 11) (As := [.int 49]) (rest := []) rfl rfl rfl rfl rfl rfl (st1 := fun _ => []) (fun _ => rfl) (ok_X12_put hQ c 49) (fun _ c6 => ?_)
            refine l1_many mt_X12_putDigitsHead (pc' := 3) (L' := [some (.ref 201), some (.int p1), some (.int p2), some (.int p3), some (.int p4), some (.int (v5 + 1))]) (st' := []) 2 rfl ?_
            exact ih c6 (v5 + 1)
          · refine l1_many mt_X12_putDigitsHead (pc' := 41) (L' := [some (.ref 201), some (.int p1), some (.int p2), some (.int p3), some (.int p4), some (.int v5)]) (st' := [.int 48, .ref 201]) 1 rfl ?_
            refine l1_callV hQ mt_X12_putDigitsHead mt_X12_put rfl rfl (o := 201) (ci := 11) (As := [.int 48]) (rest := []) rfl rfl rfl rfl rfl rfl (st1 := fun _ => []) (fun _ => rfl) (ok_X12_put hQ c 48) (fun _ c5 => ?_)
            refine l1_many mt_X12_putDigitsHead (pc' := 3) (L' := [some (.ref 201), some (.int p1), some (.int p2), some (.int p3), some (.int p4), some (.int (v5 + 1))]) (st' := []) 2 rfl ?_
            exact ih c5 (v5 + 1)
set_option maxRecDepth 100000 in
theorem en_X12_putDigitsHead {Q : hS → am_H → Prop} (hQ : l1_em km Q) (N : Nat) (c : hS) (p1 : Int32) (p2 : Int32) (p3 : Int32) (p4 : Int32) : l1_G (wN wV) Q am_i_X12_putDigitsHead 0 [some (.ref 201), some (.int p1), some (.int p2), some (.int p3), some (.int p4)] [] c (f_X12_putDigitsHead N c p1 p2 p3 p4) := by
  rw [f_X12_putDigitsHead]
  refine l1_many mt_X12_putDigitsHead (pc' := 3) (L' := [some (.ref 201), some (.int p1), some (.int p2), some (.int p3), some (.int p4), some (.int 0)]) (st' := []) 2 rfl ?_
  exact ok_X12_putDigitsHead_3 hQ N p1 p2 p3 p4 N c 0
theorem ok_X12_putDigitsHead {Q : hS → am_H → Prop} (hQ : l1_em km Q) (N : Nat) (c : hS) (p1 : Int32) (p2 : Int32) (p3 : Int32) (p4 : Int32) : l1_T wV Q am_i_X12_putDigitsHead [.ref 201, .int p1, .int p2, .int p3, .int p4] c (f_X12_putDigitsHead N c p1 p2 p3 p4) := l1_of (en_X12_putDigitsHead hQ N c p1 p2 p3 p4) ⟨rfl, rfl, rfl, rfl, rfl, trivial⟩
set_option maxRecDepth 100000 in
theorem ok_X12_writeDigits_32 {Q : hS → am_H → Prop} (hQ : l1_em km Q) (N : Nat) {k2 : hS → Int32 → Option (Unit × hS)} (hk2 : ∀ c v1, l1_G (wN wV) Q am_i_X12_writeDigits 2 [some (.ref 201), some (.int v1)] [] c (k2 c v1)) : ∀ (c : hS) (v1 : Int32) (w0 : Int32) (w1 : Int32), l1_G (wN wV) Q am_i_X12_writeDigits 32 [some (.ref 201), some (.int v1)] [.int w0, .int w1, .ref 201] c (f_X12_writeDigits_32 N k2 c v1 w0 w1) := by
  intro c v1 w0 w1
  rw [f_X12_writeDigits_32]
  refine l1_many mt_X12_writeDigits (pc' := 33) (L' := [some (.ref 201), some (.int v1)]) (st' := [.ref 201, .int w0, .int w1, .ref 201]) 1 rfl ?_
  refine l1_getR hQ mt_X12_writeDigits rfl (o := 201) (ci := 11) (k := 11) (a := 0) (b := 0) rfl rfl rfl rfl rfl (q := 206) rfl ?_
  refine l1_many mt_X12_writeDigits (pc' := 37) (L' := [some (.ref 201), some (.int v1)]) (st' := [.int v1, .ref 206, .int w0, .int w1, .ref 201]) 1 rfl ?_
  refine l1_ck (fun hx => ?_)
  refine l1_ald hQ mt_X12_writeDigits rfl (o := 206) rfl hx ?_
  refine l1_many mt_X12_writeDigits (pc' := 39) (L' := [some (.ref 201), some (.int v1)]) (st' := [.ref 201, .int (c.1 206 v1.toNatClampNeg), .int w0, .int w1, .ref 201]) 1 rfl ?_
  refine l1_getR hQ mt_X12_writeDigits rfl (o := 201) (ci := 11) (k := 9) (a := 0) (b := 0) rfl rfl rfl rfl rfl (q := 204) rfl ?_
  refine l1_many mt_X12_writeDigits (pc' := 43) (L' := [some (.ref 201), some (.int v1)]) (st' := [.int v1, .ref 204, .int (c.1 206 v1.toNatClampNeg), .int w0, .int w1, .ref 201]) 1 rfl ?_
  refine l1_ck (fun hx => ?_)
  refine l1_ald hQ mt_X12_writeDigits rfl (o := 204) rfl hx ?_
  refine l1_many mt_X12_writeDigits (pc' := 46) (L' := [some (.ref 201), some (.int v1)]) (st' := [.int ((c.1 204 v1.toNatClampNeg) + 1), .int (c.1 206 v1.toNatClampNeg), .int w0, .int w1, .ref 201]) 2 rfl ?_
  refine l1_callV hQ mt_X12_writeDigits mt_X12_putDigitsHead rfl rfl (o := 201) (ci := 11) (As := [.int w1, .int w0, .int (c.1 206 v1.toNatClampNeg), .int ((c.1 204 v1.toNatClampNeg) + 1)]) (rest := []) rfl rfl rfl rfl rfl rfl (st1 := fun _ => []) (fun _ => rfl) (ok_X12_putDigitsHead hQ N c w1 w0 (c.1 206 v1.toNatClampNeg) ((c.1 204 v1.toNatClampNeg) + 1)) (fun _ c1 => ?_)
  refine l1_many mt_X12_writeDigits (pc' := 52) (L' := [some (.ref 201), some (.int v1)]) (st' := [.int 0, .int v1, .ref 201]) 3 rfl ?_
  refine l1_callV hQ mt_X12_writeDigits mt_X12_putName rfl rfl (o := 201) (ci := 11) (As := [.int v1, .int 0]) (rest := []) rfl rfl rfl rfl rfl rfl (st1 := fun _ => []) (fun _ => rfl) (ok_X12_putName hQ N c1 v1 0) (fun _ c2 => ?_)
  refine l1_many mt_X12_writeDigits (pc' := 57) (L' := [some (.ref 201), some (.int v1)]) (st' := [.int 0, .ref 201]) 2 rfl ?_
  refine l1_callV hQ mt_X12_writeDigits mt_X12_put rfl rfl (o := 201) (ci := 11) (As := [.int 0]) (rest := []) rfl rfl rfl rfl rfl rfl (st1 := fun _ => []) (fun _ => rfl) (ok_X12_put hQ c2 0) (fun _ c3 => ?_)
  refine l1_many mt_X12_writeDigits (pc' := 62) (L' := [some (.ref 201), some (.int v1)]) (st' := [.ref 201, .ref 201]) 2 rfl ?_
  refine l1_getI hQ mt_X12_writeDigits rfl (o := 201) (ci := 11) (k := 4) (a := 0) (b := 0) rfl rfl rfl rfl rfl ?_
  refine l1_callS mt_X12_writeDigits mt_X12_upToFour rfl rfl (As := [.int (c3.1 201 4)]) (rest := [.ref 201]) rfl rfl rfl (st1 := fun x4 => [.int x4, .ref 201]) (fun _ => rfl) (ok_X12_upToFour hQ c3 (c3.1 201 4)) (fun x4 c5 => ?_)
  refine l1_callV hQ mt_X12_writeDigits mt_X12_putZeros rfl rfl (o := 201) (ci := 11) (As := [.int x4]) (rest := []) rfl rfl rfl rfl rfl rfl (st1 := fun _ => []) (fun _ => rfl) (ok_X12_putZeros hQ N c5 x4) (fun _ c6 => ?_)
  refine l1_many mt_X12_writeDigits (pc' := 73) (L' := [some (.ref 201), some (.int v1)]) (st' := [.int v1, .ref 201]) 2 rfl ?_
  refine l1_callV hQ mt_X12_writeDigits mt_X12_putBytes rfl rfl (o := 201) (ci := 11) (As := [.int v1]) (rest := []) rfl rfl rfl rfl rfl rfl (st1 := fun _ => []) (fun _ => rfl) (ok_X12_putBytes hQ N c6 v1) (fun _ c7 => ?_)
  refine l1_many mt_X12_writeDigits (pc' := 78) (L' := [some (.ref 201), some (.int v1)]) (st' := [.ref 201, .ref 201]) 2 rfl ?_
  refine l1_getI hQ mt_X12_writeDigits rfl (o := 201) (ci := 11) (k := 4) (a := 0) (b := 0) rfl rfl rfl rfl rfl ?_
  refine l1_callS mt_X12_writeDigits mt_X12_upToFour rfl rfl (As := [.int (c7.1 201 4)]) (rest := [.ref 201]) rfl rfl rfl (st1 := fun x8 => [.int x8, .ref 201]) (fun _ => rfl) (ok_X12_upToFour hQ c7 (c7.1 201 4)) (fun x8 c9 => ?_)
  refine l1_callV hQ mt_X12_writeDigits mt_X12_putZeros rfl rfl (o := 201) (ci := 11) (As := [.int x8]) (rest := []) rfl rfl rfl rfl rfl rfl (st1 := fun _ => []) (fun _ => rfl) (ok_X12_putZeros hQ N c9 x8) (fun _ c10 => ?_)
  refine l1_many mt_X12_writeDigits (pc' := 2) (L' := [some (.ref 201), some (.int (v1 + 1))]) (st' := []) 2 rfl ?_
  exact hk2 c10 (v1 + 1)
set_option maxRecDepth 100000 in
theorem ok_X12_writeDigits_104 {Q : hS → am_H → Prop} (hQ : l1_em km Q) (N : Nat) : ∀ n : Nat, ∀ (c : hS) (v1 : Int32), l1_G (wN wV) Q am_i_X12_writeDigits 104 [some (.ref 201), some (.int v1)] [] c (f_X12_writeDigits_104 N n c v1) := by
  intro n
  induction n with
  | zero => intro c v1; exact l1_none
  | succ n ih =>
    intro c v1
    rw [f_X12_writeDigits_104]
    refine l1_many mt_X12_writeDigits (pc' := bif am_cc .ge v1 10 then 124 else 110) (L' := [some (.ref 201), some (.int v1)]) (st' := []) 3 rfl ?_
    refine l1_bif rfl ?_ ?_
    · refine l1_many mt_X12_writeDigits (pc' := 126) (L' := [some (.ref 201), some (.int v1)]) (st' := [.int 0, .ref 201]) 2 rfl ?_
      refine l1_callV hQ mt_X12_writeDigits mt_X12_put rfl rfl (o := 201) (ci := 11) (As := [.int 0]) (rest := []) rfl rfl rfl rfl rfl rfl (st1 := fun _ => []) (fun _ => rfl) (ok_X12_put hQ c 0) (fun _ c1 => ?_)
      refine l1_many mt_X12_writeDigits (pc' := 131) (L' := [some (.ref 201), some (.int v1)]) (st' := [.ref 201, .ref 201]) 2 rfl ?_
      refine l1_getI hQ mt_X12_writeDigits rfl (o := 201) (ci := 11) (k := 4) (a := 0) (b := 0) rfl rfl rfl rfl rfl ?_
      refine l1_callS mt_X12_writeDigits mt_X12_upToFour rfl rfl (As := [.int (c1.1 201 4)]) (rest := [.ref 201]) rfl rfl rfl (st1 := fun x2 => [.int x2, .ref 201]) (fun _ => rfl) (ok_X12_upToFour hQ c1 (c1.1 201 4)) (fun x2 c3 => ?_)
      refine l1_callV hQ mt_X12_writeDigits mt_X12_putZeros rfl rfl (o := 201) (ci := 11) (As := [.int x2]) (rest := []) rfl rfl rfl rfl rfl rfl (st1 := fun _ => []) (fun _ => rfl) (ok_X12_putZeros hQ N c3 x2) (fun _ c4 => ?_)
      exact l1_ret mt_X12_writeDigits rfl rfl rfl
    · refine l1_many mt_X12_writeDigits (pc' := 112) (L' := [some (.ref 201), some (.int v1)]) (st' := [.int v1, .ref 201]) 2 rfl ?_
      refine l1_callS mt_X12_writeDigits mt_X12_trailerAt rfl rfl (As := [.int v1]) (rest := [.ref 201]) rfl rfl rfl (st1 := fun x5 => [.int x5, .ref 201]) (fun _ => rfl) (ok_X12_trailerAt hQ c v1) (fun x5 c6 => ?_)
      refine l1_callV hQ mt_X12_writeDigits mt_X12_put rfl rfl (o := 201) (ci := 11) (As := [.int x5]) (rest := []) rfl rfl rfl rfl rfl rfl (st1 := fun _ => []) (fun _ => rfl) (ok_X12_put hQ c6 x5) (fun _ c7 => ?_)
      refine l1_many mt_X12_writeDigits (pc' := 104) (L' := [some (.ref 201), some (.int (v1 + 1))]) (st' := []) 2 rfl ?_
      exact ih c7 (v1 + 1)
set_option maxRecDepth 100000 in
theorem ok_X12_writeDigits_2 {Q : hS → am_H → Prop} (hQ : l1_em km Q) (N : Nat) : ∀ n : Nat, ∀ (c : hS) (v1 : Int32), l1_G (wN wV) Q am_i_X12_writeDigits 2 [some (.ref 201), some (.int v1)] [] c (f_X12_writeDigits_2 N n c v1) := by
  intro n
  induction n with
  | zero => intro c v1; exact l1_none
  | succ n ih =>
    intro c v1
    rw [f_X12_writeDigits_2]
    refine l1_many mt_X12_writeDigits (pc' := 4) (L' := [some (.ref 201), some (.int v1)]) (st' := [.ref 201, .int v1]) 2 rfl ?_
    refine l1_getI hQ mt_X12_writeDigits rfl (o := 201) (ci := 11) (k := 7) (a := 0) (b := 0) rfl rfl rfl rfl rfl ?_
    refine l1_many mt_X12_writeDigits (pc' := bif am_cc .ge v1 (c.1 201 7) then 93 else 10) (L' := [some (.ref 201), some (.int v1)]) (st' := []) 1 rfl ?_
    refine l1_bif rfl ?_ ?_
    · refine l1_many mt_X12_writeDigits (pc' := 99) (L' := [some (.ref 201), some (.int v1)]) (st' := [.int 11, .int 0, .int 0, .int 0, .ref 201]) 5 rfl ?_
      refine l1_callV hQ mt_X12_writeDigits mt_X12_putDigitsHead rfl rfl (o := 201) (ci := 11) (As := [.int 0, .int 0, .int 0, .int 11]) (rest := []) rfl rfl rfl rfl rfl rfl (st1 := fun _ => []) (fun _ => rfl) (ok_X12_putDigitsHead hQ N c 0 0 0 11) (fun _ c1 => ?_)
      refine l1_many mt_X12_writeDigits (pc' := 104) (L' := [some (.ref 201), some (.int 0)]) (st' := []) 2 rfl ?_
      exact ok_X12_writeDigits_104 hQ N N c1 0
    · refine l1_many mt_X12_writeDigits (pc' := 15) (L' := [some (.ref 201), some (.int v1)]) (st' := [.ref 201, .int (v1 + 1), .ref 201]) 5 rfl ?_
      refine l1_getR hQ mt_X12_writeDigits rfl (o := 201) (ci := 11) (k := 13) (a := 0) (b := 0) rfl rfl rfl rfl rfl (q := 208) rfl ?_
      refine l1_many mt_X12_writeDigits (pc' := 19) (L' := [some (.ref 201), some (.int v1)]) (st' := [.int v1, .ref 208, .int (v1 + 1), .ref 201]) 1 rfl ?_
      refine l1_ck (fun hx => ?_)
      refine l1_bld hQ mt_X12_writeDigits rfl (o := 208) rfl hx ?_
      refine l1_many mt_X12_writeDigits (pc' := bif am_cc .eq (c.1 208 v1.toNatClampNeg) 0 then 29 else 23) (L' := [some (.ref 201), some (.int v1)]) (st' := [.int (v1 + 1), .ref 201]) 1 rfl ?_
      refine l1_bif rfl ?_ ?_
      · refine l1_many mt_X12_writeDigits (pc' := 32) (L' := [some (.ref 201), some (.int v1)]) (st' := [.int 33188, .int (v1 + 1), .ref 201]) 1 rfl ?_
        exact ok_X12_writeDigits_32 hQ N ih c v1 33188 (v1 + 1)
      · refine l1_many mt_X12_writeDigits (pc' := 32) (L' := [some (.ref 201), some (.int v1)]) (st' := [.int 16877, .int (v1 + 1), .ref 201]) 2 rfl ?_
        exact ok_X12_writeDigits_32 hQ N ih c v1 16877 (v1 + 1)
set_option maxRecDepth 100000 in
theorem en_X12_writeDigits {Q : hS → am_H → Prop} (hQ : l1_em km Q) (N : Nat) (c : hS) : l1_G (wN wV) Q am_i_X12_writeDigits 0 [some (.ref 201)] [] c (f_X12_writeDigits N c) := by
  rw [f_X12_writeDigits]
  refine l1_many mt_X12_writeDigits (pc' := 2) (L' := [some (.ref 201), some (.int 0)]) (st' := []) 2 rfl ?_
  exact ok_X12_writeDigits_2 hQ N N c 0
theorem ok_X12_writeDigits {Q : hS → am_H → Prop} (hQ : l1_em km Q) (N : Nat) (c : hS) : l1_T wV Q am_i_X12_writeDigits [.ref 201] c (f_X12_writeDigits N c) := l1_of (en_X12_writeDigits hQ N c) ⟨rfl, trivial⟩
set_option maxRecDepth 100000 in
theorem en_X12_putTwo {Q : hS → am_H → Prop} (hQ : l1_em km Q) (c : hS) (p1 : Int32) : l1_G (wN wV) Q am_i_X12_putTwo 0 [some (.ref 201), some (.int p1)] [] c (f_X12_putTwo c p1) := by
  rw [f_X12_putTwo]
  refine l1_many mt_X12_putTwo (pc' := 2) (L' := [some (.ref 201), some (.int p1)]) (st' := [.int p1, .ref 201]) 2 rfl ?_
  refine l1_callV hQ mt_X12_putTwo mt_X12_put rfl rfl (o := 201) (ci := 11) (As := [.int p1]) (rest := []) rfl rfl rfl rfl rfl rfl (st1 := fun _ => []) (fun _ => rfl) (ok_X12_put hQ c p1) (fun _ c1 => ?_)
  refine l1_many mt_X12_putTwo (pc' := 10) (L' := [some (.ref 201), some (.int p1)]) (st' := [.int (j_shr p1 8), .ref 201]) 4 rfl ?_
  refine l1_callV hQ mt_X12_putTwo mt_X12_put rfl rfl (o := 201) (ci := 11) (As := [.int (j_shr p1 8)]) (rest := []) rfl rfl rfl rfl rfl rfl (st1 := fun _ => []) (fun _ => rfl) (ok_X12_put hQ c1 (j_shr p1 8)) (fun _ c2 => ?_)
  exact l1_ret mt_X12_putTwo rfl rfl rfl
theorem ok_X12_putTwo {Q : hS → am_H → Prop} (hQ : l1_em km Q) (c : hS) (p1 : Int32) : l1_T wV Q am_i_X12_putTwo [.ref 201, .int p1] c (f_X12_putTwo c p1) := l1_of (en_X12_putTwo hQ c p1) ⟨rfl, rfl, trivial⟩
set_option maxRecDepth 100000 in
theorem en_X12_putFour {Q : hS → am_H → Prop} (hQ : l1_em km Q) (c : hS) (p1 : Int32) : l1_G (wN wV) Q am_i_X12_putFour 0 [some (.ref 201), some (.int p1)] [] c (f_X12_putFour c p1) := by
  rw [f_X12_putFour]
  refine l1_many mt_X12_putFour (pc' := 2) (L' := [some (.ref 201), some (.int p1)]) (st' := [.int p1, .ref 201]) 2 rfl ?_
  refine l1_callV hQ mt_X12_putFour mt_X12_putTwo rfl rfl (o := 201) (ci := 11) (As := [.int p1]) (rest := []) rfl rfl rfl rfl rfl rfl (st1 := fun _ => []) (fun _ => rfl) (ok_X12_putTwo hQ c p1) (fun _ c1 => ?_)
  refine l1_many mt_X12_putFour (pc' := 10) (L' := [some (.ref 201), some (.int p1)]) (st' := [.int (j_shr p1 16), .ref 201]) 4 rfl ?_
  refine l1_callV hQ mt_X12_putFour mt_X12_putTwo rfl rfl (o := 201) (ci := 11) (As := [.int (j_shr p1 16)]) (rest := []) rfl rfl rfl rfl rfl rfl (st1 := fun _ => []) (fun _ => rfl) (ok_X12_putTwo hQ c1 (j_shr p1 16)) (fun _ c2 => ?_)
  exact l1_ret mt_X12_putFour rfl rfl rfl
theorem ok_X12_putFour {Q : hS → am_H → Prop} (hQ : l1_em km Q) (c : hS) (p1 : Int32) : l1_T wV Q am_i_X12_putFour [.ref 201, .int p1] c (f_X12_putFour c p1) := l1_of (en_X12_putFour hQ c p1) ⟨rfl, rfl, trivial⟩
set_option maxRecDepth 100000 in
theorem ok_X12_checkOf_4 {Q : hS → am_H → Prop} (hQ : l1_em km Q) (N : Nat) (p1 : Int32) : ∀ n : Nat, ∀ (c : hS) (v2 : Int32) (v3 : Int32), l1_G (wN wI) Q am_i_X12_checkOf 4 [some (.ref 201), some (.int p1), some (.int v2), some (.int v3)] [] c (f_X12_checkOf_4 N p1 n c v2 v3) := by
  intro n
  induction n with
  | zero => intro c v2 v3; exact l1_none
  | succ n ih =>
    intro c v2 v3
    rw [f_X12_checkOf_4]
    refine l1_many mt_X12_checkOf (pc' := 6) (L' := [some (.ref 201), some (.int p1), some (.int v2), some (.int v3)]) (st' := [.ref 201, .int v3]) 2 rfl ?_
    refine l1_getR hQ mt_X12_checkOf rfl (o := 201) (ci := 11) (k := 11) (a := 0) (b := 0) rfl rfl rfl rfl rfl (q := 206) rfl ?_
    refine l1_many mt_X12_checkOf (pc' := 10) (L' := [some (.ref 201), some (.int p1), some (.int v2), some (.int v3)]) (st' := [.int p1, .ref 206, .int v3]) 1 rfl ?_
    refine l1_ck (fun hx => ?_)
    refine l1_ald hQ mt_X12_checkOf rfl (o := 206) rfl hx ?_
    refine l1_many mt_X12_checkOf (pc' := bif am_cc .ge v3 (c.1 206 p1.toNatClampNeg) then 37 else 14) (L' := [some (.ref 201), some (.int p1), some (.int v2), some (.int v3)]) (st' := []) 1 rfl ?_
    refine l1_bif rfl ?_ ?_
    · refine l1_many mt_X12_checkOf (pc' := 40) (L' := [some (.ref 201), some (.int p1), some (.int v2), some (.int v3)]) (st' := [.int (v2 ^^^ (-1))]) 3 rfl ?_
      exact l1_ret mt_X12_checkOf rfl rfl rfl
    · refine l1_many mt_X12_checkOf (pc' := 16) (L' := [some (.ref 201), some (.int p1), some (.int v2), some (.int v3)]) (st' := [.ref 201, .int v2]) 2 rfl ?_
      refine l1_getR hQ mt_X12_checkOf rfl (o := 201) (ci := 11) (k := 12) (a := 0) (b := 0) rfl rfl rfl rfl rfl (q := 207) rfl ?_
      refine l1_many mt_X12_checkOf (pc' := 26) (L' := [some (.ref 201), some (.int p1), some (.int v2), some (.int v3)]) (st' := [.int ((400 * p1) + v3), .ref 207, .int v2]) 5 rfl ?_
      refine l1_ck (fun hx => ?_)
      refine l1_ald hQ mt_X12_checkOf rfl (o := 207) rfl hx ?_
      refine l1_callS mt_X12_checkOf mt_X12_checkMore rfl rfl (As := [.int v2, .int (c.1 207 ((400 * p1) + v3).toNatClampNeg)]) (rest := []) rfl rfl rfl (st1 := fun x1 => [.int x1]) (fun _ => rfl) (ok_X12_checkMore hQ N c v2 (c.1 207 ((400 * p1) + v3).toNatClampNeg)) (fun x1 c2 => ?_)
      refine l1_many mt_X12_checkOf (pc' := 4) (L' := [some (.ref 201), some (.int p1), some (.int x1), some (.int (v3 + 1))]) (st' := []) 3 rfl ?_
      exact ih c2 x1 (v3 + 1)
set_option maxRecDepth 100000 in
theorem en_X12_checkOf {Q : hS → am_H → Prop} (hQ : l1_em km Q) (N : Nat) (c : hS) (p1 : Int32) : l1_G (wN wI) Q am_i_X12_checkOf 0 [some (.ref 201), some (.int p1)] [] c (f_X12_checkOf N c p1) := by
  rw [f_X12_checkOf]
  refine l1_many mt_X12_checkOf (pc' := 4) (L' := [some (.ref 201), some (.int p1), some (.int (-1)), some (.int 0)]) (st' := []) 4 rfl ?_
  exact ok_X12_checkOf_4 hQ N p1 N c (-1) 0
theorem ok_X12_checkOf {Q : hS → am_H → Prop} (hQ : l1_em km Q) (N : Nat) (c : hS) (p1 : Int32) : l1_T wI Q am_i_X12_checkOf [.ref 201, .int p1] c (f_X12_checkOf N c p1) := l1_of (en_X12_checkOf hQ N c p1) ⟨rfl, rfl, trivial⟩
set_option maxRecDepth 100000 in
theorem en_X12_namedSize {Q : hS → am_H → Prop} (hQ : l1_em km Q) (c : hS) (p1 : Int32) : l1_G (wN wI) Q am_i_X12_namedSize 0 [some (.ref 201), some (.int p1)] [] c (f_X12_namedSize c p1) := by
  rw [f_X12_namedSize]
  refine l1_many mt_X12_namedSize (pc' := 1) (L' := [some (.ref 201), some (.int p1)]) (st' := [.ref 201]) 1 rfl ?_
  refine l1_getR hQ mt_X12_namedSize rfl (o := 201) (ci := 11) (k := 9) (a := 0) (b := 0) rfl rfl rfl rfl rfl (q := 204) rfl ?_
  refine l1_many mt_X12_namedSize (pc' := 5) (L' := [some (.ref 201), some (.int p1)]) (st' := [.int p1, .ref 204]) 1 rfl ?_
  refine l1_ck (fun hx => ?_)
  refine l1_ald hQ mt_X12_namedSize rfl (o := 204) rfl hx ?_
  refine l1_many mt_X12_namedSize (pc' := 7) (L' := [some (.ref 201), some (.int p1)]) (st' := [.ref 201, .int (c.1 204 p1.toNatClampNeg)]) 1 rfl ?_
  refine l1_getR hQ mt_X12_namedSize rfl (o := 201) (ci := 11) (k := 13) (a := 0) (b := 0) rfl rfl rfl rfl rfl (q := 208) rfl ?_
  refine l1_many mt_X12_namedSize (pc' := 11) (L' := [some (.ref 201), some (.int p1)]) (st' := [.int p1, .ref 208, .int (c.1 204 p1.toNatClampNeg)]) 1 rfl ?_
  refine l1_ck (fun hx => ?_)
  refine l1_bld hQ mt_X12_namedSize rfl (o := 208) rfl hx ?_
  refine l1_many mt_X12_namedSize (pc' := bif am_cc .eq (c.1 208 p1.toNatClampNeg) 0 then 19 else 15) (L' := [some (.ref 201), some (.int p1)]) (st' := [.int (c.1 204 p1.toNatClampNeg)]) 1 rfl ?_
  refine l1_bif rfl ?_ ?_
  · refine l1_many mt_X12_namedSize (pc' := 21) (L' := [some (.ref 201), some (.int p1)]) (st' := [.int ((c.1 204 p1.toNatClampNeg) + 0)]) 2 rfl ?_
    exact l1_ret mt_X12_namedSize rfl rfl rfl
  · refine l1_many mt_X12_namedSize (pc' := 21) (L' := [some (.ref 201), some (.int p1)]) (st' := [.int ((c.1 204 p1.toNatClampNeg) + 1)]) 3 rfl ?_
    exact l1_ret mt_X12_namedSize rfl rfl rfl
theorem ok_X12_namedSize {Q : hS → am_H → Prop} (hQ : l1_em km Q) (c : hS) (p1 : Int32) : l1_T wI Q am_i_X12_namedSize [.ref 201, .int p1] c (f_X12_namedSize c p1) := l1_of (en_X12_namedSize hQ c p1) ⟨rfl, rfl, trivial⟩
set_option maxRecDepth 100000 in
theorem ok_X12_fourInto_2 {Q : hS → am_H → Prop} (hQ : l1_em km Q) (N : Nat) (p1 : Int32) (p2 : Int32) : ∀ n : Nat, ∀ (c : hS) (v3 : Int32), l1_G (wN wV) Q am_i_X12_fourInto 2 [some (.ref 201), some (.int p1), some (.int p2), some (.int v3)] [] c (f_X12_fourInto_2 N p1 p2 n c v3) := by
  intro n
  induction n with
  | zero => intro c v3; exact l1_none
  | succ n ih =>
    intro c v3
    rw [f_X12_fourInto_2]
    refine l1_many mt_X12_fourInto (pc' := bif am_cc .ge v3 4 then 31 else 7) (L' := [some (.ref 201), some (.int p1), some (.int p2), some (.int v3)]) (st' := []) 3 rfl ?_
    refine l1_bif rfl ?_ ?_
    · exact l1_ret mt_X12_fourInto rfl rfl rfl
    · refine l1_many mt_X12_fourInto (pc' := 8) (L' := [some (.ref 201), some (.int p1), some (.int p2), some (.int v3)]) (st' := [.ref 201]) 1 rfl ?_
      refine l1_getR hQ mt_X12_fourInto rfl (o := 201) (ci := 11) (k := 3) (a := 0) (b := 0) rfl rfl rfl rfl rfl (q := 203) rfl ?_
      refine l1_many mt_X12_fourInto (pc' := 24) (L' := [some (.ref 201), some (.int p1), some (.int p2), some (.int v3)]) (st' := [.int ((j_shr p2 (8 * v3)) &&& 255), .int (p1 + v3), .ref 203]) 10 rfl ?_
      refine l1_ck (fun hx => ?_)
      refine l1_ast hQ mt_X12_fourInto rfl (o := 203) rfl hx (fun c1 => ?_)
      refine l1_many mt_X12_fourInto (pc' := 2) (L' := [some (.ref 201), some (.int p1), some (.int p2), some (.int (v3 + 1))]) (st' := []) 2 rfl ?_
      exact ih c1 (v3 + 1)
set_option maxRecDepth 100000 in
theorem en_X12_fourInto {Q : hS → am_H → Prop} (hQ : l1_em km Q) (N : Nat) (c : hS) (p1 : Int32) (p2 : Int32) : l1_G (wN wV) Q am_i_X12_fourInto 0 [some (.ref 201), some (.int p1), some (.int p2)] [] c (f_X12_fourInto N c p1 p2) := by
  rw [f_X12_fourInto]
  refine l1_many mt_X12_fourInto (pc' := 2) (L' := [some (.ref 201), some (.int p1), some (.int p2), some (.int 0)]) (st' := []) 2 rfl ?_
  exact ok_X12_fourInto_2 hQ N p1 p2 N c 0
theorem ok_X12_fourInto {Q : hS → am_H → Prop} (hQ : l1_em km Q) (N : Nat) (c : hS) (p1 : Int32) (p2 : Int32) : l1_T wV Q am_i_X12_fourInto [.ref 201, .int p1, .int p2] c (f_X12_fourInto N c p1 p2) := l1_of (en_X12_fourInto hQ N c p1 p2) ⟨rfl, rfl, rfl, trivial⟩
set_option maxRecDepth 100000 in
theorem ok_X12_writeLocal_212 {Q : hS → am_H → Prop} (hQ : l1_em km Q) (N : Nat) (p1 : Int32) (p2 : Int32) : ∀ (c : hS) (v3 : Int32) (v4 : Int32), l1_G (wN wV) Q am_i_X12_writeLocal 212 [some (.ref 201), some (.int p1), none, some (.int v3), some (.int v4)] [] c (f_X12_writeLocal_212 N p1 p2 c v3 v4) := by
  intro c v3 v4
  rw [f_X12_writeLocal_212]
  refine l1_many mt_X12_writeLocal (pc' := 213) (L' := [some (.ref 201), some (.int p1), none, some (.int v3), some (.int v4)]) (st' := [.ref 201]) 1 rfl ?_
  refine l1_getR hQ mt_X12_writeLocal rfl (o := 201) (ci := 11) (k := 38) (a := 0) (b := 0) rfl rfl rfl rfl rfl (q := 218) rfl ?_
  refine l1_many mt_X12_writeLocal (pc' := 218) (L' := [some (.ref 201), some (.int p1), none, some (.int v3), some (.int v4)]) (st' := [.ref 201, .int p1, .ref 218]) 2 rfl ?_
  refine l1_getI hQ mt_X12_writeLocal rfl (o := 201) (ci := 11) (k := 4) (a := 0) (b := 0) rfl rfl rfl rfl rfl ?_
  refine l1_many mt_X12_writeLocal (pc' := 224) (L' := [some (.ref 201), some (.int p1), none, some (.int v3), some (.int v4)]) (st' := [.int ((c.1 201 4) - v4), .int p1, .ref 218]) 2 rfl ?_
  refine l1_ck (fun hx => ?_)
  refine l1_ast hQ mt_X12_writeLocal rfl (o := 218) rfl hx (fun c1 => ?_)
  refine l1_many mt_X12_writeLocal (pc' := 231) (L' := [some (.ref 201), some (.int p1), none, some (.int v3), some (.int v4)]) (st' := [.ref 201, .int (v3 + 18), .ref 201]) 5 rfl ?_
  refine l1_getR hQ mt_X12_writeLocal rfl (o := 201) (ci := 11) (k := 38) (a := 0) (b := 0) rfl rfl rfl rfl rfl (q := 218) rfl ?_
  refine l1_many mt_X12_writeLocal (pc' := 235) (L' := [some (.ref 201), some (.int p1), none, some (.int v3), some (.int v4)]) (st' := [.int p1, .ref 218, .int (v3 + 18), .ref 201]) 1 rfl ?_
  refine l1_ck (fun hx => ?_)
  refine l1_ald hQ mt_X12_writeLocal rfl (o := 218) rfl hx ?_
  refine l1_callV hQ mt_X12_writeLocal mt_X12_fourInto rfl rfl (o := 201) (ci := 11) (As := [.int (v3 + 18), .int (c1.1 218 p1.toNatClampNeg)]) (rest := []) rfl rfl rfl rfl rfl rfl (st1 := fun _ => []) (fun _ => rfl) (ok_X12_fourInto hQ N c1 (v3 + 18) (c1.1 218 p1.toNatClampNeg)) (fun _ c2 => ?_)
  exact l1_ret mt_X12_writeLocal rfl rfl rfl
set_option maxRecDepth 100000 in
theorem ok_X12_writeLocal_165 {Q : hS → am_H → Prop} (hQ : l1_em km Q) (N : Nat) (p1 : Int32) (p2 : Int32) : ∀ n : Nat, ∀ (c : hS) (v3 : Int32) (v4 : Int32) (v5 : Int32), l1_G (wN wV) Q am_i_X12_writeLocal 165 [some (.ref 201), some (.int p1), none, some (.int v3), some (.int v4), some (.int v5)] [] c (f_X12_writeLocal_165 N p1 p2 n c v3 v4 v5) := by
  intro n
  induction n with
  | zero => intro c v3 v4 v5; exact l1_none
  | succ n ih =>
    intro c v3 v4 v5
    rw [f_X12_writeLocal_165]
    refine l1_many mt_X12_writeLocal (pc' := 168) (L' := [some (.ref 201), some (.int p1), none, some (.int v3), some (.int v4), some (.int v5)]) (st' := [.ref 201, .int v5]) 2 rfl ?_
    refine l1_getI hQ mt_X12_writeLocal rfl (o := 201) (ci := 11) (k := 32) (a := 0) (b := 0) rfl rfl rfl rfl rfl ?_
    refine l1_many mt_X12_writeLocal (pc' := bif am_cc .ge v5 (c.1 201 32) then 200 else 174) (L' := [some (.ref 201), some (.int p1), none, some (.int v3), some (.int v4), some (.int v5)]) (st' := []) 1 rfl ?_
    refine l1_bif rfl ?_ ?_
    · refine l1_many mt_X12_writeLocal (pc' := 201) (L' := [some (.ref 201), some (.int p1), none, some (.int v3), some (.int v4), some (.int v5)]) (st' := [.ref 201]) 1 rfl ?_
      refine l1_callV hQ mt_X12_writeLocal mt_X12_putPacked rfl rfl (o := 201) (ci := 11) (As := []) (rest := []) rfl rfl rfl rfl rfl rfl (st1 := fun _ => []) (fun _ => rfl) (ok_X12_putPacked hQ N c) (fun _ c1 => ?_)
      refine l1_many mt_X12_writeLocal (pc' := 212) (L' := [some (.ref 201), some (.int p1), none, some (.int v3), some (.int v4), some (.int v5)]) (st' := []) 1 rfl ?_
      refine l1_weak (m := [true, true, false, true, true, false]) (L' := [some (.ref 201), some (.int p1), none, some (.int v3), some (.int v4)]) rfl ?_
      exact ok_X12_writeLocal_212 hQ N p1 p2 c1 v3 v4
    · refine l1_many mt_X12_writeLocal (pc' := 175) (L' := [some (.ref 201), some (.int p1), none, some (.int v3), some (.int v4), some (.int v5)]) (st' := [.ref 201]) 1 rfl ?_
      refine l1_getR hQ mt_X12_writeLocal rfl (o := 201) (ci := 11) (k := 31) (a := 0) (b := 0) rfl rfl rfl rfl rfl (q := 215) rfl ?_
      refine l1_many mt_X12_writeLocal (pc' := 181) (L' := [some (.ref 201), some (.int p1), none, some (.int v3), some (.int v4), some (.int v5)]) (st' := [.ref 201, .int v5, .ref 215]) 2 rfl ?_
      refine l1_getR hQ mt_X12_writeLocal rfl (o := 201) (ci := 11) (k := 12) (a := 0) (b := 0) rfl rfl rfl rfl rfl (q := 207) rfl ?_
      refine l1_many mt_X12_writeLocal (pc' := 192) (L' := [some (.ref 201), some (.int p1), none, some (.int v3), some (.int v4), some (.int v5)]) (st' := [.int ((400 * p1) + v5), .ref 207, .int v5, .ref 215]) 5 rfl ?_
      refine l1_ck (fun hx => ?_)
      refine l1_ald hQ mt_X12_writeLocal rfl (o := 207) rfl hx ?_
      refine l1_ck (fun hx => ?_)
      refine l1_ast hQ mt_X12_writeLocal rfl (o := 215) rfl hx (fun c2 => ?_)
      refine l1_many mt_X12_writeLocal (pc' := 165) (L' := [some (.ref 201), some (.int p1), none, some (.int v3), some (.int v4), some (.int (v5 + 1))]) (st' := []) 2 rfl ?_
      exact ih c2 v3 v4 (v5 + 1)
set_option maxRecDepth 100000 in
theorem ok_X12_writeLocal_36 {Q : hS → am_H → Prop} (hQ : l1_em km Q) (N : Nat) (p1 : Int32) (p2 : Int32) : ∀ (c : hS) (v3 : Int32) (w0 : Int32) (w1 : Int32), l1_G (wN wV) Q am_i_X12_writeLocal 36 [some (.ref 201), some (.int p1), none, some (.int v3)] [.int w0, .int w1, .ref 217] c (f_X12_writeLocal_36 N p1 p2 c v3 w0 w1) := by
  intro c v3 w0 w1
  rw [f_X12_writeLocal_36]
  refine l1_ck (fun hx => ?_)
  refine l1_ast hQ mt_X12_writeLocal rfl (o := 217) rfl hx (fun c1 => ?_)
  refine l1_many mt_X12_writeLocal (pc' := 40) (L' := [some (.ref 201), some (.int p1), none, some (.int v3)]) (st' := [.int 80, .ref 201]) 2 rfl ?_
  refine l1_callV hQ mt_X12_writeLocal mt_X12_put rfl rfl (o := 201) (ci := 11) (As := [.int 80]) (rest := []) rfl rfl rfl rfl rfl rfl (st1 := fun _ => []) (fun _ => rfl) (ok_X12_put hQ c1 80) (fun _ c2 => ?_)
  refine l1_many mt_X12_writeLocal (pc' := 46) (L' := [some (.ref 201), some (.int p1), none, some (.int v3)]) (st' := [.int 75, .ref 201]) 2 rfl ?_
  refine l1_callV hQ mt_X12_writeLocal mt_X12_put rfl rfl (o := 201) (ci := 11) (As := [.int 75]) (rest := []) rfl rfl rfl rfl rfl rfl (st1 := fun _ => []) (fun _ => rfl) (ok_X12_put hQ c2 75) (fun _ c3 => ?_)
  refine l1_many mt_X12_writeLocal (pc' := 51) (L' := [some (.ref 201), some (.int p1), none, some (.int v3)]) (st' := [.int 3, .ref 201]) 2 rfl ?_
  refine l1_callV hQ mt_X12_writeLocal mt_X12_put rfl rfl (o := 201) (ci := 11) (As := [.int 3]) (rest := []) rfl rfl rfl rfl rfl rfl (st1 := fun _ => []) (fun _ => rfl) (ok_X12_put hQ c3 3) (fun _ c4 => ?_)
  refine l1_many mt_X12_writeLocal (pc' := 56) (L' := [some (.ref 201), some (.int p1), none, some (.int v3)]) (st' := [.int 4, .ref 201]) 2 rfl ?_
  refine l1_callV hQ mt_X12_writeLocal mt_X12_put rfl rfl (o := 201) (ci := 11) (As := [.int 4]) (rest := []) rfl rfl rfl rfl rfl rfl (st1 := fun _ => []) (fun _ => rfl) (ok_X12_put hQ c4 4) (fun _ c5 => ?_)
  refine l1_many mt_X12_writeLocal (pc' := 62) (L' := [some (.ref 201), some (.int p1), none, some (.int v3)]) (st' := [.int 20, .ref 201]) 2 rfl ?_
  refine l1_callV hQ mt_X12_writeLocal mt_X12_putTwo rfl rfl (o := 201) (ci := 11) (As := [.int 20]) (rest := []) rfl rfl rfl rfl rfl rfl (st1 := fun _ => []) (fun _ => rfl) (ok_X12_putTwo hQ c5 20) (fun _ c6 => ?_)
  refine l1_many mt_X12_writeLocal (pc' := 67) (L' := [some (.ref 201), some (.int p1), none, some (.int v3)]) (st' := [.int 0, .ref 201]) 2 rfl ?_
  refine l1_callV hQ mt_X12_writeLocal mt_X12_putTwo rfl rfl (o := 201) (ci := 11) (As := [.int 0]) (rest := []) rfl rfl rfl rfl rfl rfl (st1 := fun _ => []) (fun _ => rfl) (ok_X12_putTwo hQ c6 0) (fun _ c7 => ?_)
  refine l1_many mt_X12_writeLocal (pc' := 72) (L' := [some (.ref 201), some (.int p1), none, some (.int v3)]) (st' := [.ref 201, .ref 201]) 2 rfl ?_
  refine l1_getR hQ mt_X12_writeLocal rfl (o := 201) (ci := 11) (k := 37) (a := 0) (b := 0) rfl rfl rfl rfl rfl (q := 217) rfl ?_
  refine l1_many mt_X12_writeLocal (pc' := 76) (L' := [some (.ref 201), some (.int p1), none, some (.int v3)]) (st' := [.int p1, .ref 217, .ref 201]) 1 rfl ?_
  refine l1_ck (fun hx => ?_)
  refine l1_ald hQ mt_X12_writeLocal rfl (o := 217) rfl hx ?_
  refine l1_callV hQ mt_X12_writeLocal mt_X12_putTwo rfl rfl (o := 201) (ci := 11) (As := [.int (c7.1 217 p1.toNatClampNeg)]) (rest := []) rfl rfl rfl rfl rfl rfl (st1 := fun _ => []) (fun _ => rfl) (ok_X12_putTwo hQ c7 (c7.1 217 p1.toNatClampNeg)) (fun _ c8 => ?_)
  refine l1_many mt_X12_writeLocal (pc' := 82) (L' := [some (.ref 201), some (.int p1), none, some (.int v3)]) (st' := [.int 0, .ref 201]) 2 rfl ?_
  refine l1_callV hQ mt_X12_writeLocal mt_X12_putTwo rfl rfl (o := 201) (ci := 11) (As := [.int 0]) (rest := []) rfl rfl rfl rfl rfl rfl (st1 := fun _ => []) (fun _ => rfl) (ok_X12_putTwo hQ c8 0) (fun _ c9 => ?_)
  refine l1_many mt_X12_writeLocal (pc' := 88) (L' := [some (.ref 201), some (.int p1), none, some (.int v3)]) (st' := [.int 33, .ref 201]) 2 rfl ?_
  refine l1_callV hQ mt_X12_writeLocal mt_X12_putTwo rfl rfl (o := 201) (ci := 11) (As := [.int 33]) (rest := []) rfl rfl rfl rfl rfl rfl (st1 := fun _ => []) (fun _ => rfl) (ok_X12_putTwo hQ c9 33) (fun _ c10 => ?_)
  refine l1_many mt_X12_writeLocal (pc' := 94) (L' := [some (.ref 201), some (.int p1), none, some (.int v3)]) (st' := [.int p1, .ref 201, .ref 201]) 3 rfl ?_
  refine l1_callV hQ mt_X12_writeLocal mt_X12_checkOf rfl rfl (o := 201) (ci := 11) (As := [.int p1]) (rest := [.ref 201]) rfl rfl rfl rfl rfl rfl (st1 := fun x11 => [.int x11, .ref 201]) (fun _ => rfl) (ok_X12_checkOf hQ N c10 p1) (fun x11 c12 => ?_)
  refine l1_callV hQ mt_X12_writeLocal mt_X12_putFour rfl rfl (o := 201) (ci := 11) (As := [.int x11]) (rest := []) rfl rfl rfl rfl rfl rfl (st1 := fun _ => []) (fun _ => rfl) (ok_X12_putFour hQ c12 x11) (fun _ c13 => ?_)
  refine l1_many mt_X12_writeLocal (pc' := 102) (L' := [some (.ref 201), some (.int p1), none, some (.int v3)]) (st' := [.int 0, .ref 201]) 2 rfl ?_
  refine l1_callV hQ mt_X12_writeLocal mt_X12_putFour rfl rfl (o := 201) (ci := 11) (As := [.int 0]) (rest := []) rfl rfl rfl rfl rfl rfl (st1 := fun _ => []) (fun _ => rfl) (ok_X12_putFour hQ c13 0) (fun _ c14 => ?_)
  refine l1_many mt_X12_writeLocal (pc' := 107) (L' := [some (.ref 201), some (.int p1), none, some (.int v3)]) (st' := [.ref 201, .ref 201]) 2 rfl ?_
  refine l1_getR hQ mt_X12_writeLocal rfl (o := 201) (ci := 11) (k := 11) (a := 0) (b := 0) rfl rfl rfl rfl rfl (q := 206) rfl ?_
  refine l1_many mt_X12_writeLocal (pc' := 111) (L' := [some (.ref 201), some (.int p1), none, some (.int v3)]) (st' := [.int p1, .ref 206, .ref 201]) 1 rfl ?_
  refine l1_ck (fun hx => ?_)
  refine l1_ald hQ mt_X12_writeLocal rfl (o := 206) rfl hx ?_
  refine l1_callV hQ mt_X12_writeLocal mt_X12_putFour rfl rfl (o := 201) (ci := 11) (As := [.int (c14.1 206 p1.toNatClampNeg)]) (rest := []) rfl rfl rfl rfl rfl rfl (st1 := fun _ => []) (fun _ => rfl) (ok_X12_putFour hQ c14 (c14.1 206 p1.toNatClampNeg)) (fun _ c15 => ?_)
  refine l1_many mt_X12_writeLocal (pc' := 118) (L' := [some (.ref 201), some (.int p1), none, some (.int v3)]) (st' := [.int p1, .ref 201, .ref 201]) 3 rfl ?_
  refine l1_callV hQ mt_X12_writeLocal mt_X12_namedSize rfl rfl (o := 201) (ci := 11) (As := [.int p1]) (rest := [.ref 201]) rfl rfl rfl rfl rfl rfl (st1 := fun x16 => [.int x16, .ref 201]) (fun _ => rfl) (ok_X12_namedSize hQ c15 p1) (fun x16 c17 => ?_)
  refine l1_callV hQ mt_X12_writeLocal mt_X12_putTwo rfl rfl (o := 201) (ci := 11) (As := [.int x16]) (rest := []) rfl rfl rfl rfl rfl rfl (st1 := fun _ => []) (fun _ => rfl) (ok_X12_putTwo hQ c17 x16) (fun _ c18 => ?_)
  refine l1_many mt_X12_writeLocal (pc' := 126) (L' := [some (.ref 201), some (.int p1), none, some (.int v3)]) (st' := [.int 0, .ref 201]) 2 rfl ?_
  refine l1_callV hQ mt_X12_writeLocal mt_X12_putTwo rfl rfl (o := 201) (ci := 11) (As := [.int 0]) (rest := []) rfl rfl rfl rfl rfl rfl (st1 := fun _ => []) (fun _ => rfl) (ok_X12_putTwo hQ c18 0) (fun _ c19 => ?_)
  refine l1_many mt_X12_writeLocal (pc' := 132) (L' := [some (.ref 201), some (.int p1), none, some (.int v3)]) (st' := [.int 1, .int p1, .ref 201]) 3 rfl ?_
  refine l1_callV hQ mt_X12_writeLocal mt_X12_putName rfl rfl (o := 201) (ci := 11) (As := [.int p1, .int 1]) (rest := []) rfl rfl rfl rfl rfl rfl (st1 := fun _ => []) (fun _ => rfl) (ok_X12_putName hQ N c19 p1 1) (fun _ c20 => ?_)
  refine l1_many mt_X12_writeLocal (pc' := 136) (L' := [some (.ref 201), some (.int p1), none, some (.int v3)]) (st' := [.ref 201]) 1 rfl ?_
  refine l1_getI hQ mt_X12_writeLocal rfl (o := 201) (ci := 11) (k := 4) (a := 0) (b := 0) rfl rfl rfl rfl rfl ?_
  refine l1_many mt_X12_writeLocal (pc' := 142) (L' := [some (.ref 201), some (.int p1), none, some (.int v3), some (.int (c20.1 201 4))]) (st' := [.ref 201]) 2 rfl ?_
  refine l1_getR hQ mt_X12_writeLocal rfl (o := 201) (ci := 11) (k := 37) (a := 0) (b := 0) rfl rfl rfl rfl rfl (q := 217) rfl ?_
  refine l1_many mt_X12_writeLocal (pc' := 146) (L' := [some (.ref 201), some (.int p1), none, some (.int v3), some (.int (c20.1 201 4))]) (st' := [.int p1, .ref 217]) 1 rfl ?_
  refine l1_ck (fun hx => ?_)
  refine l1_ald hQ mt_X12_writeLocal rfl (o := 217) rfl hx ?_
  refine l1_many mt_X12_writeLocal (pc' := bif am_cc .ne (c20.1 217 p1.toNatClampNeg) 8 then 207 else 152) (L' := [some (.ref 201), some (.int p1), none, some (.int v3), some (.int (c20.1 201 4))]) (st' := []) 2 rfl ?_
  refine l1_bin rfl ?_ ?_
  · refine l1_many mt_X12_writeLocal (pc' := 154) (L' := [some (.ref 201), some (.int p1), none, some (.int v3), some (.int (c20.1 201 4))]) (st' := [.ref 201, .ref 201]) 2 rfl ?_
    refine l1_getR hQ mt_X12_writeLocal rfl (o := 201) (ci := 11) (k := 11) (a := 0) (b := 0) rfl rfl rfl rfl rfl (q := 206) rfl ?_
    refine l1_many mt_X12_writeLocal (pc' := 158) (L' := [some (.ref 201), some (.int p1), none, some (.int v3), some (.int (c20.1 201 4))]) (st' := [.int p1, .ref 206, .ref 201]) 1 rfl ?_
    refine l1_ck (fun hx => ?_)
    refine l1_ald hQ mt_X12_writeLocal rfl (o := 206) rfl hx ?_
    refine l1_putI hQ mt_X12_writeLocal rfl (o := 201) (ci := 11) (k := 32) (a := 0) rfl rfl rfl rfl rfl rfl (fun c22 => ?_)
    refine l1_many mt_X12_writeLocal (pc' := 165) (L' := [some (.ref 201), some (.int p1), none, some (.int v3), some (.int (c20.1 201 4)), some (.int 0)]) (st' := []) 2 rfl ?_
    exact ok_X12_writeLocal_165 hQ N p1 p2 N c22 v3 (c20.1 201 4) 0
  · refine l1_many mt_X12_writeLocal (pc' := 209) (L' := [some (.ref 201), some (.int p1), none, some (.int v3), some (.int (c20.1 201 4))]) (st' := [.int p1, .ref 201]) 2 rfl ?_
    refine l1_callV hQ mt_X12_writeLocal mt_X12_putBytes rfl rfl (o := 201) (ci := 11) (As := [.int p1]) (rest := []) rfl rfl rfl rfl rfl rfl (st1 := fun _ => []) (fun _ => rfl) (ok_X12_putBytes hQ N c20 p1) (fun _ c21 => ?_)
    exact ok_X12_writeLocal_212 hQ N p1 p2 c21 v3 (c20.1 201 4)
set_option maxRecDepth 100000 in
theorem ok_X12_writeLocal_35 {Q : hS → am_H → Prop} (hQ : l1_em km Q) (N : Nat) (p1 : Int32) (p2 : Int32) : ∀ (c : hS) (v3 : Int32) (w0 : Int32), l1_G (wN wV) Q am_i_X12_writeLocal 35 [some (.ref 201), some (.int p1), none, some (.int v3)] [.int w0, .ref 217] c (f_X12_writeLocal_35 N p1 p2 c v3 w0) := by
  intro c v3 w0
  rw [f_X12_writeLocal_35]
  refine l1_many mt_X12_writeLocal (pc' := 36) (L' := [some (.ref 201), some (.int p1), none, some (.int v3)]) (st' := [.int 0, .int w0, .ref 217]) 1 rfl ?_
  exact ok_X12_writeLocal_36 hQ N p1 p2 c v3 0 w0
set_option maxRecDepth 100000 in
theorem en_X12_writeLocal {Q : hS → am_H → Prop} (hQ : l1_em km Q) (N : Nat) (c : hS) (p1 : Int32) (p2 : Int32) : l1_G (wN wV) Q am_i_X12_writeLocal 0 [some (.ref 201), some (.int p1), some (.int p2)] [] c (f_X12_writeLocal N c p1 p2) := by
  rw [f_X12_writeLocal]
  refine l1_many mt_X12_writeLocal (pc' := 1) (L' := [some (.ref 201), some (.int p1), some (.int p2)]) (st' := [.ref 201]) 1 rfl ?_
  refine l1_getI hQ mt_X12_writeLocal rfl (o := 201) (ci := 11) (k := 4) (a := 0) (b := 0) rfl rfl rfl rfl rfl ?_
  refine l1_many mt_X12_writeLocal (pc' := 6) (L' := [some (.ref 201), some (.int p1), some (.int p2), some (.int (c.1 201 4))]) (st' := [.ref 201]) 2 rfl ?_
  refine l1_getR hQ mt_X12_writeLocal rfl (o := 201) (ci := 11) (k := 36) (a := 0) (b := 0) rfl rfl rfl rfl rfl (q := 216) rfl ?_
  refine l1_many mt_X12_writeLocal (pc' := 11) (L' := [some (.ref 201), some (.int p1), some (.int p2), some (.int (c.1 201 4))]) (st' := [.int (c.1 201 4), .int p1, .ref 216]) 2 rfl ?_
  refine l1_ck (fun hx => ?_)
  refine l1_ast hQ mt_X12_writeLocal rfl (o := 216) rfl hx (fun c1 => ?_)
  refine l1_many mt_X12_writeLocal (pc' := 13) (L' := [some (.ref 201), some (.int p1), some (.int p2), some (.int (c.1 201 4))]) (st' := [.ref 201]) 1 rfl ?_
  refine l1_getR hQ mt_X12_writeLocal rfl (o := 201) (ci := 11) (k := 37) (a := 0) (b := 0) rfl rfl rfl rfl rfl (q := 217) rfl ?_
  refine l1_many mt_X12_writeLocal (pc' := bif am_cc .eq p2 0 then 35 else 21) (L' := [some (.ref 201), some (.int p1), some (.int p2), some (.int (c.1 201 4))]) (st' := [.int p1, .ref 217]) 3 rfl ?_
  refine l1_bif rfl ?_ ?_
  · refine l1_weak (m := [true, true, false, true, false, false]) (L' := [some (.ref 201), some (.int p1), none, some (.int (c.1 201 4))]) rfl ?_
    exact ok_X12_writeLocal_35 hQ N p1 p2 c1 (c.1 201 4) p1
  · refine l1_many mt_X12_writeLocal (pc' := 22) (L' := [some (.ref 201), some (.int p1), some (.int p2), some (.int (c.1 201 4))]) (st' := [.ref 201, .int p1, .ref 217]) 1 rfl ?_
    refine l1_getR hQ mt_X12_writeLocal rfl (o := 201) (ci := 11) (k := 11) (a := 0) (b := 0) rfl rfl rfl rfl rfl (q := 206) rfl ?_
    refine l1_many mt_X12_writeLocal (pc' := 26) (L' := [some (.ref 201), some (.int p1), some (.int p2), some (.int (c.1 201 4))]) (st' := [.int p1, .ref 206, .int p1, .ref 217]) 1 rfl ?_
    refine l1_ck (fun hx => ?_)
    refine l1_ald hQ mt_X12_writeLocal rfl (o := 206) rfl hx ?_
    refine l1_many mt_X12_writeLocal (pc' := bif am_cc .le (c1.1 206 p1.toNatClampNeg) 0 then 35 else 30) (L' := [some (.ref 201), some (.int p1), some (.int p2), some (.int (c.1 201 4))]) (st' := [.int p1, .ref 217]) 1 rfl ?_
    refine l1_bif rfl ?_ ?_
    · refine l1_weak (m := [true, true, false, true, false, false]) (L' := [some (.ref 201), some (.int p1), none, some (.int (c.1 201 4))]) rfl ?_
      exact ok_X12_writeLocal_35 hQ N p1 p2 c1 (c.1 201 4) p1
    · refine l1_many mt_X12_writeLocal (pc' := 36) (L' := [some (.ref 201), some (.int p1), some (.int p2), some (.int (c.1 201 4))]) (st' := [.int 8, .int p1, .ref 217]) 2 rfl ?_
      refine l1_weak (m := [true, true, false, true, false, false]) (L' := [some (.ref 201), some (.int p1), none, some (.int (c.1 201 4))]) rfl ?_
      exact ok_X12_writeLocal_36 hQ N p1 p2 c1 (c.1 201 4) 8 p1
theorem ok_X12_writeLocal {Q : hS → am_H → Prop} (hQ : l1_em km Q) (N : Nat) (c : hS) (p1 : Int32) (p2 : Int32) : l1_T wV Q am_i_X12_writeLocal [.ref 201, .int p1, .int p2] c (f_X12_writeLocal N c p1 p2) := l1_of (en_X12_writeLocal hQ N c p1 p2) ⟨rfl, rfl, rfl, trivial⟩
end
section
/-! THAT THE MACHINE FOLLOWS THEM, printed by gen_l1.py -/
set_option maxRecDepth 100000 in
theorem ok_X12_writeEntry_100 {Q : hS → am_H → Prop} (hQ : l1_em km Q) (N : Nat) (p1 : Int32) : ∀ n : Nat, ∀ (c : hS) (v2 : Int32), l1_G (wN wV) Q am_i_X12_writeEntry 100 [some (.ref 201), some (.int p1), some (.int v2)] [] c (f_X12_writeEntry_100 N p1 n c v2) := by
  intro n
  induction n with
  | zero => intro c v2; exact l1_none
  | succ n ih =>
    intro c v2
    rw [f_X12_writeEntry_100]
    refine l1_many mt_X12_writeEntry (pc' := bif am_cc .ge v2 4 then 116 else 105) (L' := [some (.ref 201), some (.int p1), some (.int v2)]) (st' := []) 3 rfl ?_
    refine l1_bif rfl ?_ ?_
    · refine l1_many mt_X12_writeEntry (pc' := 118) (L' := [some (.ref 201), some (.int p1), some (.int v2)]) (st' := [.int 0, .ref 201]) 2 rfl ?_
      refine l1_callV hQ mt_X12_writeEntry mt_X12_putFour rfl rfl (o := 201) (ci := 11) (As := [.int 0]) (rest := []) rfl rfl rfl rfl rfl rfl (st1 := fun _ => []) (fun _ => rfl) (ok_X12_putFour hQ c 0) (fun _ c1 => ?_)
      refine l1_many mt_X12_writeEntry (pc' := 123) (L' := [some (.ref 201), some (.int p1), some (.int v2)]) (st' := [.ref 201, .ref 201]) 2 rfl ?_
      refine l1_getR hQ mt_X12_writeEntry rfl (o := 201) (ci := 11) (k := 36) (a := 0) (b := 0) rfl rfl rfl rfl rfl (q := 216) rfl ?_
      refine l1_many mt_X12_writeEntry (pc' := 127) (L' := [some (.ref 201), some (.int p1), some (.int v2)]) (st' := [.int p1, .ref 216, .ref 201]) 1 rfl ?_
      refine l1_ck (fun hx => ?_)
      refine l1_ald hQ mt_X12_writeEntry rfl (o := 216) rfl hx ?_
      refine l1_callV hQ mt_X12_writeEntry mt_X12_putFour rfl rfl (o := 201) (ci := 11) (As := [.int (c1.1 216 p1.toNatClampNeg)]) (rest := []) rfl rfl rfl rfl rfl rfl (st1 := fun _ => []) (fun _ => rfl) (ok_X12_putFour hQ c1 (c1.1 216 p1.toNatClampNeg)) (fun _ c2 => ?_)
      refine l1_many mt_X12_writeEntry (pc' := 134) (L' := [some (.ref 201), some (.int p1), some (.int v2)]) (st' := [.int 1, .int p1, .ref 201]) 3 rfl ?_
      refine l1_callV hQ mt_X12_writeEntry mt_X12_putName rfl rfl (o := 201) (ci := 11) (As := [.int p1, .int 1]) (rest := []) rfl rfl rfl rfl rfl rfl (st1 := fun _ => []) (fun _ => rfl) (ok_X12_putName hQ N c2 p1 1) (fun _ c3 => ?_)
      exact l1_ret mt_X12_writeEntry rfl rfl rfl
    · refine l1_many mt_X12_writeEntry (pc' := 107) (L' := [some (.ref 201), some (.int p1), some (.int v2)]) (st' := [.int 0, .ref 201]) 2 rfl ?_
      refine l1_callV hQ mt_X12_writeEntry mt_X12_putTwo rfl rfl (o := 201) (ci := 11) (As := [.int 0]) (rest := []) rfl rfl rfl rfl rfl rfl (st1 := fun _ => []) (fun _ => rfl) (ok_X12_putTwo hQ c 0) (fun _ c4 => ?_)
      refine l1_many mt_X12_writeEntry (pc' := 100) (L' := [some (.ref 201), some (.int p1), some (.int (v2 + 1))]) (st' := []) 2 rfl ?_
      exact ih c4 (v2 + 1)
set_option maxRecDepth 100000 in
theorem en_X12_writeEntry {Q : hS → am_H → Prop} (hQ : l1_em km Q) (N : Nat) (c : hS) (p1 : Int32) : l1_G (wN wV) Q am_i_X12_writeEntry 0 [some (.ref 201), some (.int p1)] [] c (f_X12_writeEntry N c p1) := by
  rw [f_X12_writeEntry]
  refine l1_many mt_X12_writeEntry (pc' := 3) (L' := [some (.ref 201), some (.int p1)]) (st' := [.int 80, .ref 201]) 2 rfl ?_
  refine l1_callV hQ mt_X12_writeEntry mt_X12_put rfl rfl (o := 201) (ci := 11) (As := [.int 80]) (rest := []) rfl rfl rfl rfl rfl rfl (st1 := fun _ => []) (fun _ => rfl) (ok_X12_put hQ c 80) (fun _ c1 => ?_)
  refine l1_many mt_X12_writeEntry (pc' := 9) (L' := [some (.ref 201), some (.int p1)]) (st' := [.int 75, .ref 201]) 2 rfl ?_
  refine l1_callV hQ mt_X12_writeEntry mt_X12_put rfl rfl (o := 201) (ci := 11) (As := [.int 75]) (rest := []) rfl rfl rfl rfl rfl rfl (st1 := fun _ => []) (fun _ => rfl) (ok_X12_put hQ c1 75) (fun _ c2 => ?_)
  refine l1_many mt_X12_writeEntry (pc' := 14) (L' := [some (.ref 201), some (.int p1)]) (st' := [.int 1, .ref 201]) 2 rfl ?_
  refine l1_callV hQ mt_X12_writeEntry mt_X12_put rfl rfl (o := 201) (ci := 11) (As := [.int 1]) (rest := []) rfl rfl rfl rfl rfl rfl (st1 := fun _ => []) (fun _ => rfl) (ok_X12_put hQ c2 1) (fun _ c3 => ?_)
  refine l1_many mt_X12_writeEntry (pc' := 19) (L' := [some (.ref 201), some (.int p1)]) (st' := [.int 2, .ref 201]) 2 rfl ?_
  refine l1_callV hQ mt_X12_writeEntry mt_X12_put rfl rfl (o := 201) (ci := 11) (As := [.int 2]) (rest := []) rfl rfl rfl rfl rfl rfl (st1 := fun _ => []) (fun _ => rfl) (ok_X12_put hQ c3 2) (fun _ c4 => ?_)
  refine l1_many mt_X12_writeEntry (pc' := 25) (L' := [some (.ref 201), some (.int p1)]) (st' := [.int 20, .ref 201]) 2 rfl ?_
  refine l1_callV hQ mt_X12_writeEntry mt_X12_putTwo rfl rfl (o := 201) (ci := 11) (As := [.int 20]) (rest := []) rfl rfl rfl rfl rfl rfl (st1 := fun _ => []) (fun _ => rfl) (ok_X12_putTwo hQ c4 20) (fun _ c5 => ?_)
  refine l1_many mt_X12_writeEntry (pc' := 31) (L' := [some (.ref 201), some (.int p1)]) (st' := [.int 20, .ref 201]) 2 rfl ?_
  refine l1_callV hQ mt_X12_writeEntry mt_X12_putTwo rfl rfl (o := 201) (ci := 11) (As := [.int 20]) (rest := []) rfl rfl rfl rfl rfl rfl (st1 := fun _ => []) (fun _ => rfl) (ok_X12_putTwo hQ c5 20) (fun _ c6 => ?_)
  refine l1_many mt_X12_writeEntry (pc' := 36) (L' := [some (.ref 201), some (.int p1)]) (st' := [.int 0, .ref 201]) 2 rfl ?_
  refine l1_callV hQ mt_X12_writeEntry mt_X12_putTwo rfl rfl (o := 201) (ci := 11) (As := [.int 0]) (rest := []) rfl rfl rfl rfl rfl rfl (st1 := fun _ => []) (fun _ => rfl) (ok_X12_putTwo hQ c6 0) (fun _ c7 => ?_)
  refine l1_many mt_X12_writeEntry (pc' := 41) (L' := [some (.ref 201), some (.int p1)]) (st' := [.ref 201, .ref 201]) 2 rfl ?_
  refine l1_getR hQ mt_X12_writeEntry rfl (o := 201) (ci := 11) (k := 37) (a := 0) (b := 0) rfl rfl rfl rfl rfl (q := 217) rfl ?_
  refine l1_many mt_X12_writeEntry (pc' := 45) (L' := [some (.ref 201), some (.int p1)]) (st' := [.int p1, .ref 217, .ref 201]) 1 rfl ?_
  refine l1_ck (fun hx => ?_)
  refine l1_ald hQ mt_X12_writeEntry rfl (o := 217) rfl hx ?_
  refine l1_callV hQ mt_X12_writeEntry mt_X12_putTwo rfl rfl (o := 201) (ci := 11) (As := [.int (c7.1 217 p1.toNatClampNeg)]) (rest := []) rfl rfl rfl rfl rfl rfl (st1 := fun _ => []) (fun _ => rfl) (ok_X12_putTwo hQ c7 (c7.1 217 p1.toNatClampNeg)) (fun _ c8 => ?_)
  refine l1_many mt_X12_writeEntry (pc' := 51) (L' := [some (.ref 201), some (.int p1)]) (st' := [.int 0, .ref 201]) 2 rfl ?_
  refine l1_callV hQ mt_X12_writeEntry mt_X12_putTwo rfl rfl (o := 201) (ci := 11) (As := [.int 0]) (rest := []) rfl rfl rfl rfl rfl rfl (st1 := fun _ => []) (fun _ => rfl) (ok_X12_putTwo hQ c8 0) (fun _ c9 => ?_)
  refine l1_many mt_X12_writeEntry (pc' := 57) (L' := [some (.ref 201), some (.int p1)]) (st' := [.int 33, .ref 201]) 2 rfl ?_
  refine l1_callV hQ mt_X12_writeEntry mt_X12_putTwo rfl rfl (o := 201) (ci := 11) (As := [.int 33]) (rest := []) rfl rfl rfl rfl rfl rfl (st1 := fun _ => []) (fun _ => rfl) (ok_X12_putTwo hQ c9 33) (fun _ c10 => ?_)
  refine l1_many mt_X12_writeEntry (pc' := 63) (L' := [some (.ref 201), some (.int p1)]) (st' := [.int p1, .ref 201, .ref 201]) 3 rfl ?_
  refine l1_callV hQ mt_X12_writeEntry mt_X12_checkOf rfl rfl (o := 201) (ci := 11) (As := [.int p1]) (rest := [.ref 201]) rfl rfl rfl rfl rfl rfl (st1 := fun x11 => [.int x11, .ref 201]) (fun _ => rfl) (ok_X12_checkOf hQ N c10 p1) (fun x11 c12 => ?_)
  refine l1_callV hQ mt_X12_writeEntry mt_X12_putFour rfl rfl (o := 201) (ci := 11) (As := [.int x11]) (rest := []) rfl rfl rfl rfl rfl rfl (st1 := fun _ => []) (fun _ => rfl) (ok_X12_putFour hQ c12 x11) (fun _ c13 => ?_)
  refine l1_many mt_X12_writeEntry (pc' := 71) (L' := [some (.ref 201), some (.int p1)]) (st' := [.ref 201, .ref 201]) 2 rfl ?_
  refine l1_getR hQ mt_X12_writeEntry rfl (o := 201) (ci := 11) (k := 38) (a := 0) (b := 0) rfl rfl rfl rfl rfl (q := 218) rfl ?_
  refine l1_many mt_X12_writeEntry (pc' := 75) (L' := [some (.ref 201), some (.int p1)]) (st' := [.int p1, .ref 218, .ref 201]) 1 rfl ?_
  refine l1_ck (fun hx => ?_)
  refine l1_ald hQ mt_X12_writeEntry rfl (o := 218) rfl hx ?_
  refine l1_callV hQ mt_X12_writeEntry mt_X12_putFour rfl rfl (o := 201) (ci := 11) (As := [.int (c13.1 218 p1.toNatClampNeg)]) (rest := []) rfl rfl rfl rfl rfl rfl (st1 := fun _ => []) (fun _ => rfl) (ok_X12_putFour hQ c13 (c13.1 218 p1.toNatClampNeg)) (fun _ c14 => ?_)
  refine l1_many mt_X12_writeEntry (pc' := 81) (L' := [some (.ref 201), some (.int p1)]) (st' := [.ref 201, .ref 201]) 2 rfl ?_
  refine l1_getR hQ mt_X12_writeEntry rfl (o := 201) (ci := 11) (k := 11) (a := 0) (b := 0) rfl rfl rfl rfl rfl (q := 206) rfl ?_
  refine l1_many mt_X12_writeEntry (pc' := 85) (L' := [some (.ref 201), some (.int p1)]) (st' := [.int p1, .ref 206, .ref 201]) 1 rfl ?_
  refine l1_ck (fun hx => ?_)
  refine l1_ald hQ mt_X12_writeEntry rfl (o := 206) rfl hx ?_
  refine l1_callV hQ mt_X12_writeEntry mt_X12_putFour rfl rfl (o := 201) (ci := 11) (As := [.int (c14.1 206 p1.toNatClampNeg)]) (rest := []) rfl rfl rfl rfl rfl rfl (st1 := fun _ => []) (fun _ => rfl) (ok_X12_putFour hQ c14 (c14.1 206 p1.toNatClampNeg)) (fun _ c15 => ?_)
  refine l1_many mt_X12_writeEntry (pc' := 92) (L' := [some (.ref 201), some (.int p1)]) (st' := [.int p1, .ref 201, .ref 201]) 3 rfl ?_
  refine l1_callV hQ mt_X12_writeEntry mt_X12_namedSize rfl rfl (o := 201) (ci := 11) (As := [.int p1]) (rest := [.ref 201]) rfl rfl rfl rfl rfl rfl (st1 := fun x16 => [.int x16, .ref 201]) (fun _ => rfl) (ok_X12_namedSize hQ c15 p1) (fun x16 c17 => ?_)
  refine l1_callV hQ mt_X12_writeEntry mt_X12_putTwo rfl rfl (o := 201) (ci := 11) (As := [.int x16]) (rest := []) rfl rfl rfl rfl rfl rfl (st1 := fun _ => []) (fun _ => rfl) (ok_X12_putTwo hQ c17 x16) (fun _ c18 => ?_)
  refine l1_many mt_X12_writeEntry (pc' := 100) (L' := [some (.ref 201), some (.int p1), some (.int 0)]) (st' := []) 2 rfl ?_
  exact ok_X12_writeEntry_100 hQ N p1 N c18 0
theorem ok_X12_writeEntry {Q : hS → am_H → Prop} (hQ : l1_em km Q) (N : Nat) (c : hS) (p1 : Int32) : l1_T wV Q am_i_X12_writeEntry [.ref 201, .int p1] c (f_X12_writeEntry N c p1) := l1_of (en_X12_writeEntry hQ N c p1) ⟨rfl, rfl, trivial⟩
set_option maxRecDepth 100000 in
theorem ok_X12_writeDirectory_29 {Q : hS → am_H → Prop} (hQ : l1_em km Q) (N : Nat) (p1 : Int32) : ∀ n : Nat, ∀ (c : hS) (v2 : Int32) (v3 : Int32), l1_G (wN wV) Q am_i_X12_writeDirectory 29 [some (.ref 201), none, some (.int v2), some (.int v3)] [] c (f_X12_writeDirectory_29 N p1 n c v2 v3) := by
  intro n
  induction n with
  | zero => intro c v2 v3; exact l1_none
  | succ n ih =>
    intro c v2 v3
    rw [f_X12_writeDirectory_29]
    refine l1_many mt_X12_writeDirectory (pc' := 31) (L' := [some (.ref 201), none, some (.int v2), some (.int v3)]) (st' := [.ref 201, .int v3]) 2 rfl ?_
    refine l1_getI hQ mt_X12_writeDirectory rfl (o := 201) (ci := 11) (k := 7) (a := 0) (b := 0) rfl rfl rfl rfl rfl ?_
    refine l1_many mt_X12_writeDirectory (pc' := bif am_cc .ge v3 (c.1 201 7) then 48 else 37) (L' := [some (.ref 201), none, some (.int v2), some (.int v3)]) (st' := []) 1 rfl ?_
    refine l1_bif rfl ?_ ?_
    · refine l1_many mt_X12_writeDirectory (pc' := 49) (L' := [some (.ref 201), none, some (.int v2), some (.int v3)]) (st' := [.ref 201]) 1 rfl ?_
      refine l1_getI hQ mt_X12_writeDirectory rfl (o := 201) (ci := 11) (k := 4) (a := 0) (b := 0) rfl rfl rfl rfl rfl ?_
      refine l1_many mt_X12_writeDirectory (pc' := 58) (L' := [some (.ref 201), none, some (.int v2), some (.int ((c.1 201 4) - v2))]) (st' := [.int 80, .ref 201]) 5 rfl ?_
      refine l1_callV hQ mt_X12_writeDirectory mt_X12_put rfl rfl (o := 201) (ci := 11) (As := [.int 80]) (rest := []) rfl rfl rfl rfl rfl rfl (st1 := fun _ => []) (fun _ => rfl) (ok_X12_put hQ c 80) (fun _ c1 => ?_)
      refine l1_many mt_X12_writeDirectory (pc' := 64) (L' := [some (.ref 201), none, some (.int v2), some (.int ((c.1 201 4) - v2))]) (st' := [.int 75, .ref 201]) 2 rfl ?_
      refine l1_callV hQ mt_X12_writeDirectory mt_X12_put rfl rfl (o := 201) (ci := 11) (As := [.int 75]) (rest := []) rfl rfl rfl rfl rfl rfl (st1 := fun _ => []) (fun _ => rfl) (ok_X12_put hQ c1 75) (fun _ c2 => ?_)
      refine l1_many mt_X12_writeDirectory (pc' := 69) (L' := [some (.ref 201), none, some (.int v2), some (.int ((c.1 201 4) - v2))]) (st' := [.int 5, .ref 201]) 2 rfl ?_
      refine l1_callV hQ mt_X12_writeDirectory mt_X12_put rfl rfl (o := 201) (ci := 11) (As := [.int 5]) (rest := []) rfl rfl rfl rfl rfl rfl (st1 := fun _ => []) (fun _ => rfl) (ok_X12_put hQ c2 5) (fun _ c3 => ?_)
      refine l1_many mt_X12_writeDirectory (pc' := 75) (L' := [some (.ref 201), none, some (.int v2), some (.int ((c.1 201 4) - v2))]) (st' := [.int 6, .ref 201]) 2 rfl ?_
      refine l1_callV hQ mt_X12_writeDirectory mt_X12_put rfl rfl (o := 201) (ci := 11) (As := [.int 6]) (rest := []) rfl rfl rfl rfl rfl rfl (st1 := fun _ => []) (fun _ => rfl) (ok_X12_put hQ c3 6) (fun _ c4 => ?_)
      refine l1_many mt_X12_writeDirectory (pc' := 80) (L' := [some (.ref 201), none, some (.int v2), some (.int ((c.1 201 4) - v2))]) (st' := [.int 0, .ref 201]) 2 rfl ?_
      refine l1_callV hQ mt_X12_writeDirectory mt_X12_putTwo rfl rfl (o := 201) (ci := 11) (As := [.int 0]) (rest := []) rfl rfl rfl rfl rfl rfl (st1 := fun _ => []) (fun _ => rfl) (ok_X12_putTwo hQ c4 0) (fun _ c5 => ?_)
      refine l1_many mt_X12_writeDirectory (pc' := 85) (L' := [some (.ref 201), none, some (.int v2), some (.int ((c.1 201 4) - v2))]) (st' := [.int 0, .ref 201]) 2 rfl ?_
      refine l1_callV hQ mt_X12_writeDirectory mt_X12_putTwo rfl rfl (o := 201) (ci := 11) (As := [.int 0]) (rest := []) rfl rfl rfl rfl rfl rfl (st1 := fun _ => []) (fun _ => rfl) (ok_X12_putTwo hQ c5 0) (fun _ c6 => ?_)
      refine l1_many mt_X12_writeDirectory (pc' := 90) (L' := [some (.ref 201), none, some (.int v2), some (.int ((c.1 201 4) - v2))]) (st' := [.ref 201, .ref 201]) 2 rfl ?_
      refine l1_getI hQ mt_X12_writeDirectory rfl (o := 201) (ci := 11) (k := 7) (a := 0) (b := 0) rfl rfl rfl rfl rfl ?_
      refine l1_callV hQ mt_X12_writeDirectory mt_X12_putTwo rfl rfl (o := 201) (ci := 11) (As := [.int (c6.1 201 7)]) (rest := []) rfl rfl rfl rfl rfl rfl (st1 := fun _ => []) (fun _ => rfl) (ok_X12_putTwo hQ c6 (c6.1 201 7)) (fun _ c7 => ?_)
      refine l1_many mt_X12_writeDirectory (pc' := 98) (L' := [some (.ref 201), none, some (.int v2), some (.int ((c.1 201 4) - v2))]) (st' := [.ref 201, .ref 201]) 2 rfl ?_
      refine l1_getI hQ mt_X12_writeDirectory rfl (o := 201) (ci := 11) (k := 7) (a := 0) (b := 0) rfl rfl rfl rfl rfl ?_
      refine l1_callV hQ mt_X12_writeDirectory mt_X12_putTwo rfl rfl (o := 201) (ci := 11) (As := [.int (c7.1 201 7)]) (rest := []) rfl rfl rfl rfl rfl rfl (st1 := fun _ => []) (fun _ => rfl) (ok_X12_putTwo hQ c7 (c7.1 201 7)) (fun _ c8 => ?_)
      refine l1_many mt_X12_writeDirectory (pc' := 106) (L' := [some (.ref 201), none, some (.int v2), some (.int ((c.1 201 4) - v2))]) (st' := [.int ((c.1 201 4) - v2), .ref 201]) 2 rfl ?_
      refine l1_callV hQ mt_X12_writeDirectory mt_X12_putFour rfl rfl (o := 201) (ci := 11) (As := [.int ((c.1 201 4) - v2)]) (rest := []) rfl rfl rfl rfl rfl rfl (st1 := fun _ => []) (fun _ => rfl) (ok_X12_putFour hQ c8 ((c.1 201 4) - v2)) (fun _ c9 => ?_)
      refine l1_many mt_X12_writeDirectory (pc' := 111) (L' := [some (.ref 201), none, some (.int v2), some (.int ((c.1 201 4) - v2))]) (st' := [.int v2, .ref 201]) 2 rfl ?_
      refine l1_callV hQ mt_X12_writeDirectory mt_X12_putFour rfl rfl (o := 201) (ci := 11) (As := [.int v2]) (rest := []) rfl rfl rfl rfl rfl rfl (st1 := fun _ => []) (fun _ => rfl) (ok_X12_putFour hQ c9 v2) (fun _ c10 => ?_)
      refine l1_many mt_X12_writeDirectory (pc' := 116) (L' := [some (.ref 201), none, some (.int v2), some (.int ((c.1 201 4) - v2))]) (st' := [.int 0, .ref 201]) 2 rfl ?_
      refine l1_callV hQ mt_X12_writeDirectory mt_X12_putTwo rfl rfl (o := 201) (ci := 11) (As := [.int 0]) (rest := []) rfl rfl rfl rfl rfl rfl (st1 := fun _ => []) (fun _ => rfl) (ok_X12_putTwo hQ c10 0) (fun _ c11 => ?_)
      exact l1_ret mt_X12_writeDirectory rfl rfl rfl
    · refine l1_many mt_X12_writeDirectory (pc' := 39) (L' := [some (.ref 201), none, some (.int v2), some (.int v3)]) (st' := [.int v3, .ref 201]) 2 rfl ?_
      refine l1_callV hQ mt_X12_writeDirectory mt_X12_writeEntry rfl rfl (o := 201) (ci := 11) (As := [.int v3]) (rest := []) rfl rfl rfl rfl rfl rfl (st1 := fun _ => []) (fun _ => rfl) (ok_X12_writeEntry hQ N c v3) (fun _ c12 => ?_)
      refine l1_many mt_X12_writeDirectory (pc' := 29) (L' := [some (.ref 201), none, some (.int v2), some (.int (v3 + 1))]) (st' := []) 2 rfl ?_
      exact ih c12 v2 (v3 + 1)
set_option maxRecDepth 100000 in
theorem ok_X12_writeDirectory_2 {Q : hS → am_H → Prop} (hQ : l1_em km Q) (N : Nat) (p1 : Int32) : ∀ n : Nat, ∀ (c : hS) (v2 : Int32), l1_G (wN wV) Q am_i_X12_writeDirectory 2 [some (.ref 201), some (.int p1), some (.int v2)] [] c (f_X12_writeDirectory_2 N p1 n c v2) := by
  intro n
  induction n with
  | zero => intro c v2; exact l1_none
  | succ n ih =>
    intro c v2
    rw [f_X12_writeDirectory_2]
    refine l1_many mt_X12_writeDirectory (pc' := 4) (L' := [some (.ref 201), some (.int p1), some (.int v2)]) (st' := [.ref 201, .int v2]) 2 rfl ?_
    refine l1_getI hQ mt_X12_writeDirectory rfl (o := 201) (ci := 11) (k := 7) (a := 0) (b := 0) rfl rfl rfl rfl rfl ?_
    refine l1_many mt_X12_writeDirectory (pc' := bif am_cc .ge v2 (c.1 201 7) then 22 else 10) (L' := [some (.ref 201), some (.int p1), some (.int v2)]) (st' := []) 1 rfl ?_
    refine l1_bif rfl ?_ ?_
    · refine l1_many mt_X12_writeDirectory (pc' := 23) (L' := [some (.ref 201), some (.int p1), some (.int v2)]) (st' := [.ref 201]) 1 rfl ?_
      refine l1_getI hQ mt_X12_writeDirectory rfl (o := 201) (ci := 11) (k := 4) (a := 0) (b := 0) rfl rfl rfl rfl rfl ?_
      refine l1_many mt_X12_writeDirectory (pc' := 29) (L' := [some (.ref 201), some (.int p1), some (.int (c.1 201 4)), some (.int 0)]) (st' := []) 3 rfl ?_
      refine l1_weak (m := [true, false, true, true]) (L' := [some (.ref 201), none, some (.int (c.1 201 4)), some (.int 0)]) rfl ?_
      exact ok_X12_writeDirectory_29 hQ N p1 N c (c.1 201 4) 0
    · refine l1_many mt_X12_writeDirectory (pc' := 13) (L' := [some (.ref 201), some (.int p1), some (.int v2)]) (st' := [.int p1, .int v2, .ref 201]) 3 rfl ?_
      refine l1_callV hQ mt_X12_writeDirectory mt_X12_writeLocal rfl rfl (o := 201) (ci := 11) (As := [.int v2, .int p1]) (rest := []) rfl rfl rfl rfl rfl rfl (st1 := fun _ => []) (fun _ => rfl) (ok_X12_writeLocal hQ N c v2 p1) (fun _ c1 => ?_)
      refine l1_many mt_X12_writeDirectory (pc' := 2) (L' := [some (.ref 201), some (.int p1), some (.int (v2 + 1))]) (st' := []) 2 rfl ?_
      exact ih c1 (v2 + 1)
set_option maxRecDepth 100000 in
theorem en_X12_writeDirectory {Q : hS → am_H → Prop} (hQ : l1_em km Q) (N : Nat) (c : hS) (p1 : Int32) : l1_G (wN wV) Q am_i_X12_writeDirectory 0 [some (.ref 201), some (.int p1)] [] c (f_X12_writeDirectory N c p1) := by
  rw [f_X12_writeDirectory]
  refine l1_many mt_X12_writeDirectory (pc' := 2) (L' := [some (.ref 201), some (.int p1), some (.int 0)]) (st' := []) 2 rfl ?_
  exact ok_X12_writeDirectory_2 hQ N p1 N c 0
theorem ok_X12_writeDirectory {Q : hS → am_H → Prop} (hQ : l1_em km Q) (N : Nat) (c : hS) (p1 : Int32) : l1_T wV Q am_i_X12_writeDirectory [.ref 201, .int p1] c (f_X12_writeDirectory N c p1) := l1_of (en_X12_writeDirectory hQ N c p1) ⟨rfl, rfl, trivial⟩
set_option maxRecDepth 100000 in
theorem ok_X12_write_43 {Q : hS → am_H → Prop} (hQ : l1_em km Q) (N : Nat) (p1 : Int32) (p2 : Int32) : ∀ n : Nat, ∀ (c : hS) (v3 : Int32), l1_G (wN wI) Q am_i_X12_write 43 [some (.ref 201), none, none, some (.int v3)] [] c (f_X12_write_43 N p1 p2 n c v3) := by
  intro n
  induction n with
  | zero => intro c v3; exact l1_none
  | succ n ih =>
    intro c v3
    rw [f_X12_write_43]
    refine l1_many mt_X12_write (pc' := 45) (L' := [some (.ref 201), none, none, some (.int v3)]) (st' := [.ref 201, .int v3]) 2 rfl ?_
    refine l1_getI hQ mt_X12_write rfl (o := 201) (ci := 11) (k := 7) (a := 0) (b := 0) rfl rfl rfl rfl rfl ?_
    refine l1_many mt_X12_write (pc' := bif am_cc .ge v3 (c.1 201 7) then 62 else 51) (L' := [some (.ref 201), none, none, some (.int v3)]) (st' := []) 1 rfl ?_
    refine l1_bif rfl ?_ ?_
    · refine l1_many mt_X12_write (pc' := 64) (L' := [some (.ref 201), none, none, some (.int v3)]) (st' := [.ref 201, .ref 201]) 2 rfl ?_
      refine l1_getI hQ mt_X12_write rfl (o := 201) (ci := 11) (k := 4) (a := 0) (b := 0) rfl rfl rfl rfl rfl ?_
      refine l1_many mt_X12_write (pc' := 71) (L' := [some (.ref 201), none, none, some (.int v3)]) (st' := [.int ((c.1 201 4) + 1024), .ref 201]) 2 rfl ?_
      refine l1_callV hQ mt_X12_write mt_X12_putZeros rfl rfl (o := 201) (ci := 11) (As := [.int ((c.1 201 4) + 1024)]) (rest := []) rfl rfl rfl rfl rfl rfl (st1 := fun _ => []) (fun _ => rfl) (ok_X12_putZeros hQ N c ((c.1 201 4) + 1024)) (fun _ c1 => ?_)
      refine l1_many mt_X12_write (pc' := 95) (L' := [some (.ref 201), none, none, some (.int v3)]) (st' := [.ref 201]) 2 rfl ?_
      refine l1_getI hQ mt_X12_write rfl (o := 201) (ci := 11) (k := 4) (a := 0) (b := 0) rfl rfl rfl rfl rfl ?_
      exact l1_ret mt_X12_write rfl rfl rfl
    · refine l1_many mt_X12_write (pc' := 53) (L' := [some (.ref 201), none, none, some (.int v3)]) (st' := [.int v3, .ref 201]) 2 rfl ?_
      refine l1_callV hQ mt_X12_write mt_X12_writeBlock rfl rfl (o := 201) (ci := 11) (As := [.int v3]) (rest := []) rfl rfl rfl rfl rfl rfl (st1 := fun _ => []) (fun _ => rfl) (ok_X12_writeBlock hQ N c v3) (fun _ c2 => ?_)
      refine l1_many mt_X12_write (pc' := 43) (L' := [some (.ref 201), none, none, some (.int (v3 + 1))]) (st' := []) 2 rfl ?_
      exact ih c2 (v3 + 1)
set_option maxRecDepth 100000 in
theorem ok_X12_write_23 {Q : hS → am_H → Prop} (hQ : l1_em km Q) (N : Nat) (p1 : Int32) (p2 : Int32) : ∀ (c : hS) (w0 : Int32), l1_G (wN wI) Q am_i_X12_write 23 [some (.ref 201), some (.int p1), some (.int p2)] [.int w0, .ref 201] c (f_X12_write_23 N p1 p2 c w0) := by
  intro c w0
  rw [f_X12_write_23]
  refine l1_many mt_X12_write (pc' := 24) (L' := [some (.ref 201), some (.int p1), some (.int p2)]) (st' := [.int 1, .int w0, .ref 201]) 1 rfl ?_
  refine l1_callV hQ mt_X12_write mt_X12_refuses rfl rfl (o := 201) (ci := 11) (As := [.int w0, .int 1]) (rest := []) rfl rfl rfl rfl rfl rfl (st1 := fun x1 => [.int x1]) (fun _ => rfl) (ok_X12_refuses hQ c w0 1) (fun x1 c2 => ?_)
  refine l1_many mt_X12_write (pc' := bif am_cc .eq x1 0 then 32 else 30) (L' := [some (.ref 201), some (.int p1), some (.int p2)]) (st' := []) 1 rfl ?_
  refine l1_bif rfl ?_ ?_
  · refine l1_many mt_X12_write (pc' := 34) (L' := [some (.ref 201), some (.int p1), some (.int p2)]) (st' := [.int 0, .ref 201]) 2 rfl ?_
    refine l1_putI hQ mt_X12_write rfl (o := 201) (ci := 11) (k := 4) (a := 0) rfl rfl rfl rfl rfl rfl (fun c3 => ?_)
    refine l1_many mt_X12_write (pc' := bif am_cc .ne p1 0 then 77 else 41) (L' := [some (.ref 201), some (.int p1), some (.int p2)]) (st' := []) 2 rfl ?_
    refine l1_bin rfl ?_ ?_
    · refine l1_many mt_X12_write (pc' := 43) (L' := [some (.ref 201), some (.int p1), some (.int p2), some (.int 0)]) (st' := []) 2 rfl ?_
      refine l1_weak (m := [true, false, false, true]) (L' := [some (.ref 201), none, none, some (.int 0)]) rfl ?_
      exact ok_X12_write_43 hQ N p1 p2 N c3 0
    · refine l1_many mt_X12_write (pc' := bif am_cc .ne p1 1 then 89 else 82) (L' := [some (.ref 201), some (.int p1), some (.int p2)]) (st' := []) 3 rfl ?_
      refine l1_bin rfl ?_ ?_
      · refine l1_many mt_X12_write (pc' := 83) (L' := [some (.ref 201), some (.int p1), some (.int p2)]) (st' := [.ref 201]) 1 rfl ?_
        refine l1_callV hQ mt_X12_write mt_X12_writeDigits rfl rfl (o := 201) (ci := 11) (As := []) (rest := []) rfl rfl rfl rfl rfl rfl (st1 := fun _ => []) (fun _ => rfl) (ok_X12_writeDigits hQ N c3) (fun _ c5 => ?_)
        refine l1_many mt_X12_write (pc' := 95) (L' := [some (.ref 201), some (.int p1), some (.int p2)]) (st' := [.ref 201]) 2 rfl ?_
        refine l1_getI hQ mt_X12_write rfl (o := 201) (ci := 11) (k := 4) (a := 0) (b := 0) rfl rfl rfl rfl rfl ?_
        exact l1_ret mt_X12_write rfl rfl rfl
      · refine l1_many mt_X12_write (pc' := 91) (L' := [some (.ref 201), some (.int p1), some (.int p2)]) (st' := [.int p2, .ref 201]) 2 rfl ?_
        refine l1_callV hQ mt_X12_write mt_X12_writeDirectory rfl rfl (o := 201) (ci := 11) (As := [.int p2]) (rest := []) rfl rfl rfl rfl rfl rfl (st1 := fun _ => []) (fun _ => rfl) (ok_X12_writeDirectory hQ N c3 p2) (fun _ c4 => ?_)
        refine l1_many mt_X12_write (pc' := 95) (L' := [some (.ref 201), some (.int p1), some (.int p2)]) (st' := [.ref 201]) 1 rfl ?_
        refine l1_getI hQ mt_X12_write rfl (o := 201) (ci := 11) (k := 4) (a := 0) (b := 0) rfl rfl rfl rfl rfl ?_
        exact l1_ret mt_X12_write rfl rfl rfl
  · refine l1_many mt_X12_write (pc' := 31) (L' := [some (.ref 201), some (.int p1), some (.int p2)]) (st' := [.int 0]) 1 rfl ?_
    exact l1_ret mt_X12_write rfl rfl rfl
set_option maxRecDepth 100000 in
theorem en_X12_write {Q : hS → am_H → Prop} (hQ : l1_em km Q) (N : Nat) (c : hS) (p1 : Int32) (p2 : Int32) : l1_G (wN wI) Q am_i_X12_write 0 [some (.ref 201), some (.int p1), some (.int p2)] [] c (f_X12_write N c p1 p2) := by
  rw [f_X12_write]
  refine l1_many mt_X12_write (pc' := 2) (L' := [some (.ref 201), some (.int p1), some (.int p2)]) (st' := [.int 0, .ref 201]) 2 rfl ?_
  refine l1_putI hQ mt_X12_write rfl (o := 201) (ci := 11) (k := 0) (a := 0) rfl rfl rfl rfl rfl rfl (fun c1 => ?_)
  refine l1_many mt_X12_write (pc' := 12) (L' := [some (.ref 201), some (.int p1), some (.int p2)]) (st' := [.long 2, .long 0, .long p1.toInt64, .ref 201]) 5 rfl ?_
  refine l1_callS mt_X12_write mt_X12_in rfl rfl (As := [.long p1.toInt64, .long 0, .long 2]) (rest := [.ref 201]) rfl rfl rfl (st1 := fun x2 => [.int x2, .ref 201]) (fun _ => rfl) (ok_X12_in hQ c1 p1.toInt64 0 2) (fun x2 c3 => ?_)
  refine l1_many mt_X12_write (pc' := bif am_cc .ne x2 0 then 22 else 18) (L' := [some (.ref 201), some (.int p1), some (.int p2)]) (st' := [.ref 201]) 1 rfl ?_
  refine l1_bin rfl ?_ ?_
  · refine l1_many mt_X12_write (pc' := 23) (L' := [some (.ref 201), some (.int p1), some (.int p2)]) (st' := [.int 1, .ref 201]) 2 rfl ?_
    exact ok_X12_write_23 hQ N p1 p2 c3 1
  · refine l1_many mt_X12_write (pc' := 23) (L' := [some (.ref 201), some (.int p1), some (.int p2)]) (st' := [.int 0, .ref 201]) 1 rfl ?_
    exact ok_X12_write_23 hQ N p1 p2 c3 0
theorem ok_X12_write {Q : hS → am_H → Prop} (hQ : l1_em km Q) (N : Nat) (c : hS) (p1 : Int32) (p2 : Int32) : l1_T wI Q am_i_X12_write [.ref 201, .int p1, .int p2] c (f_X12_write N c p1 p2) := l1_of (en_X12_write hQ N c p1 p2) ⟨rfl, rfl, rfl, trivial⟩
end
