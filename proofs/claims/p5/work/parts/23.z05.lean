/-! THAT THE MACHINE FOLLOWS THEM, printed by gen_l1.py -/
set_option maxRecDepth 100000 in
theorem ok_X10_isCopied_144 {Q : hS → am_H → Prop} (hQ : l1_em kc Q) (N : Nat) (p1 : Int32) (p2 : Nat) (p3 : Int32) (hp2 : kc p2 = 2) : ∀ n : Nat, ∀ (c : hS) (v7 : Int32) (v8 : Int32) (v9 : Int32), l1_G (wN wI) Q am_i_X10_isCopied 144 [some (.ref 11), none, none, none, none, none, none, some (.int v7), some (.int v8), some (.int v9)] [] c (f_X10_isCopied_144 N p1 p2 p3 n c v7 v8 v9) := by
  intro n
  induction n with
  | zero => intro c v7 v8 v9; exact l1_none
  | succ n ih =>
    intro c v7 v8 v9
    rw [f_X10_isCopied_144]
    refine l1_many mt_X10_isCopied (pc' := bif am_cc .ge v9 v7 then 181 else 151) (L' := [some (.ref 11), none, none, none, none, none, none, some (.int v7), some (.int v8), some (.int v9)]) (st' := []) 3 rfl ?_
    refine l1_bif rfl ?_ ?_
    · refine l1_many mt_X10_isCopied (pc' := 182) (L' := [some (.ref 11), none, none, none, none, none, none, some (.int v7), some (.int v8), some (.int v9)]) (st' := [.int 1]) 1 rfl ?_
      exact l1_ret mt_X10_isCopied rfl rfl rfl
    · refine l1_many mt_X10_isCopied (pc' := 152) (L' := [some (.ref 11), none, none, none, none, none, none, some (.int v7), some (.int v8), some (.int v9)]) (st' := [.ref 11]) 1 rfl ?_
      refine l1_getR hQ mt_X10_isCopied rfl (o := 11) (ci := 9) (k := 1) (a := 0) (b := 1) rfl rfl rfl rfl rfl (q := 7) rfl ?_
      refine l1_many mt_X10_isCopied (pc' := 156) (L' := [some (.ref 11), none, none, none, none, none, none, some (.int v7), some (.int v8), some (.int v9)]) (st' := [.ref 11, .ref 7]) 1 rfl ?_
      refine l1_getR hQ mt_X10_isCopied rfl (o := 11) (ci := 9) (k := 1) (a := 0) (b := 1) rfl rfl rfl rfl rfl (q := 7) rfl ?_
      refine l1_many mt_X10_isCopied (pc' := 160) (L' := [some (.ref 11), none, none, none, none, none, none, some (.int v7), some (.int v8), some (.int v9)]) (st' := [.ref 11, .ref 7, .ref 7]) 1 rfl ?_
      refine l1_getR hQ mt_X10_isCopied rfl (o := 11) (ci := 9) (k := 1) (a := 0) (b := 1) rfl rfl rfl rfl rfl (q := 7) rfl ?_
      refine l1_callV hQ mt_X10_isCopied mt_X2_size rfl rfl (o := 7) (ci := 1) (As := []) (rest := [.ref 7, .ref 7]) rfl rfl rfl rfl rfl rfl (st1 := fun x1 => [.int x1, .ref 7, .ref 7]) (fun _ => rfl) (ok_X2_size hQ c 7 rfl) (fun x1 c2 => ?_)
      refine l1_many mt_X10_isCopied (pc' := 169) (L' := [some (.ref 11), none, none, none, none, none, none, some (.int v7), some (.int v8), some (.int v9)]) (st' := [.int (x1 - v8), .ref 7, .ref 7]) 2 rfl ?_
      refine l1_callV hQ mt_X10_isCopied mt_X2_get rfl rfl (o := 7) (ci := 1) (As := [.int (x1 - v8)]) (rest := [.ref 7]) rfl rfl rfl rfl rfl rfl (st1 := fun x3 => [.int x3, .ref 7]) (fun _ => rfl) (ok_X2_get hQ c2 7 (x1 - v8) rfl) (fun x3 c4 => ?_)
      refine l1_callV hQ mt_X10_isCopied mt_X2_add rfl rfl (o := 7) (ci := 1) (As := [.int x3]) (rest := []) rfl rfl rfl rfl rfl rfl (st1 := fun _ => []) (fun _ => rfl) (ok_X2_add hQ c4 7 x3 rfl) (fun _ c5 => ?_)
      refine l1_many mt_X10_isCopied (pc' := 144) (L' := [some (.ref 11), none, none, none, none, none, none, some (.int v7), some (.int v8), some (.int (v9 + 1))]) (st' := []) 2 rfl ?_
      exact ih c5 v7 v8 (v9 + 1)
set_option maxRecDepth 100000 in
theorem en_X10_isCopied {Q : hS → am_H → Prop} (hQ : l1_em kc Q) (N : Nat) (c : hS) (p1 : Int32) (p2 : Nat) (p3 : Int32) (hp2 : kc p2 = 2) : l1_G (wN wI) Q am_i_X10_isCopied 0 [some (.ref 11), some (.int p1), some (.ref p2), some (.int p3)] [] c (f_X10_isCopied N c p1 p2 p3) := by
  rw [f_X10_isCopied]
  refine l1_many mt_X10_isCopied (pc' := 2) (L' := [some (.ref 11), some (.int p1), some (.ref p2), some (.int p3)]) (st' := [.int p1, .ref 11]) 2 rfl ?_
  refine l1_callS mt_X10_isCopied mt_X11_lengthBits rfl rfl (As := [.int p1]) (rest := [.ref 11]) rfl rfl rfl (st1 := fun x1 => [.int x1, .ref 11]) (fun _ => rfl) (ok_X11_lengthBits hQ c p1) (fun x1 c2 => ?_)
  refine l1_callV hQ mt_X10_isCopied mt_X10_takeBits rfl rfl (o := 11) (ci := 9) (As := [.int x1]) (rest := []) rfl rfl rfl rfl rfl rfl (st1 := fun x3 => [.int x3]) (fun _ => rfl) (ok_X10_takeBits hQ N c2 x1) (fun x3 c4 => ?_)
  refine l1_many mt_X10_isCopied (pc' := bif am_cc .ne x3 (-1) then 18 else 16) (L' := [some (.ref 11), some (.int p1), some (.ref p2), some (.int p3), some (.int x3)]) (st' := []) 4 rfl ?_
  refine l1_bin rfl ?_ ?_
  · refine l1_many mt_X10_isCopied (pc' := 17) (L' := [some (.ref 11), some (.int p1), some (.ref p2), some (.int p3), some (.int x3)]) (st' := [.int 0]) 1 rfl ?_
    exact l1_ret mt_X10_isCopied rfl rfl rfl
  · refine l1_many mt_X10_isCopied (pc' := 21) (L' := [some (.ref 11), some (.int p1), some (.ref p2), some (.int p3), some (.int x3)]) (st' := [.int p3, .ref p2, .ref 11]) 3 rfl ?_
    refine l1_callV hQ mt_X10_isCopied mt_X10_takeSymbol rfl rfl (o := 11) (ci := 9) (As := [.ref p2, .int p3]) (rest := []) rfl rfl rfl rfl rfl rfl (st1 := fun x5 => [.int x5]) (fun _ => rfl) (ok_X10_takeSymbol hQ N c4 p2 p3 hp2) (fun x5 c6 => ?_)
    refine l1_many mt_X10_isCopied (pc' := bif am_cc .ne x5 (-1) then 34 else 32) (L' := [some (.ref 11), some (.int p1), some (.ref p2), some (.int p3), some (.int x3), some (.int x5)]) (st' := []) 4 rfl ?_
    refine l1_bin rfl ?_ ?_
    · refine l1_many mt_X10_isCopied (pc' := 33) (L' := [some (.ref 11), some (.int p1), some (.ref p2), some (.int p3), some (.int x3), some (.int x5)]) (st' := [.int 0]) 1 rfl ?_
      exact l1_ret mt_X10_isCopied rfl rfl rfl
    · refine l1_many mt_X10_isCopied (pc' := bif am_cc .le x5 29 then 52 else 41) (L' := [some (.ref 11), some (.int p1), some (.ref p2), some (.int p3), some (.int x3), some (.int x5)]) (st' := []) 3 rfl ?_
      refine l1_bif rfl ?_ ?_
      · refine l1_many mt_X10_isCopied (pc' := 55) (L' := [some (.ref 11), some (.int p1), some (.ref p2), some (.int p3), some (.int x3), some (.int x5)]) (st' := [.int x5, .ref 11]) 2 rfl ?_
        refine l1_callS mt_X10_isCopied mt_X11_distanceBits rfl rfl (As := [.int x5]) (rest := [.ref 11]) rfl rfl rfl (st1 := fun x7 => [.int x7, .ref 11]) (fun _ => rfl) (ok_X11_distanceBits hQ c6 x5) (fun x7 c8 => ?_)
        refine l1_callV hQ mt_X10_isCopied mt_X10_takeBits rfl rfl (o := 11) (ci := 9) (As := [.int x7]) (rest := []) rfl rfl rfl rfl rfl rfl (st1 := fun x9 => [.int x9]) (fun _ => rfl) (ok_X10_takeBits hQ N c8 x7) (fun x9 c10 => ?_)
        refine l1_many mt_X10_isCopied (pc' := bif am_cc .ne x9 (-1) then 71 else 69) (L' := [some (.ref 11), some (.int p1), some (.ref p2), some (.int p3), some (.int x3), some (.int x5), some (.int x9)]) (st' := []) 4 rfl ?_
        refine l1_bin rfl ?_ ?_
        · refine l1_many mt_X10_isCopied (pc' := 70) (L' := [some (.ref 11), some (.int p1), some (.ref p2), some (.int p3), some (.int x3), some (.int x5), some (.int x9)]) (st' := [.int 0]) 1 rfl ?_
          exact l1_ret mt_X10_isCopied rfl rfl rfl
        · refine l1_many mt_X10_isCopied (pc' := 72) (L' := [some (.ref 11), some (.int p1), some (.ref p2), some (.int p3), some (.int x3), some (.int x5), some (.int x9)]) (st' := [.int p1]) 1 rfl ?_
          refine l1_callS mt_X10_isCopied mt_X11_lengthBase rfl rfl (As := [.int p1]) (rest := []) rfl rfl rfl (st1 := fun x11 => [.int x11]) (fun _ => rfl) (ok_X11_lengthBase hQ c10 p1) (fun x11 c12 => ?_)
          refine l1_many mt_X10_isCopied (pc' := 82) (L' := [some (.ref 11), some (.int p1), some (.ref p2), some (.int p3), some (.int x3), some (.int x5), some (.int x9), some (.int (x11 + x3))]) (st' := [.int x5]) 4 rfl ?_
          refine l1_callS mt_X10_isCopied mt_X11_distanceBase rfl rfl (As := [.int x5]) (rest := []) rfl rfl rfl (st1 := fun x13 => [.int x13]) (fun _ => rfl) (ok_X11_distanceBase hQ c12 x5) (fun x13 c14 => ?_)
          refine l1_many mt_X10_isCopied (pc' := 93) (L' := [some (.ref 11), some (.int p1), some (.ref p2), some (.int p3), some (.int x3), some (.int x5), some (.int x9), some (.int (x11 + x3)), some (.int (x13 + x9))]) (st' := [.ref 11, .int (x13 + x9)]) 5 rfl ?_
          refine l1_getR hQ mt_X10_isCopied rfl (o := 11) (ci := 9) (k := 1) (a := 0) (b := 1) rfl rfl rfl rfl rfl (q := 7) rfl ?_
          refine l1_callV hQ mt_X10_isCopied mt_X2_size rfl rfl (o := 7) (ci := 1) (As := []) (rest := [.int (x13 + x9)]) rfl rfl rfl rfl rfl rfl (st1 := fun x15 => [.int x15, .int (x13 + x9)]) (fun _ => rfl) (ok_X2_size hQ c14 7 rfl) (fun x15 c16 => ?_)
          refine l1_many mt_X10_isCopied (pc' := bif am_cc .le (x13 + x9) x15 then 113 else 102) (L' := [some (.ref 11), some (.int p1), some (.ref p2), some (.int p3), some (.int x3), some (.int x5), some (.int x9), some (.int (x11 + x3)), some (.int (x13 + x9))]) (st' := []) 1 rfl ?_
          refine l1_bif rfl ?_ ?_
          · refine l1_many mt_X10_isCopied (pc' := 114) (L' := [some (.ref 11), some (.int p1), some (.ref p2), some (.int p3), some (.int x3), some (.int x5), some (.int x9), some (.int (x11 + x3)), some (.int (x13 + x9))]) (st' := [.ref 11]) 1 rfl ?_
            refine l1_getR hQ mt_X10_isCopied rfl (o := 11) (ci := 9) (k := 1) (a := 0) (b := 1) rfl rfl rfl rfl rfl (q := 7) rfl ?_
            refine l1_callV hQ mt_X10_isCopied mt_X2_size rfl rfl (o := 7) (ci := 1) (As := []) (rest := []) rfl rfl rfl rfl rfl rfl (st1 := fun x17 => [.int x17]) (fun _ => rfl) (ok_X2_size hQ c16 7 rfl) (fun x17 c18 => ?_)
            refine l1_many mt_X10_isCopied (pc' := 124) (L' := [some (.ref 11), some (.int p1), some (.ref p2), some (.int p3), some (.int x3), some (.int x5), some (.int x9), some (.int (x11 + x3)), some (.int (x13 + x9))]) (st' := [.ref 11, .int (x17 + (x11 + x3))]) 3 rfl ?_
            refine l1_getI hQ mt_X10_isCopied rfl (o := 11) (ci := 9) (k := 11) (a := 0) (b := 0) rfl rfl rfl rfl rfl ?_
            refine l1_many mt_X10_isCopied (pc' := bif am_cc .le (x17 + (x11 + x3)) (c18.1 11 11) then 141 else 130) (L' := [some (.ref 11), some (.int p1), some (.ref p2), some (.int p3), some (.int x3), some (.int x5), some (.int x9), some (.int (x11 + x3)), some (.int (x13 + x9))]) (st' := []) 1 rfl ?_
            refine l1_bif rfl ?_ ?_
            · refine l1_many mt_X10_isCopied (pc' := 144) (L' := [some (.ref 11), some (.int p1), some (.ref p2), some (.int p3), some (.int x3), some (.int x5), some (.int x9), some (.int (x11 + x3)), some (.int (x13 + x9)), some (.int 0)]) (st' := []) 2 rfl ?_
              refine l1_weak (m := [true, false, false, false, false, false, false, true, true, true]) (L' := [some (.ref 11), none, none, none, none, none, none, some (.int (x11 + x3)), some (.int (x13 + x9)), some (.int 0)]) rfl ?_
              exact ok_X10_isCopied_144 hQ N p1 p2 p3 hp2 N c18 (x11 + x3) (x13 + x9) 0
            · refine l1_many mt_X10_isCopied (pc' := 131) (L' := [some (.ref 11), some (.int p1), some (.ref p2), some (.int p3), some (.int x3), some (.int x5), some (.int x9), some (.int (x11 + x3)), some (.int (x13 + x9))]) (st' := [.ref 11]) 1 rfl ?_
              refine l1_getR hQ mt_X10_isCopied rfl (o := 11) (ci := 9) (k := 2) (a := 0) (b := 1) rfl rfl rfl rfl rfl (q := 9) rfl ?_
              refine l1_many mt_X10_isCopied (pc' := 137) (L' := [some (.ref 11), some (.int p1), some (.ref p2), some (.int p3), some (.int x3), some (.int x5), some (.int x9), some (.int (x11 + x3)), some (.int (x13 + x9))]) (st' := [.int p3, .int 23, .ref 9]) 2 rfl ?_
              refine l1_callV hQ mt_X10_isCopied mt_X6_tell rfl rfl (o := 9) (ci := 5) (As := [.int 23, .int p3]) (rest := []) rfl rfl rfl rfl rfl rfl (st1 := fun x19 => [.int x19]) (fun _ => rfl) (ok_X6_tell hQ c18 23 p3) (fun x19 c20 => ?_)
              refine l1_ck (fun hz => ?_)
              exact l1_retZ mt_X10_isCopied rfl rfl rfl hz
          · refine l1_many mt_X10_isCopied (pc' := 103) (L' := [some (.ref 11), some (.int p1), some (.ref p2), some (.int p3), some (.int x3), some (.int x5), some (.int x9), some (.int (x11 + x3)), some (.int (x13 + x9))]) (st' := [.ref 11]) 1 rfl ?_
            refine l1_getR hQ mt_X10_isCopied rfl (o := 11) (ci := 9) (k := 2) (a := 0) (b := 1) rfl rfl rfl rfl rfl (q := 9) rfl ?_
            refine l1_many mt_X10_isCopied (pc' := 109) (L' := [some (.ref 11), some (.int p1), some (.ref p2), some (.int p3), some (.int x3), some (.int x5), some (.int x9), some (.int (x11 + x3)), some (.int (x13 + x9))]) (st' := [.int p3, .int 26, .ref 9]) 2 rfl ?_
            refine l1_callV hQ mt_X10_isCopied mt_X6_tell rfl rfl (o := 9) (ci := 5) (As := [.int 26, .int p3]) (rest := []) rfl rfl rfl rfl rfl rfl (st1 := fun x21 => [.int x21]) (fun _ => rfl) (ok_X6_tell hQ c16 26 p3) (fun x21 c22 => ?_)
            refine l1_ck (fun hz => ?_)
            exact l1_retZ mt_X10_isCopied rfl rfl rfl hz
      · refine l1_many mt_X10_isCopied (pc' := 42) (L' := [some (.ref 11), some (.int p1), some (.ref p2), some (.int p3), some (.int x3), some (.int x5)]) (st' := [.ref 11]) 1 rfl ?_
        refine l1_getR hQ mt_X10_isCopied rfl (o := 11) (ci := 9) (k := 2) (a := 0) (b := 1) rfl rfl rfl rfl rfl (q := 9) rfl ?_
        refine l1_many mt_X10_isCopied (pc' := 48) (L' := [some (.ref 11), some (.int p1), some (.ref p2), some (.int p3), some (.int x3), some (.int x5)]) (st' := [.int p3, .int 25, .ref 9]) 2 rfl ?_
        refine l1_callV hQ mt_X10_isCopied mt_X6_tell rfl rfl (o := 9) (ci := 5) (As := [.int 25, .int p3]) (rest := []) rfl rfl rfl rfl rfl rfl (st1 := fun x23 => [.int x23]) (fun _ => rfl) (ok_X6_tell hQ c6 25 p3) (fun x23 c24 => ?_)
        refine l1_ck (fun hz => ?_)
        exact l1_retZ mt_X10_isCopied rfl rfl rfl hz
theorem ok_X10_isCopied {Q : hS → am_H → Prop} (hQ : l1_em kc Q) (N : Nat) (c : hS) (p1 : Int32) (p2 : Nat) (p3 : Int32) (hp2 : kc p2 = 2) : l1_T wI Q am_i_X10_isCopied [.ref 11, .int p1, .ref p2, .int p3] c (f_X10_isCopied N c p1 p2 p3) := l1_of (en_X10_isCopied hQ N c p1 p2 p3 hp2) ⟨rfl, rfl, rfl, rfl, trivial⟩
set_option maxRecDepth 100000 in
theorem ok_X10_areSymbols_2 {Q : hS → am_H → Prop} (hQ : l1_em kc Q) (N : Nat) (p1 : Nat) (p2 : Nat) (hp1 : kc p1 = 2) (hp2 : kc p2 = 2) : ∀ n : Nat, ∀ (c : hS) (v3 : Int32), l1_G (wN wI) Q am_i_X10_areSymbols 2 [some (.ref 11), some (.ref p1), some (.ref p2), some (.int v3)] [] c (f_X10_areSymbols_2 N p1 p2 n c v3) := by
  intro n
  induction n with
  | zero => intro c v3; exact l1_none
  | succ n ih =>
    intro c v3
    rw [f_X10_areSymbols_2]
    refine l1_many mt_X10_areSymbols (pc' := bif am_cc .gt v3 160000 then 132 else 8) (L' := [some (.ref 11), some (.ref p1), some (.ref p2), some (.int v3)]) (st' := []) 3 rfl ?_
    refine l1_bif rfl ?_ ?_
    · refine l1_many mt_X10_areSymbols (pc' := 133) (L' := [some (.ref 11), some (.ref p1), some (.ref p2), some (.int v3)]) (st' := [.int 0]) 1 rfl ?_
      exact l1_ret mt_X10_areSymbols rfl rfl rfl
    · refine l1_many mt_X10_areSymbols (pc' := 9) (L' := [some (.ref 11), some (.ref p1), some (.ref p2), some (.int v3)]) (st' := [.ref 11]) 1 rfl ?_
      refine l1_getI hQ mt_X10_areSymbols rfl (o := 11) (ci := 9) (k := 9) (a := 0) (b := 0) rfl rfl rfl rfl rfl ?_
      refine l1_many mt_X10_areSymbols (pc' := 20) (L' := [some (.ref 11), some (.ref p1), some (.ref p2), some (.int v3), some (.int (j_shr (c.1 11 9) 3))]) (st' := [.int (j_shr (c.1 11 9) 3), .ref p1, .ref 11]) 6 rfl ?_
      refine l1_callV hQ mt_X10_areSymbols mt_X10_takeSymbol rfl rfl (o := 11) (ci := 9) (As := [.ref p1, .int (j_shr (c.1 11 9) 3)]) (rest := []) rfl rfl rfl rfl rfl rfl (st1 := fun x1 => [.int x1]) (fun _ => rfl) (ok_X10_takeSymbol hQ N c p1 (j_shr (c.1 11 9) 3) hp1) (fun x1 c2 => ?_)
      refine l1_many mt_X10_areSymbols (pc' := bif am_cc .ne x1 (-1) then 33 else 31) (L' := [some (.ref 11), some (.ref p1), some (.ref p2), some (.int v3), some (.int (j_shr (c.1 11 9) 3)), some (.int x1)]) (st' := []) 4 rfl ?_
      refine l1_bin rfl ?_ ?_
      · refine l1_many mt_X10_areSymbols (pc' := 32) (L' := [some (.ref 11), some (.ref p1), some (.ref p2), some (.int v3), some (.int (j_shr (c.1 11 9) 3)), some (.int x1)]) (st' := [.int 0]) 1 rfl ?_
        exact l1_ret mt_X10_areSymbols rfl rfl rfl
      · refine l1_many mt_X10_areSymbols (pc' := bif am_cc .ne x1 256 then 43 else 41) (L' := [some (.ref 11), some (.ref p1), some (.ref p2), some (.int v3), some (.int (j_shr (c.1 11 9) 3)), some (.int x1)]) (st' := []) 3 rfl ?_
        refine l1_bin rfl ?_ ?_
        · refine l1_many mt_X10_areSymbols (pc' := 42) (L' := [some (.ref 11), some (.ref p1), some (.ref p2), some (.int v3), some (.int (j_shr (c.1 11 9) 3)), some (.int x1)]) (st' := [.int 1]) 1 rfl ?_
          exact l1_ret mt_X10_areSymbols rfl rfl rfl
        · refine l1_many mt_X10_areSymbols (pc' := bif am_cc .le x1 285 then 63 else 51) (L' := [some (.ref 11), some (.ref p1), some (.ref p2), some (.int v3), some (.int (j_shr (c.1 11 9) 3)), some (.int x1)]) (st' := []) 3 rfl ?_
          refine l1_bif rfl ?_ ?_
          · refine l1_many mt_X10_areSymbols (pc' := bif am_cc .le x1 256 then 91 else 71) (L' := [some (.ref 11), some (.ref p1), some (.ref p2), some (.int v3), some (.int (j_shr (c.1 11 9) 3)), some (.int x1)]) (st' := []) 3 rfl ?_
            refine l1_bif rfl ?_ ?_
            · refine l1_many mt_X10_areSymbols (pc' := 92) (L' := [some (.ref 11), some (.ref p1), some (.ref p2), some (.int v3), some (.int (j_shr (c.1 11 9) 3)), some (.int x1)]) (st' := [.ref 11]) 1 rfl ?_
              refine l1_getR hQ mt_X10_areSymbols rfl (o := 11) (ci := 9) (k := 1) (a := 0) (b := 1) rfl rfl rfl rfl rfl (q := 7) rfl ?_
              refine l1_callV hQ mt_X10_areSymbols mt_X2_size rfl rfl (o := 7) (ci := 1) (As := []) (rest := []) rfl rfl rfl rfl rfl rfl (st1 := fun x3 => [.int x3]) (fun _ => rfl) (ok_X2_size hQ c2 7 rfl) (fun x3 c4 => ?_)
              refine l1_many mt_X10_areSymbols (pc' := 99) (L' := [some (.ref 11), some (.ref p1), some (.ref p2), some (.int v3), some (.int (j_shr (c.1 11 9) 3)), some (.int x1)]) (st' := [.ref 11, .int x3]) 1 rfl ?_
              refine l1_getI hQ mt_X10_areSymbols rfl (o := 11) (ci := 9) (k := 11) (a := 0) (b := 0) rfl rfl rfl rfl rfl ?_
              refine l1_many mt_X10_areSymbols (pc' := bif am_cc .lt x3 (c4.1 11 11) then 117 else 105) (L' := [some (.ref 11), some (.ref p1), some (.ref p2), some (.int v3), some (.int (j_shr (c.1 11 9) 3)), some (.int x1)]) (st' := []) 1 rfl ?_
              refine l1_bif rfl ?_ ?_
              · refine l1_many mt_X10_areSymbols (pc' := 118) (L' := [some (.ref 11), some (.ref p1), some (.ref p2), some (.int v3), some (.int (j_shr (c.1 11 9) 3)), some (.int x1)]) (st' := [.ref 11]) 1 rfl ?_
                refine l1_getR hQ mt_X10_areSymbols rfl (o := 11) (ci := 9) (k := 1) (a := 0) (b := 1) rfl rfl rfl rfl rfl (q := 7) rfl ?_
                refine l1_many mt_X10_areSymbols (pc' := 123) (L' := [some (.ref 11), some (.ref p1), some (.ref p2), some (.int v3), some (.int (j_shr (c.1 11 9) 3)), some (.int x1)]) (st' := [.int x1, .ref 7]) 1 rfl ?_
                refine l1_callV hQ mt_X10_areSymbols mt_X2_add rfl rfl (o := 7) (ci := 1) (As := [.int x1]) (rest := []) rfl rfl rfl rfl rfl rfl (st1 := fun _ => []) (fun _ => rfl) (ok_X2_add hQ c4 7 x1 rfl) (fun _ c5 => ?_)
                refine l1_many mt_X10_areSymbols (pc' := 2) (L' := [some (.ref 11), some (.ref p1), some (.ref p2), some (.int (v3 + 1)), some (.int (j_shr (c.1 11 9) 3)), some (.int x1)]) (st' := []) 2 rfl ?_
                refine l1_weak (m := [true, true, true, true, false, false]) (L' := [some (.ref 11), some (.ref p1), some (.ref p2), some (.int (v3 + 1))]) rfl ?_
                exact ih c5 (v3 + 1)
              · refine l1_many mt_X10_areSymbols (pc' := 106) (L' := [some (.ref 11), some (.ref p1), some (.ref p2), some (.int v3), some (.int (j_shr (c.1 11 9) 3)), some (.int x1)]) (st' := [.ref 11]) 1 rfl ?_
                refine l1_getR hQ mt_X10_areSymbols rfl (o := 11) (ci := 9) (k := 2) (a := 0) (b := 1) rfl rfl rfl rfl rfl (q := 9) rfl ?_
                refine l1_many mt_X10_areSymbols (pc' := 113) (L' := [some (.ref 11), some (.ref p1), some (.ref p2), some (.int v3), some (.int (j_shr (c.1 11 9) 3)), some (.int x1)]) (st' := [.int (j_shr (c.1 11 9) 3), .int 23, .ref 9]) 2 rfl ?_
                refine l1_callV hQ mt_X10_areSymbols mt_X6_tell rfl rfl (o := 9) (ci := 5) (As := [.int 23, .int (j_shr (c.1 11 9) 3)]) (rest := []) rfl rfl rfl rfl rfl rfl (st1 := fun x6 => [.int x6]) (fun _ => rfl) (ok_X6_tell hQ c4 23 (j_shr (c.1 11 9) 3)) (fun x6 c7 => ?_)
                refine l1_ck (fun hz => ?_)
                exact l1_retZ mt_X10_areSymbols rfl rfl rfl hz
            · refine l1_many mt_X10_areSymbols (pc' := 83) (L' := [some (.ref 11), some (.ref p1), some (.ref p2), some (.int v3), some (.int (j_shr (c.1 11 9) 3)), some (.int x1)]) (st' := [.int (j_shr (c.1 11 9) 3), .ref p2, .int ((x1 - 256) - 1), .ref 11]) 8 rfl ?_
              refine l1_callV hQ mt_X10_areSymbols mt_X10_isCopied rfl rfl (o := 11) (ci := 9) (As := [.int ((x1 - 256) - 1), .ref p2, .int (j_shr (c.1 11 9) 3)]) (rest := []) rfl rfl rfl rfl rfl rfl (st1 := fun x8 => [.int x8]) (fun _ => rfl) (ok_X10_isCopied hQ N c2 ((x1 - 256) - 1) p2 (j_shr (c.1 11 9) 3) hp2) (fun x8 c9 => ?_)
              refine l1_many mt_X10_areSymbols (pc' := bif am_cc .ne x8 0 then 126 else 89) (L' := [some (.ref 11), some (.ref p1), some (.ref p2), some (.int v3), some (.int (j_shr (c.1 11 9) 3)), some (.int x1)]) (st' := []) 1 rfl ?_
              refine l1_bin rfl ?_ ?_
              · refine l1_many mt_X10_areSymbols (pc' := 90) (L' := [some (.ref 11), some (.ref p1), some (.ref p2), some (.int v3), some (.int (j_shr (c.1 11 9) 3)), some (.int x1)]) (st' := [.int 0]) 1 rfl ?_
                exact l1_ret mt_X10_areSymbols rfl rfl rfl
              · refine l1_many mt_X10_areSymbols (pc' := 2) (L' := [some (.ref 11), some (.ref p1), some (.ref p2), some (.int (v3 + 1)), some (.int (j_shr (c.1 11 9) 3)), some (.int x1)]) (st' := []) 2 rfl ?_
                refine l1_weak (m := [true, true, true, true, false, false]) (L' := [some (.ref 11), some (.ref p1), some (.ref p2), some (.int (v3 + 1))]) rfl ?_
                exact ih c9 (v3 + 1)
          · refine l1_many mt_X10_areSymbols (pc' := 52) (L' := [some (.ref 11), some (.ref p1), some (.ref p2), some (.int v3), some (.int (j_shr (c.1 11 9) 3)), some (.int x1)]) (st' := [.ref 11]) 1 rfl ?_
            refine l1_getR hQ mt_X10_areSymbols rfl (o := 11) (ci := 9) (k := 2) (a := 0) (b := 1) rfl rfl rfl rfl rfl (q := 9) rfl ?_
            refine l1_many mt_X10_areSymbols (pc' := 59) (L' := [some (.ref 11), some (.ref p1), some (.ref p2), some (.int v3), some (.int (j_shr (c.1 11 9) 3)), some (.int x1)]) (st' := [.int (j_shr (c.1 11 9) 3), .int 25, .ref 9]) 2 rfl ?_
            refine l1_callV hQ mt_X10_areSymbols mt_X6_tell rfl rfl (o := 9) (ci := 5) (As := [.int 25, .int (j_shr (c.1 11 9) 3)]) (rest := []) rfl rfl rfl rfl rfl rfl (st1 := fun x10 => [.int x10]) (fun _ => rfl) (ok_X6_tell hQ c2 25 (j_shr (c.1 11 9) 3)) (fun x10 c11 => ?_)
            refine l1_ck (fun hz => ?_)
            exact l1_retZ mt_X10_areSymbols rfl rfl rfl hz
set_option maxRecDepth 100000 in
theorem en_X10_areSymbols {Q : hS → am_H → Prop} (hQ : l1_em kc Q) (N : Nat) (c : hS) (p1 : Nat) (p2 : Nat) (hp1 : kc p1 = 2) (hp2 : kc p2 = 2) : l1_G (wN wI) Q am_i_X10_areSymbols 0 [some (.ref 11), some (.ref p1), some (.ref p2)] [] c (f_X10_areSymbols N c p1 p2) := by
  rw [f_X10_areSymbols]
  refine l1_many mt_X10_areSymbols (pc' := 2) (L' := [some (.ref 11), some (.ref p1), some (.ref p2), some (.int 0)]) (st' := []) 2 rfl ?_
  exact ok_X10_areSymbols_2 hQ N p1 p2 hp1 hp2 N c 0
theorem ok_X10_areSymbols {Q : hS → am_H → Prop} (hQ : l1_em kc Q) (N : Nat) (c : hS) (p1 : Nat) (p2 : Nat) (hp1 : kc p1 = 2) (hp2 : kc p2 = 2) : l1_T wI Q am_i_X10_areSymbols [.ref 11, .ref p1, .ref p2] c (f_X10_areSymbols N c p1 p2) := l1_of (en_X10_areSymbols hQ N c p1 p2 hp1 hp2) ⟨rfl, rfl, rfl, trivial⟩
set_option maxRecDepth 100000 in
theorem ok_X10_isStored_64 {Q : hS → am_H → Prop} (hQ : l1_em kc Q) (N : Nat) : ∀ n : Nat, ∀ (c : hS) (v1 : Int32) (v3 : Int32), l1_G (wN wI) Q am_i_X10_isStored 64 [some (.ref 11), some (.int v1), none, some (.int v3)] [] c (f_X10_isStored_64 N n c v1 v3) := by
  intro n
  induction n with
  | zero => intro c v1 v3; exact l1_none
  | succ n ih =>
    intro c v1 v3
    rw [f_X10_isStored_64]
    refine l1_many mt_X10_isStored (pc' := bif am_cc .ge v3 v1 then 134 else 69) (L' := [some (.ref 11), some (.int v1), none, some (.int v3)]) (st' := []) 3 rfl ?_
    refine l1_bif rfl ?_ ?_
    · refine l1_many mt_X10_isStored (pc' := 135) (L' := [some (.ref 11), some (.int v1), none, some (.int v3)]) (st' := [.int 1]) 1 rfl ?_
      exact l1_ret mt_X10_isStored rfl rfl rfl
    · refine l1_many mt_X10_isStored (pc' := 70) (L' := [some (.ref 11), some (.int v1), none, some (.int v3)]) (st' := [.ref 11]) 1 rfl ?_
      refine l1_getI hQ mt_X10_isStored rfl (o := 11) (ci := 9) (k := 9) (a := 0) (b := 0) rfl rfl rfl rfl rfl ?_
      refine l1_many mt_X10_isStored (pc' := 80) (L' := [some (.ref 11), some (.int v1), none, some (.int v3), some (.int (j_shr (c.1 11 9) 3))]) (st' := [.int 8, .ref 11]) 5 rfl ?_
      refine l1_callV hQ mt_X10_isStored mt_X10_takeBits rfl rfl (o := 11) (ci := 9) (As := [.int 8]) (rest := []) rfl rfl rfl rfl rfl rfl (st1 := fun x1 => [.int x1]) (fun _ => rfl) (ok_X10_takeBits hQ N c 8) (fun x1 c2 => ?_)
      refine l1_many mt_X10_isStored (pc' := bif am_cc .ne x1 (-1) then 93 else 91) (L' := [some (.ref 11), some (.int v1), none, some (.int v3), some (.int (j_shr (c.1 11 9) 3)), some (.int x1)]) (st' := []) 4 rfl ?_
      refine l1_bin rfl ?_ ?_
      · refine l1_many mt_X10_isStored (pc' := 92) (L' := [some (.ref 11), some (.int v1), none, some (.int v3), some (.int (j_shr (c.1 11 9) 3)), some (.int x1)]) (st' := [.int 0]) 1 rfl ?_
        exact l1_ret mt_X10_isStored rfl rfl rfl
      · refine l1_many mt_X10_isStored (pc' := 94) (L' := [some (.ref 11), some (.int v1), none, some (.int v3), some (.int (j_shr (c.1 11 9) 3)), some (.int x1)]) (st' := [.ref 11]) 1 rfl ?_
        refine l1_getR hQ mt_X10_isStored rfl (o := 11) (ci := 9) (k := 1) (a := 0) (b := 1) rfl rfl rfl rfl rfl (q := 7) rfl ?_
        refine l1_callV hQ mt_X10_isStored mt_X2_size rfl rfl (o := 7) (ci := 1) (As := []) (rest := []) rfl rfl rfl rfl rfl rfl (st1 := fun x3 => [.int x3]) (fun _ => rfl) (ok_X2_size hQ c2 7 rfl) (fun x3 c4 => ?_)
        refine l1_many mt_X10_isStored (pc' := 101) (L' := [some (.ref 11), some (.int v1), none, some (.int v3), some (.int (j_shr (c.1 11 9) 3)), some (.int x1)]) (st' := [.ref 11, .int x3]) 1 rfl ?_
        refine l1_getI hQ mt_X10_isStored rfl (o := 11) (ci := 9) (k := 11) (a := 0) (b := 0) rfl rfl rfl rfl rfl ?_
        refine l1_many mt_X10_isStored (pc' := bif am_cc .lt x3 (c4.1 11 11) then 119 else 107) (L' := [some (.ref 11), some (.int v1), none, some (.int v3), some (.int (j_shr (c.1 11 9) 3)), some (.int x1)]) (st' := []) 1 rfl ?_
        refine l1_bif rfl ?_ ?_
        · refine l1_many mt_X10_isStored (pc' := 120) (L' := [some (.ref 11), some (.int v1), none, some (.int v3), some (.int (j_shr (c.1 11 9) 3)), some (.int x1)]) (st' := [.ref 11]) 1 rfl ?_
          refine l1_getR hQ mt_X10_isStored rfl (o := 11) (ci := 9) (k := 1) (a := 0) (b := 1) rfl rfl rfl rfl rfl (q := 7) rfl ?_
          refine l1_many mt_X10_isStored (pc' := 125) (L' := [some (.ref 11), some (.int v1), none, some (.int v3), some (.int (j_shr (c.1 11 9) 3)), some (.int x1)]) (st' := [.int x1, .ref 7]) 1 rfl ?_
          refine l1_callV hQ mt_X10_isStored mt_X2_add rfl rfl (o := 7) (ci := 1) (As := [.int x1]) (rest := []) rfl rfl rfl rfl rfl rfl (st1 := fun _ => []) (fun _ => rfl) (ok_X2_add hQ c4 7 x1 rfl) (fun _ c5 => ?_)
          refine l1_many mt_X10_isStored (pc' := 64) (L' := [some (.ref 11), some (.int v1), none, some (.int (v3 + 1)), some (.int (j_shr (c.1 11 9) 3)), some (.int x1)]) (st' := []) 2 rfl ?_
          refine l1_weak (m := [true, true, false, true, false, false]) (L' := [some (.ref 11), some (.int v1), none, some (.int (v3 + 1))]) rfl ?_
          exact ih c5 v1 (v3 + 1)
        · refine l1_many mt_X10_isStored (pc' := 108) (L' := [some (.ref 11), some (.int v1), none, some (.int v3), some (.int (j_shr (c.1 11 9) 3)), some (.int x1)]) (st' := [.ref 11]) 1 rfl ?_
          refine l1_getR hQ mt_X10_isStored rfl (o := 11) (ci := 9) (k := 2) (a := 0) (b := 1) rfl rfl rfl rfl rfl (q := 9) rfl ?_
          refine l1_many mt_X10_isStored (pc' := 115) (L' := [some (.ref 11), some (.int v1), none, some (.int v3), some (.int (j_shr (c.1 11 9) 3)), some (.int x1)]) (st' := [.int (j_shr (c.1 11 9) 3), .int 23, .ref 9]) 2 rfl ?_
          refine l1_callV hQ mt_X10_isStored mt_X6_tell rfl rfl (o := 9) (ci := 5) (As := [.int 23, .int (j_shr (c.1 11 9) 3)]) (rest := []) rfl rfl rfl rfl rfl rfl (st1 := fun x6 => [.int x6]) (fun _ => rfl) (ok_X6_tell hQ c4 23 (j_shr (c.1 11 9) 3)) (fun x6 c7 => ?_)
          refine l1_ck (fun hz => ?_)
          exact l1_retZ mt_X10_isStored rfl rfl rfl hz
set_option maxRecDepth 100000 in
theorem en_X10_isStored {Q : hS → am_H → Prop} (hQ : l1_em kc Q) (N : Nat) (c : hS) : l1_G (wN wI) Q am_i_X10_isStored 0 [some (.ref 11)] [] c (f_X10_isStored N c) := by
  rw [f_X10_isStored]
  refine l1_many mt_X10_isStored (pc' := 2) (L' := [some (.ref 11)]) (st' := [.ref 11, .ref 11]) 2 rfl ?_
  refine l1_getI hQ mt_X10_isStored rfl (o := 11) (ci := 9) (k := 9) (a := 0) (b := 0) rfl rfl rfl rfl rfl ?_
  refine l1_many mt_X10_isStored (pc' := 11) (L' := [some (.ref 11)]) (st' := [.int (((c.1 11 9) + 7) &&& (-8)), .ref 11]) 4 rfl ?_
  refine l1_putI hQ mt_X10_isStored rfl (o := 11) (ci := 9) (k := 9) (a := 0) rfl rfl rfl rfl rfl rfl (fun c1 => ?_)
  refine l1_many mt_X10_isStored (pc' := 17) (L' := [some (.ref 11)]) (st' := [.int 16, .ref 11]) 2 rfl ?_
  refine l1_callV hQ mt_X10_isStored mt_X10_takeBits rfl rfl (o := 11) (ci := 9) (As := [.int 16]) (rest := []) rfl rfl rfl rfl rfl rfl (st1 := fun x2 => [.int x2]) (fun _ => rfl) (ok_X10_takeBits hQ N c1 16) (fun x2 c3 => ?_)
  refine l1_many mt_X10_isStored (pc' := 24) (L' := [some (.ref 11), some (.int x2)]) (st' := [.int 16, .ref 11]) 3 rfl ?_
  refine l1_callV hQ mt_X10_isStored mt_X10_takeBits rfl rfl (o := 11) (ci := 9) (As := [.int 16]) (rest := []) rfl rfl rfl rfl rfl rfl (st1 := fun x4 => [.int x4]) (fun _ => rfl) (ok_X10_takeBits hQ N c3 16) (fun x4 c5 => ?_)
  refine l1_many mt_X10_isStored (pc' := bif am_cc .eq x2 (-1) then 38 else 33) (L' := [some (.ref 11), some (.int x2), some (.int x4)]) (st' := []) 4 rfl ?_
  refine l1_bif rfl ?_ ?_
  · refine l1_many mt_X10_isStored (pc' := 39) (L' := [some (.ref 11), some (.int x2), some (.int x4)]) (st' := [.int 0]) 1 rfl ?_
    exact l1_ret mt_X10_isStored rfl rfl rfl
  · refine l1_many mt_X10_isStored (pc' := bif am_cc .ne x4 (-1) then 40 else 38) (L' := [some (.ref 11), some (.int x2), some (.int x4)]) (st' := []) 3 rfl ?_
    refine l1_bin rfl ?_ ?_
    · refine l1_many mt_X10_isStored (pc' := 39) (L' := [some (.ref 11), some (.int x2), some (.int x4)]) (st' := [.int 0]) 1 rfl ?_
      exact l1_ret mt_X10_isStored rfl rfl rfl
    · refine l1_many mt_X10_isStored (pc' := bif am_cc .eq x4 (65535 - x2) then 62 else 48) (L' := [some (.ref 11), some (.int x2), some (.int x4)]) (st' := []) 5 rfl ?_
      refine l1_bif rfl ?_ ?_
      · refine l1_many mt_X10_isStored (pc' := 64) (L' := [some (.ref 11), some (.int x2), some (.int x4), some (.int 0)]) (st' := []) 2 rfl ?_
        refine l1_weak (m := [true, true, false, true, false, false]) (L' := [some (.ref 11), some (.int x2), none, some (.int 0)]) rfl ?_
        exact ok_X10_isStored_64 hQ N N c5 x2 0
      · refine l1_many mt_X10_isStored (pc' := 49) (L' := [some (.ref 11), some (.int x2), some (.int x4)]) (st' := [.ref 11]) 1 rfl ?_
        refine l1_getR hQ mt_X10_isStored rfl (o := 11) (ci := 9) (k := 2) (a := 0) (b := 1) rfl rfl rfl rfl rfl (q := 9) rfl ?_
        refine l1_many mt_X10_isStored (pc' := 55) (L' := [some (.ref 11), some (.int x2), some (.int x4)]) (st' := [.ref 11, .int 22, .ref 9]) 2 rfl ?_
        refine l1_getI hQ mt_X10_isStored rfl (o := 11) (ci := 9) (k := 12) (a := 0) (b := 0) rfl rfl rfl rfl rfl ?_
        refine l1_callV hQ mt_X10_isStored mt_X6_tell rfl rfl (o := 9) (ci := 5) (As := [.int 22, .int (c5.1 11 12)]) (rest := []) rfl rfl rfl rfl rfl rfl (st1 := fun x6 => [.int x6]) (fun _ => rfl) (ok_X6_tell hQ c5 22 (c5.1 11 12)) (fun x6 c7 => ?_)
        refine l1_ck (fun hz => ?_)
        exact l1_retZ mt_X10_isStored rfl rfl rfl hz
theorem ok_X10_isStored {Q : hS → am_H → Prop} (hQ : l1_em kc Q) (N : Nat) (c : hS) : l1_T wI Q am_i_X10_isStored [.ref 11] c (f_X10_isStored N c) := l1_of (en_X10_isStored hQ N c) ⟨rfl, trivial⟩
set_option maxRecDepth 100000 in
theorem ok_X10_open_179 {Q : hS → am_H → Prop} (hQ : l1_em kc Q) (N : Nat) (p1 : Int32) (p2 : Int32) (p3 : Int32) {k35 : hS → Int32 → Int32 → Option (Int32 × hS)} (hk35 : ∀ c v4 v5, l1_G (wN wI) Q am_i_X10_open 35 [some (.ref 11), none, some (.int p2), none, some (.int v4), some (.int v5)] [] c (k35 c v4 v5)) : ∀ (c : hS) (v5 : Int32) (v6 : Int32), l1_G (wN wI) Q am_i_X10_open 179 [some (.ref 11), none, some (.int p2), none, none, some (.int v5), some (.int v6)] [] c (f_X10_open_179 N p1 p2 p3 k35 c v5 v6) := by
  intro c v5 v6
  rw [f_X10_open_179]
  refine l1_many mt_X10_open (pc' := bif am_cc .ne v6 1 then 189 else 185) (L' := [some (.ref 11), none, some (.int p2), none, none, some (.int v5), some (.int v6)]) (st' := []) 3 rfl ?_
  refine l1_bin rfl ?_ ?_
  · refine l1_many mt_X10_open (pc' := 35) (L' := [some (.ref 11), none, some (.int p2), none, some (.int 1), some (.int (v5 + 1)), some (.int v6)]) (st' := []) 5 rfl ?_
    refine l1_weak (m := [true, false, true, false, true, true, false, false]) (L' := [some (.ref 11), none, some (.int p2), none, some (.int 1), some (.int (v5 + 1))]) rfl ?_
    exact hk35 c 1 (v5 + 1)
  · refine l1_many mt_X10_open (pc' := 35) (L' := [some (.ref 11), none, some (.int p2), none, some (.int 0), some (.int (v5 + 1)), some (.int v6)]) (st' := []) 4 rfl ?_
    refine l1_weak (m := [true, false, true, false, true, true, false, false]) (L' := [some (.ref 11), none, some (.int p2), none, some (.int 0), some (.int (v5 + 1))]) rfl ?_
    exact hk35 c 0 (v5 + 1)
set_option maxRecDepth 100000 in
theorem ok_X10_open_142 {Q : hS → am_H → Prop} (hQ : l1_em kc Q) (N : Nat) (p1 : Int32) (p2 : Int32) (p3 : Int32) {k35 : hS → Int32 → Int32 → Option (Int32 × hS)} (hk35 : ∀ c v4 v5, l1_G (wN wI) Q am_i_X10_open 35 [some (.ref 11), none, some (.int p2), none, some (.int v4), some (.int v5)] [] c (k35 c v4 v5)) : ∀ (c : hS) (v5 : Int32) (v6 : Int32) (v7 : Int32), l1_G (wN wI) Q am_i_X10_open 142 [some (.ref 11), none, some (.int p2), none, none, some (.int v5), some (.int v6), some (.int v7)] [] c (f_X10_open_142 N p1 p2 p3 k35 c v5 v6 v7) := by
  intro c v5 v6 v7
  rw [f_X10_open_142]
  refine l1_many mt_X10_open (pc' := bif am_cc .ne v7 2 then 179 else 148) (L' := [some (.ref 11), none, some (.int p2), none, none, some (.int v5), some (.int v6), some (.int v7)]) (st' := []) 3 rfl ?_
  refine l1_bin rfl ?_ ?_
  · refine l1_many mt_X10_open (pc' := 149) (L' := [some (.ref 11), none, some (.int p2), none, none, some (.int v5), some (.int v6), some (.int v7)]) (st' := [.ref 11]) 1 rfl ?_
    refine l1_callV hQ mt_X10_open mt_X10_areLengthCodes rfl rfl (o := 11) (ci := 9) (As := []) (rest := []) rfl rfl rfl rfl rfl rfl (st1 := fun x1 => [.int x1]) (fun _ => rfl) (ok_X10_areLengthCodes hQ N c) (fun x1 c2 => ?_)
    refine l1_many mt_X10_open (pc' := bif am_cc .eq x1 0 then 177 else 155) (L' := [some (.ref 11), none, some (.int p2), none, none, some (.int v5), some (.int v6), some (.int v7)]) (st' := []) 1 rfl ?_
    refine l1_bif rfl ?_ ?_
    · refine l1_many mt_X10_open (pc' := 178) (L' := [some (.ref 11), none, some (.int p2), none, none, some (.int v5), some (.int v6), some (.int v7)]) (st' := [.int 0]) 1 rfl ?_
      exact l1_ret mt_X10_open rfl rfl rfl
    · refine l1_many mt_X10_open (pc' := 156) (L' := [some (.ref 11), none, some (.int p2), none, none, some (.int v5), some (.int v6), some (.int v7)]) (st' := [.ref 11]) 1 rfl ?_
      refine l1_callV hQ mt_X10_open mt_X10_areLengths rfl rfl (o := 11) (ci := 9) (As := []) (rest := []) rfl rfl rfl rfl rfl rfl (st1 := fun x3 => [.int x3]) (fun _ => rfl) (ok_X10_areLengths hQ N c2) (fun x3 c4 => ?_)
      refine l1_many mt_X10_open (pc' := bif am_cc .eq x3 0 then 177 else 162) (L' := [some (.ref 11), none, some (.int p2), none, none, some (.int v5), some (.int v6), some (.int v7)]) (st' := []) 1 rfl ?_
      refine l1_bif rfl ?_ ?_
      · refine l1_many mt_X10_open (pc' := 178) (L' := [some (.ref 11), none, some (.int p2), none, none, some (.int v5), some (.int v6), some (.int v7)]) (st' := [.int 0]) 1 rfl ?_
        exact l1_ret mt_X10_open rfl rfl rfl
      · refine l1_many mt_X10_open (pc' := 164) (L' := [some (.ref 11), none, some (.int p2), none, none, some (.int v5), some (.int v6), some (.int v7)]) (st' := [.ref 11, .ref 11]) 2 rfl ?_
        refine l1_getR hQ mt_X10_open rfl (o := 11) (ci := 9) (k := 5) (a := 0) (b := 1) rfl rfl rfl rfl rfl (q := 20) rfl ?_
        refine l1_many mt_X10_open (pc' := 168) (L' := [some (.ref 11), none, some (.int p2), none, none, some (.int v5), some (.int v6), some (.int v7)]) (st' := [.ref 11, .ref 20, .ref 11]) 1 rfl ?_
        refine l1_getR hQ mt_X10_open rfl (o := 11) (ci := 9) (k := 6) (a := 0) (b := 1) rfl rfl rfl rfl rfl (q := 24) rfl ?_
        refine l1_callV hQ mt_X10_open mt_X10_areSymbols rfl rfl (o := 11) (ci := 9) (As := [.ref 20, .ref 24]) (rest := []) rfl rfl rfl rfl rfl rfl (st1 := fun x5 => [.int x5]) (fun _ => rfl) (ok_X10_areSymbols hQ N c4 20 24 rfl rfl) (fun x5 c6 => ?_)
        refine l1_many mt_X10_open (pc' := bif am_cc .ne x5 0 then 179 else 177) (L' := [some (.ref 11), none, some (.int p2), none, none, some (.int v5), some (.int v6), some (.int v7)]) (st' := []) 1 rfl ?_
        refine l1_bin rfl ?_ ?_
        · refine l1_many mt_X10_open (pc' := 178) (L' := [some (.ref 11), none, some (.int p2), none, none, some (.int v5), some (.int v6), some (.int v7)]) (st' := [.int 0]) 1 rfl ?_
          exact l1_ret mt_X10_open rfl rfl rfl
        · refine l1_weak (m := [true, false, true, false, false, true, true, false]) (L' := [some (.ref 11), none, some (.int p2), none, none, some (.int v5), some (.int v6)]) rfl ?_
          exact ok_X10_open_179 hQ N p1 p2 p3 hk35 c6 v5 v6
  · refine l1_weak (m := [true, false, true, false, false, true, true, false]) (L' := [some (.ref 11), none, some (.int p2), none, none, some (.int v5), some (.int v6)]) rfl ?_
    exact ok_X10_open_179 hQ N p1 p2 p3 hk35 c v5 v6
set_option maxRecDepth 100000 in
theorem ok_X10_open_119 {Q : hS → am_H → Prop} (hQ : l1_em kc Q) (N : Nat) (p1 : Int32) (p2 : Int32) (p3 : Int32) {k35 : hS → Int32 → Int32 → Option (Int32 × hS)} (hk35 : ∀ c v4 v5, l1_G (wN wI) Q am_i_X10_open 35 [some (.ref 11), none, some (.int p2), none, some (.int v4), some (.int v5)] [] c (k35 c v4 v5)) : ∀ (c : hS) (v5 : Int32) (v6 : Int32) (v7 : Int32), l1_G (wN wI) Q am_i_X10_open 119 [some (.ref 11), none, some (.int p2), none, none, some (.int v5), some (.int v6), some (.int v7)] [] c (f_X10_open_119 N p1 p2 p3 k35 c v5 v6 v7) := by
  intro c v5 v6 v7
  rw [f_X10_open_119]
  refine l1_many mt_X10_open (pc' := bif am_cc .ne v7 1 then 142 else 125) (L' := [some (.ref 11), none, some (.int p2), none, none, some (.int v5), some (.int v6), some (.int v7)]) (st' := []) 3 rfl ?_
  refine l1_bin rfl ?_ ?_
  · refine l1_many mt_X10_open (pc' := 127) (L' := [some (.ref 11), none, some (.int p2), none, none, some (.int v5), some (.int v6), some (.int v7)]) (st' := [.ref 11, .ref 11]) 2 rfl ?_
    refine l1_getR hQ mt_X10_open rfl (o := 11) (ci := 9) (k := 3) (a := 0) (b := 1) rfl rfl rfl rfl rfl (q := 12) rfl ?_
    refine l1_many mt_X10_open (pc' := 131) (L' := [some (.ref 11), none, some (.int p2), none, none, some (.int v5), some (.int v6), some (.int v7)]) (st' := [.ref 11, .ref 12, .ref 11]) 1 rfl ?_
    refine l1_getR hQ mt_X10_open rfl (o := 11) (ci := 9) (k := 4) (a := 0) (b := 1) rfl rfl rfl rfl rfl (q := 16) rfl ?_
    refine l1_callV hQ mt_X10_open mt_X10_areSymbols rfl rfl (o := 11) (ci := 9) (As := [.ref 12, .ref 16]) (rest := []) rfl rfl rfl rfl rfl rfl (st1 := fun x1 => [.int x1]) (fun _ => rfl) (ok_X10_areSymbols hQ N c 12 16 rfl rfl) (fun x1 c2 => ?_)
    refine l1_many mt_X10_open (pc' := bif am_cc .ne x1 0 then 142 else 140) (L' := [some (.ref 11), none, some (.int p2), none, none, some (.int v5), some (.int v6), some (.int v7)]) (st' := []) 1 rfl ?_
    refine l1_bin rfl ?_ ?_
    · refine l1_many mt_X10_open (pc' := 141) (L' := [some (.ref 11), none, some (.int p2), none, none, some (.int v5), some (.int v6), some (.int v7)]) (st' := [.int 0]) 1 rfl ?_
      exact l1_ret mt_X10_open rfl rfl rfl
    · exact ok_X10_open_142 hQ N p1 p2 p3 hk35 c2 v5 v6 v7
  · exact ok_X10_open_142 hQ N p1 p2 p3 hk35 c v5 v6 v7
set_option maxRecDepth 100000 in
theorem ok_X10_open_198 {Q : hS → am_H → Prop} (hQ : l1_em kc Q) (N : Nat) (p1 : Int32) (p2 : Int32) (p3 : Int32) : ∀ (c : hS), l1_G (wN wI) Q am_i_X10_open 198 [some (.ref 11), none, some (.int p2)] [] c (f_X10_open_198 N p1 p2 p3 c) := by
  intro c
  rw [f_X10_open_198]
  refine l1_many mt_X10_open (pc' := 199) (L' := [some (.ref 11), none, some (.int p2)]) (st' := [.ref 11]) 1 rfl ?_
  refine l1_getI hQ mt_X10_open rfl (o := 11) (ci := 9) (k := 9) (a := 0) (b := 0) rfl rfl rfl rfl rfl ?_
  refine l1_many mt_X10_open (pc' := bif am_cc .eq (j_shr ((c.1 11 9) + 7) 3) p2 then 229 else 215) (L' := [some (.ref 11), none, some (.int p2), none, none, some (.int (j_shr ((c.1 11 9) + 7) 3))]) (st' := []) 8 rfl ?_
  refine l1_bif rfl ?_ ?_
  · refine l1_many mt_X10_open (pc' := 234) (L' := [some (.ref 11), none, some (.int p2), none, none, some (.int (j_shr ((c.1 11 9) + 7) 3))]) (st' := [.int 1]) 2 rfl ?_
    exact l1_ret mt_X10_open rfl rfl rfl
  · refine l1_many mt_X10_open (pc' := 216) (L' := [some (.ref 11), none, some (.int p2), none, none, some (.int (j_shr ((c.1 11 9) + 7) 3))]) (st' := [.ref 11]) 1 rfl ?_
    refine l1_getR hQ mt_X10_open rfl (o := 11) (ci := 9) (k := 2) (a := 0) (b := 1) rfl rfl rfl rfl rfl (q := 9) rfl ?_
    refine l1_many mt_X10_open (pc' := 223) (L' := [some (.ref 11), none, some (.int p2), none, none, some (.int (j_shr ((c.1 11 9) + 7) 3))]) (st' := [.int (j_shr ((c.1 11 9) + 7) 3), .int 27, .ref 9]) 2 rfl ?_
    refine l1_callV hQ mt_X10_open mt_X6_tell rfl rfl (o := 9) (ci := 5) (As := [.int 27, .int (j_shr ((c.1 11 9) + 7) 3)]) (rest := []) rfl rfl rfl rfl rfl rfl (st1 := fun x1 => [.int x1]) (fun _ => rfl) (ok_X6_tell hQ c 27 (j_shr ((c.1 11 9) + 7) 3)) (fun x1 c2 => ?_)
    refine l1_many mt_X10_open (pc' := bif am_cc .eq x1 0 then 233 else 229) (L' := [some (.ref 11), none, some (.int p2), none, none, some (.int (j_shr ((c.1 11 9) + 7) 3))]) (st' := []) 1 rfl ?_
    refine l1_bif rfl ?_ ?_
    · refine l1_many mt_X10_open (pc' := 234) (L' := [some (.ref 11), none, some (.int p2), none, none, some (.int (j_shr ((c.1 11 9) + 7) 3))]) (st' := [.int 0]) 1 rfl ?_
      exact l1_ret mt_X10_open rfl rfl rfl
    · refine l1_many mt_X10_open (pc' := 234) (L' := [some (.ref 11), none, some (.int p2), none, none, some (.int (j_shr ((c.1 11 9) + 7) 3))]) (st' := [.int 1]) 2 rfl ?_
      exact l1_ret mt_X10_open rfl rfl rfl
set_option maxRecDepth 100000 in
theorem ok_X10_open_35 {Q : hS → am_H → Prop} (hQ : l1_em kc Q) (N : Nat) (p1 : Int32) (p2 : Int32) (p3 : Int32) : ∀ n : Nat, ∀ (c : hS) (v4 : Int32) (v5 : Int32), l1_G (wN wI) Q am_i_X10_open 35 [some (.ref 11), none, some (.int p2), none, some (.int v4), some (.int v5)] [] c (f_X10_open_35 N p1 p2 p3 n c v4 v5) := by
  intro n
  induction n with
  | zero => intro c v4 v5; exact l1_none
  | succ n ih =>
    intro c v4 v5
    rw [f_X10_open_35]
    refine l1_many mt_X10_open (pc' := bif am_cc .gt v5 160000 then 198 else 42) (L' := [some (.ref 11), none, some (.int p2), none, some (.int v4), some (.int v5)]) (st' := []) 3 rfl ?_
    refine l1_bif rfl ?_ ?_
    · refine l1_weak (m := [true, false, true, false, false, false, false, false]) (L' := [some (.ref 11), none, some (.int p2)]) rfl ?_
      exact ok_X10_open_198 hQ N p1 p2 p3 c
    · refine l1_many mt_X10_open (pc' := bif am_cc .ne v4 0 then 198 else 47) (L' := [some (.ref 11), none, some (.int p2), none, some (.int v4), some (.int v5)]) (st' := []) 2 rfl ?_
      refine l1_bin rfl ?_ ?_
      · refine l1_many mt_X10_open (pc' := 49) (L' := [some (.ref 11), none, some (.int p2), none, some (.int v4), some (.int v5)]) (st' := [.ref 11, .ref 11]) 2 rfl ?_
        refine l1_getI hQ mt_X10_open rfl (o := 11) (ci := 9) (k := 9) (a := 0) (b := 0) rfl rfl rfl rfl rfl ?_
        refine l1_many mt_X10_open (pc' := 54) (L' := [some (.ref 11), none, some (.int p2), none, some (.int v4), some (.int v5)]) (st' := [.int (j_shr (c.1 11 9) 3), .ref 11]) 2 rfl ?_
        refine l1_putI hQ mt_X10_open rfl (o := 11) (ci := 9) (k := 12) (a := 0) rfl rfl rfl rfl rfl rfl (fun c1 => ?_)
        refine l1_many mt_X10_open (pc' := 59) (L' := [some (.ref 11), none, some (.int p2), none, some (.int v4), some (.int v5)]) (st' := [.int 1, .ref 11]) 2 rfl ?_
        refine l1_callV hQ mt_X10_open mt_X10_takeBits rfl rfl (o := 11) (ci := 9) (As := [.int 1]) (rest := []) rfl rfl rfl rfl rfl rfl (st1 := fun x2 => [.int x2]) (fun _ => rfl) (ok_X10_takeBits hQ N c1 1) (fun x2 c3 => ?_)
        refine l1_many mt_X10_open (pc' := 66) (L' := [some (.ref 11), none, some (.int p2), none, some (.int v4), some (.int v5), some (.int x2)]) (st' := [.int 2, .ref 11]) 3 rfl ?_
        refine l1_callV hQ mt_X10_open mt_X10_takeBits rfl rfl (o := 11) (ci := 9) (As := [.int 2]) (rest := []) rfl rfl rfl rfl rfl rfl (st1 := fun x4 => [.int x4]) (fun _ => rfl) (ok_X10_takeBits hQ N c3 2) (fun x4 c5 => ?_)
        refine l1_many mt_X10_open (pc' := bif am_cc .eq x2 (-1) then 83 else 77) (L' := [some (.ref 11), none, some (.int p2), none, some (.int v4), some (.int v5), some (.int x2), some (.int x4)]) (st' := []) 4 rfl ?_
        refine l1_bif rfl ?_ ?_
        · refine l1_many mt_X10_open (pc' := 84) (L' := [some (.ref 11), none, some (.int p2), none, some (.int v4), some (.int v5), some (.int x2), some (.int x4)]) (st' := [.int 0]) 1 rfl ?_
          exact l1_ret mt_X10_open rfl rfl rfl
        · refine l1_many mt_X10_open (pc' := bif am_cc .ne x4 (-1) then 85 else 83) (L' := [some (.ref 11), none, some (.int p2), none, some (.int v4), some (.int v5), some (.int x2), some (.int x4)]) (st' := []) 3 rfl ?_
          refine l1_bin rfl ?_ ?_
          · refine l1_many mt_X10_open (pc' := 84) (L' := [some (.ref 11), none, some (.int p2), none, some (.int v4), some (.int v5), some (.int x2), some (.int x4)]) (st' := [.int 0]) 1 rfl ?_
            exact l1_ret mt_X10_open rfl rfl rfl
          · refine l1_many mt_X10_open (pc' := bif am_cc .ne x4 3 then 105 else 91) (L' := [some (.ref 11), none, some (.int p2), none, some (.int v4), some (.int v5), some (.int x2), some (.int x4)]) (st' := []) 3 rfl ?_
            refine l1_bin rfl ?_ ?_
            · refine l1_many mt_X10_open (pc' := 92) (L' := [some (.ref 11), none, some (.int p2), none, some (.int v4), some (.int v5), some (.int x2), some (.int x4)]) (st' := [.ref 11]) 1 rfl ?_
              refine l1_getR hQ mt_X10_open rfl (o := 11) (ci := 9) (k := 2) (a := 0) (b := 1) rfl rfl rfl rfl rfl (q := 9) rfl ?_
              refine l1_many mt_X10_open (pc' := 98) (L' := [some (.ref 11), none, some (.int p2), none, some (.int v4), some (.int v5), some (.int x2), some (.int x4)]) (st' := [.ref 11, .int 21, .ref 9]) 2 rfl ?_
              refine l1_getI hQ mt_X10_open rfl (o := 11) (ci := 9) (k := 12) (a := 0) (b := 0) rfl rfl rfl rfl rfl ?_
              refine l1_callV hQ mt_X10_open mt_X6_tell rfl rfl (o := 9) (ci := 5) (As := [.int 21, .int (c5.1 11 12)]) (rest := []) rfl rfl rfl rfl rfl rfl (st1 := fun x8 => [.int x8]) (fun _ => rfl) (ok_X6_tell hQ c5 21 (c5.1 11 12)) (fun x8 c9 => ?_)
              refine l1_ck (fun hz => ?_)
              exact l1_retZ mt_X10_open rfl rfl rfl hz
            · refine l1_many mt_X10_open (pc' := bif am_cc .ne x4 0 then 119 else 110) (L' := [some (.ref 11), none, some (.int p2), none, some (.int v4), some (.int v5), some (.int x2), some (.int x4)]) (st' := []) 2 rfl ?_
              refine l1_bin rfl ?_ ?_
              · refine l1_many mt_X10_open (pc' := 111) (L' := [some (.ref 11), none, some (.int p2), none, some (.int v4), some (.int v5), some (.int x2), some (.int x4)]) (st' := [.ref 11]) 1 rfl ?_
                refine l1_callV hQ mt_X10_open mt_X10_isStored rfl rfl (o := 11) (ci := 9) (As := []) (rest := []) rfl rfl rfl rfl rfl rfl (st1 := fun x6 => [.int x6]) (fun _ => rfl) (ok_X10_isStored hQ N c5) (fun x6 c7 => ?_)
                refine l1_many mt_X10_open (pc' := bif am_cc .ne x6 0 then 119 else 117) (L' := [some (.ref 11), none, some (.int p2), none, some (.int v4), some (.int v5), some (.int x2), some (.int x4)]) (st' := []) 1 rfl ?_
                refine l1_bin rfl ?_ ?_
                · refine l1_many mt_X10_open (pc' := 118) (L' := [some (.ref 11), none, some (.int p2), none, some (.int v4), some (.int v5), some (.int x2), some (.int x4)]) (st' := [.int 0]) 1 rfl ?_
                  exact l1_ret mt_X10_open rfl rfl rfl
                · refine l1_weak (m := [true, false, true, false, false, true, true, true]) (L' := [some (.ref 11), none, some (.int p2), none, none, some (.int v5), some (.int x2), some (.int x4)]) rfl ?_
                  exact ok_X10_open_119 hQ N p1 p2 p3 ih c7 v5 x2 x4
              · refine l1_weak (m := [true, false, true, false, false, true, true, true]) (L' := [some (.ref 11), none, some (.int p2), none, none, some (.int v5), some (.int x2), some (.int x4)]) rfl ?_
                exact ok_X10_open_119 hQ N p1 p2 p3 ih c5 v5 x2 x4
      · refine l1_weak (m := [true, false, true, false, false, false, false, false]) (L' := [some (.ref 11), none, some (.int p2)]) rfl ?_
        exact ok_X10_open_198 hQ N p1 p2 p3 c
set_option maxRecDepth 100000 in
theorem en_X10_open {Q : hS → am_H → Prop} (hQ : l1_em kc Q) (N : Nat) (c : hS) (p1 : Int32) (p2 : Int32) (p3 : Int32) : l1_G (wN wI) Q am_i_X10_open 0 [some (.ref 11), some (.int p1), some (.int p2), some (.int p3)] [] c (f_X10_open N c p1 p2 p3) := by
  rw [f_X10_open]
  refine l1_many mt_X10_open (pc' := 5) (L' := [some (.ref 11), some (.int p1), some (.int p2), some (.int p3)]) (st' := [.int (8 * p1), .ref 11]) 4 rfl ?_
  refine l1_putI hQ mt_X10_open rfl (o := 11) (ci := 9) (k := 9) (a := 0) rfl rfl rfl rfl rfl rfl (fun c1 => ?_)
  refine l1_many mt_X10_open (pc' := 13) (L' := [some (.ref 11), some (.int p1), some (.int p2), some (.int p3)]) (st' := [.int (8 * p2), .ref 11]) 4 rfl ?_
  refine l1_putI hQ mt_X10_open rfl (o := 11) (ci := 9) (k := 10) (a := 0) rfl rfl rfl rfl rfl rfl (fun c2 => ?_)
  refine l1_many mt_X10_open (pc' := 18) (L' := [some (.ref 11), some (.int p1), some (.int p2), some (.int p3)]) (st' := [.int p3, .ref 11]) 2 rfl ?_
  refine l1_putI hQ mt_X10_open rfl (o := 11) (ci := 9) (k := 11) (a := 0) rfl rfl rfl rfl rfl rfl (fun c3 => ?_)
  refine l1_many mt_X10_open (pc' := 22) (L' := [some (.ref 11), some (.int p1), some (.int p2), some (.int p3)]) (st' := [.ref 11]) 1 rfl ?_
  refine l1_getR hQ mt_X10_open rfl (o := 11) (ci := 9) (k := 1) (a := 0) (b := 1) rfl rfl rfl rfl rfl (q := 7) rfl ?_
  refine l1_many mt_X10_open (pc' := 26) (L' := [some (.ref 11), some (.int p1), some (.int p2), some (.int p3)]) (st' := [.int 0, .ref 7]) 1 rfl ?_
  refine l1_callV hQ mt_X10_open mt_X2_cutTo rfl rfl (o := 7) (ci := 1) (As := [.int 0]) (rest := []) rfl rfl rfl rfl rfl rfl (st1 := fun _ => []) (fun _ => rfl) (ok_X2_cutTo hQ c3 7 0 rfl) (fun _ c4 => ?_)
  refine l1_many mt_X10_open (pc' := 35) (L' := [some (.ref 11), some (.int p1), some (.int p2), some (.int p3), some (.int 0), some (.int 0)]) (st' := []) 4 rfl ?_
  refine l1_weak (m := [true, false, true, false, true, true, false, false]) (L' := [some (.ref 11), none, some (.int p2), none, some (.int 0), some (.int 0)]) rfl ?_
  exact ok_X10_open_35 hQ N p1 p2 p3 N c4 0 0
theorem ok_X10_open {Q : hS → am_H → Prop} (hQ : l1_em kc Q) (N : Nat) (c : hS) (p1 : Int32) (p2 : Int32) (p3 : Int32) : l1_T wI Q am_i_X10_open [.ref 11, .int p1, .int p2, .int p3] c (f_X10_open N c p1 p2 p3) := l1_of (en_X10_open hQ N c p1 p2 p3) ⟨rfl, rfl, rfl, rfl, trivial⟩
set_option maxRecDepth 100000 in
theorem ok_X11_checkOf_22 {Q : hS → am_H → Prop} (hQ : l1_em kc Q) (N : Nat) (p0 : Nat) (hp0 : kc p0 = 1) {k4 : hS → Int32 → Int32 → Option (Int32 × hS)} (hk4 : ∀ c v1 v2, l1_G (wN wI) Q am_i_X11_checkOf 4 [some (.ref p0), some (.int v1), some (.int v2)] [] c (k4 c v1 v2)) : ∀ n : Nat, ∀ (c : hS) (v1 : Int32) (v2 : Int32) (v3 : Int32), l1_G (wN wI) Q am_i_X11_checkOf 22 [some (.ref p0), some (.int v1), some (.int v2), some (.int v3)] [] c (f_X11_checkOf_22 N p0 k4 n c v1 v2 v3) := by
  intro n
  induction n with
  | zero => intro c v1 v2 v3; exact l1_none
  | succ n ih =>
    intro c v1 v2 v3
    rw [f_X11_checkOf_22]
    refine l1_many mt_X11_checkOf (pc' := bif am_cc .ge v3 8 then 54 else 28) (L' := [some (.ref p0), some (.int v1), some (.int v2), some (.int v3)]) (st' := []) 3 rfl ?_
    refine l1_bif rfl ?_ ?_
    · refine l1_many mt_X11_checkOf (pc' := 4) (L' := [some (.ref p0), some (.int v1), some (.int (v2 + 1)), some (.int v3)]) (st' := []) 2 rfl ?_
      refine l1_weak (m := [true, true, true, false]) (L' := [some (.ref p0), some (.int v1), some (.int (v2 + 1))]) rfl ?_
      exact hk4 c v1 (v2 + 1)
    · refine l1_many mt_X11_checkOf (pc' := bif am_cc .ne (v1 &&& 1) 1 then 44 else 35) (L' := [some (.ref p0), some (.int v1), some (.int v2), some (.int v3)]) (st' := []) 5 rfl ?_
      refine l1_bin rfl ?_ ?_
      · refine l1_many mt_X11_checkOf (pc' := 22) (L' := [some (.ref p0), some (.int ((j_ushr v1 1) ^^^ (-306674912))), some (.int v2), some (.int (v3 + 1))]) (st' := []) 9 rfl ?_
        exact ih c ((j_ushr v1 1) ^^^ (-306674912)) v2 (v3 + 1)
      · refine l1_many mt_X11_checkOf (pc' := 22) (L' := [some (.ref p0), some (.int (j_ushr v1 1)), some (.int v2), some (.int (v3 + 1))]) (st' := []) 6 rfl ?_
        exact ih c (j_ushr v1 1) v2 (v3 + 1)
set_option maxRecDepth 100000 in
theorem ok_X11_checkOf_4 {Q : hS → am_H → Prop} (hQ : l1_em kc Q) (N : Nat) (p0 : Nat) (hp0 : kc p0 = 1) : ∀ n : Nat, ∀ (c : hS) (v1 : Int32) (v2 : Int32), l1_G (wN wI) Q am_i_X11_checkOf 4 [some (.ref p0), some (.int v1), some (.int v2)] [] c (f_X11_checkOf_4 N p0 n c v1 v2) := by
  intro n
  induction n with
  | zero => intro c v1 v2; exact l1_none
  | succ n ih =>
    intro c v1 v2
    rw [f_X11_checkOf_4]
    refine l1_many mt_X11_checkOf (pc' := 6) (L' := [some (.ref p0), some (.int v1), some (.int v2)]) (st' := [.ref p0, .int v2]) 2 rfl ?_
    refine l1_callV hQ mt_X11_checkOf mt_X2_size rfl rfl (o := p0) (ci := 1) (As := []) (rest := [.int v2]) rfl rfl hp0 rfl rfl rfl (st1 := fun x1 => [.int x1, .int v2]) (fun _ => rfl) (ok_X2_size hQ c p0 hp0) (fun x1 c2 => ?_)
    refine l1_many mt_X11_checkOf (pc' := bif am_cc .ge v2 x1 then 60 else 12) (L' := [some (.ref p0), some (.int v1), some (.int v2)]) (st' := []) 1 rfl ?_
    refine l1_bif rfl ?_ ?_
    · refine l1_many mt_X11_checkOf (pc' := 63) (L' := [some (.ref p0), some (.int v1), some (.int v2)]) (st' := [.int (v1 ^^^ (-1))]) 3 rfl ?_
      exact l1_ret mt_X11_checkOf rfl rfl rfl
    · refine l1_many mt_X11_checkOf (pc' := 15) (L' := [some (.ref p0), some (.int v1), some (.int v2)]) (st' := [.int v2, .ref p0, .int v1]) 3 rfl ?_
      refine l1_callV hQ mt_X11_checkOf mt_X2_get rfl rfl (o := p0) (ci := 1) (As := [.int v2]) (rest := [.int v1]) rfl rfl hp0 rfl rfl rfl (st1 := fun x3 => [.int x3, .int v1]) (fun _ => rfl) (ok_X2_get hQ c2 p0 v2 hp0) (fun x3 c4 => ?_)
      refine l1_many mt_X11_checkOf (pc' := 22) (L' := [some (.ref p0), some (.int (v1 ^^^ x3)), some (.int v2), some (.int 0)]) (st' := []) 4 rfl ?_
      exact ok_X11_checkOf_22 hQ N p0 hp0 ih N c4 (v1 ^^^ x3) v2 0
set_option maxRecDepth 100000 in
theorem en_X11_checkOf {Q : hS → am_H → Prop} (hQ : l1_em kc Q) (N : Nat) (c : hS) (p0 : Nat) (hp0 : kc p0 = 1) : l1_G (wN wI) Q am_i_X11_checkOf 0 [some (.ref p0)] [] c (f_X11_checkOf N c p0) := by
  rw [f_X11_checkOf]
  refine l1_many mt_X11_checkOf (pc' := 4) (L' := [some (.ref p0), some (.int (-1)), some (.int 0)]) (st' := []) 4 rfl ?_
  exact ok_X11_checkOf_4 hQ N p0 hp0 N c (-1) 0
theorem ok_X11_checkOf {Q : hS → am_H → Prop} (hQ : l1_em kc Q) (N : Nat) (c : hS) (p0 : Nat) (hp0 : kc p0 = 1) : l1_T wI Q am_i_X11_checkOf [.ref p0] c (f_X11_checkOf N c p0) := l1_of (en_X11_checkOf hQ N c p0 hp0) ⟨rfl, trivial⟩
set_option maxRecDepth 100000 in
theorem en_X5_isBody {Q : hS → am_H → Prop} (hQ : l1_em kc Q) (N : Nat) (c : hS) (p1 : Int32) : l1_G (wN wI) Q am_i_X5_isBody 0 [some (.ref 36), some (.int p1)] [] c (f_X5_isBody N c p1) := by
  rw [f_X5_isBody]
  refine l1_many mt_X5_isBody (pc' := 1) (L' := [some (.ref 36), some (.int p1)]) (st' := [.ref 36]) 1 rfl ?_
  refine l1_getR hQ mt_X5_isBody rfl (o := 36) (ci := 4) (k := 5) (a := 0) (b := 1) rfl rfl rfl rfl rfl (q := 7) rfl ?_
  refine l1_callV hQ mt_X5_isBody mt_X2_size rfl rfl (o := 7) (ci := 1) (As := []) (rest := []) rfl rfl rfl rfl rfl rfl (st1 := fun x1 => [.int x1]) (fun _ => rfl) (ok_X2_size hQ c 7 rfl) (fun x1 c2 => ?_)
  refine l1_many mt_X5_isBody (pc' := 8) (L' := [some (.ref 36), some (.int p1)]) (st' := [.ref 36, .int x1]) 1 rfl ?_
  refine l1_getI hQ mt_X5_isBody rfl (o := 36) (ci := 4) (k := 12) (a := 0) (b := 0) rfl rfl rfl rfl rfl ?_
  refine l1_many mt_X5_isBody (pc' := bif am_cc .eq x1 (c2.1 36 12) then 28 else 14) (L' := [some (.ref 36), some (.int p1)]) (st' := []) 1 rfl ?_
  refine l1_bif rfl ?_ ?_
  · refine l1_many mt_X5_isBody (pc' := 29) (L' := [some (.ref 36), some (.int p1)]) (st' := [.ref 36]) 1 rfl ?_
    refine l1_getR hQ mt_X5_isBody rfl (o := 36) (ci := 4) (k := 5) (a := 0) (b := 1) rfl rfl rfl rfl rfl (q := 7) rfl ?_
    refine l1_callS mt_X5_isBody mt_X11_checkOf rfl rfl (As := [.ref 7]) (rest := []) rfl rfl rfl (st1 := fun x3 => [.int x3]) (fun _ => rfl) (ok_X11_checkOf hQ N c2 7 rfl) (fun x3 c4 => ?_)
    refine l1_many mt_X5_isBody (pc' := 36) (L' := [some (.ref 36), some (.int p1)]) (st' := [.ref 36, .int x3]) 1 rfl ?_
    refine l1_getR hQ mt_X5_isBody rfl (o := 36) (ci := 4) (k := 0) (a := 1) (b := 2) rfl rfl rfl rfl rfl (q := 3) rfl ?_
    refine l1_many mt_X5_isBody (pc' := 44) (L' := [some (.ref 36), some (.int p1)]) (st' := [.int 4, .int (p1 + 16), .ref 3, .int x3]) 4 rfl ?_
    refine l1_callV hQ mt_X5_isBody mt_X2_little rfl rfl (o := 3) (ci := 1) (As := [.int (p1 + 16), .int 4]) (rest := [.int x3]) rfl rfl rfl rfl rfl rfl (st1 := fun x5 => [.long x5, .int x3]) (fun _ => rfl) (ok_X2_little hQ N c4 3 (p1 + 16) 4 rfl) (fun x5 c6 => ?_)
    refine l1_many mt_X5_isBody (pc' := bif am_cc .eq x3 x5.toInt32 then 66 else 51) (L' := [some (.ref 36), some (.int p1)]) (st' := []) 2 rfl ?_
    refine l1_bif rfl ?_ ?_
    · refine l1_many mt_X5_isBody (pc' := 71) (L' := [some (.ref 36), some (.int p1)]) (st' := [.int 1]) 2 rfl ?_
      exact l1_ret mt_X5_isBody rfl rfl rfl
    · refine l1_many mt_X5_isBody (pc' := 52) (L' := [some (.ref 36), some (.int p1)]) (st' := [.ref 36]) 1 rfl ?_
      refine l1_getR hQ mt_X5_isBody rfl (o := 36) (ci := 4) (k := 2) (a := 1) (b := 2) rfl rfl rfl rfl rfl (q := 9) rfl ?_
      refine l1_many mt_X5_isBody (pc' := 60) (L' := [some (.ref 36), some (.int p1)]) (st' := [.int (p1 + 16), .int 4, .ref 9]) 4 rfl ?_
      refine l1_callV hQ mt_X5_isBody mt_X6_tell rfl rfl (o := 9) (ci := 5) (As := [.int 4, .int (p1 + 16)]) (rest := []) rfl rfl rfl rfl rfl rfl (st1 := fun x7 => [.int x7]) (fun _ => rfl) (ok_X6_tell hQ c6 4 (p1 + 16)) (fun x7 c8 => ?_)
      refine l1_many mt_X5_isBody (pc' := bif am_cc .eq x7 0 then 70 else 66) (L' := [some (.ref 36), some (.int p1)]) (st' := []) 1 rfl ?_
      refine l1_bif rfl ?_ ?_
      · refine l1_many mt_X5_isBody (pc' := 71) (L' := [some (.ref 36), some (.int p1)]) (st' := [.int 0]) 1 rfl ?_
        exact l1_ret mt_X5_isBody rfl rfl rfl
      · refine l1_many mt_X5_isBody (pc' := 71) (L' := [some (.ref 36), some (.int p1)]) (st' := [.int 1]) 2 rfl ?_
        exact l1_ret mt_X5_isBody rfl rfl rfl
  · refine l1_many mt_X5_isBody (pc' := 15) (L' := [some (.ref 36), some (.int p1)]) (st' := [.ref 36]) 1 rfl ?_
    refine l1_getR hQ mt_X5_isBody rfl (o := 36) (ci := 4) (k := 2) (a := 1) (b := 2) rfl rfl rfl rfl rfl (q := 9) rfl ?_
    refine l1_many mt_X5_isBody (pc' := 24) (L' := [some (.ref 36), some (.int p1)]) (st' := [.int (p1 + 24), .int 14, .ref 9]) 4 rfl ?_
    refine l1_callV hQ mt_X5_isBody mt_X6_tell rfl rfl (o := 9) (ci := 5) (As := [.int 14, .int (p1 + 24)]) (rest := []) rfl rfl rfl rfl rfl rfl (st1 := fun x9 => [.int x9]) (fun _ => rfl) (ok_X6_tell hQ c2 14 (p1 + 24)) (fun x9 c10 => ?_)
    refine l1_ck (fun hz => ?_)
    exact l1_retZ mt_X5_isBody rfl rfl rfl hz
theorem ok_X5_isBody {Q : hS → am_H → Prop} (hQ : l1_em kc Q) (N : Nat) (c : hS) (p1 : Int32) : l1_T wI Q am_i_X5_isBody [.ref 36, .int p1] c (f_X5_isBody N c p1) := l1_of (en_X5_isBody hQ N c p1) ⟨rfl, rfl, trivial⟩
set_option maxRecDepth 100000 in
theorem en_X5_isZero {Q : hS → am_H → Prop} (hQ : l1_em kc Q) (N : Nat) (c : hS) (p1 : Int32) (p2 : Int32) (p3 : Int32) : l1_G (wN wI) Q am_i_X5_isZero 0 [some (.ref 36), some (.int p1), some (.int p2), some (.int p3)] [] c (f_X5_isZero N c p1 p2 p3) := by
  rw [f_X5_isZero]
  refine l1_many mt_X5_isZero (pc' := 1) (L' := [some (.ref 36), some (.int p1), some (.int p2), some (.int p3)]) (st' := [.ref 36]) 1 rfl ?_
  refine l1_getR hQ mt_X5_isZero rfl (o := 36) (ci := 4) (k := 0) (a := 1) (b := 2) rfl rfl rfl rfl rfl (q := 3) rfl ?_
  refine l1_many mt_X5_isZero (pc' := 6) (L' := [some (.ref 36), some (.int p1), some (.int p2), some (.int p3)]) (st' := [.int p2, .int p1, .ref 3]) 2 rfl ?_
  refine l1_callV hQ mt_X5_isZero mt_X2_little rfl rfl (o := 3) (ci := 1) (As := [.int p1, .int p2]) (rest := []) rfl rfl rfl rfl rfl rfl (st1 := fun x1 => [.long x1]) (fun _ => rfl) (ok_X2_little hQ N c 3 p1 p2 rfl) (fun x1 c2 => ?_)
  refine l1_many mt_X5_isZero (pc' := bif am_cc .eq (j_cmp x1 0) 0 then 26 else 14) (L' := [some (.ref 36), some (.int p1), some (.int p2), some (.int p3)]) (st' := []) 3 rfl ?_
  refine l1_bif rfl ?_ ?_
  · refine l1_many mt_X5_isZero (pc' := 31) (L' := [some (.ref 36), some (.int p1), some (.int p2), some (.int p3)]) (st' := [.int 1]) 2 rfl ?_
    exact l1_ret mt_X5_isZero rfl rfl rfl
  · refine l1_many mt_X5_isZero (pc' := 15) (L' := [some (.ref 36), some (.int p1), some (.int p2), some (.int p3)]) (st' := [.ref 36]) 1 rfl ?_
    refine l1_getR hQ mt_X5_isZero rfl (o := 36) (ci := 4) (k := 2) (a := 1) (b := 2) rfl rfl rfl rfl rfl (q := 9) rfl ?_
    refine l1_many mt_X5_isZero (pc' := 20) (L' := [some (.ref 36), some (.int p1), some (.int p2), some (.int p3)]) (st' := [.int p1, .int p3, .ref 9]) 2 rfl ?_
    refine l1_callV hQ mt_X5_isZero mt_X6_tell rfl rfl (o := 9) (ci := 5) (As := [.int p3, .int p1]) (rest := []) rfl rfl rfl rfl rfl rfl (st1 := fun x3 => [.int x3]) (fun _ => rfl) (ok_X6_tell hQ c2 p3 p1) (fun x3 c4 => ?_)
    refine l1_many mt_X5_isZero (pc' := bif am_cc .eq x3 0 then 30 else 26) (L' := [some (.ref 36), some (.int p1), some (.int p2), some (.int p3)]) (st' := []) 1 rfl ?_
    refine l1_bif rfl ?_ ?_
    · refine l1_many mt_X5_isZero (pc' := 31) (L' := [some (.ref 36), some (.int p1), some (.int p2), some (.int p3)]) (st' := [.int 0]) 1 rfl ?_
      exact l1_ret mt_X5_isZero rfl rfl rfl
    · refine l1_many mt_X5_isZero (pc' := 31) (L' := [some (.ref 36), some (.int p1), some (.int p2), some (.int p3)]) (st' := [.int 1]) 2 rfl ?_
      exact l1_ret mt_X5_isZero rfl rfl rfl
theorem ok_X5_isZero {Q : hS → am_H → Prop} (hQ : l1_em kc Q) (N : Nat) (c : hS) (p1 : Int32) (p2 : Int32) (p3 : Int32) : l1_T wI Q am_i_X5_isZero [.ref 36, .int p1, .int p2, .int p3] c (f_X5_isZero N c p1 p2 p3) := l1_of (en_X5_isZero hQ N c p1 p2 p3) ⟨rfl, rfl, rfl, rfl, trivial⟩
set_option maxRecDepth 100000 in
theorem en_X5_isClosing {Q : hS → am_H → Prop} (hQ : l1_em kc Q) (N : Nat) (c : hS) : l1_G (wN wI) Q am_i_X5_isClosing 0 [some (.ref 36)] [] c (f_X5_isClosing N c) := by
  rw [f_X5_isClosing]
  refine l1_many mt_X5_isClosing (pc' := 2) (L' := [some (.ref 36)]) (st' := [.ref 36, .ref 36]) 2 rfl ?_
  refine l1_getR hQ mt_X5_isClosing rfl (o := 36) (ci := 4) (k := 0) (a := 1) (b := 2) rfl rfl rfl rfl rfl (q := 3) rfl ?_
  refine l1_callV hQ mt_X5_isClosing mt_X2_size rfl rfl (o := 3) (ci := 1) (As := []) (rest := [.ref 36]) rfl rfl rfl rfl rfl rfl (st1 := fun x1 => [.int x1, .ref 36]) (fun _ => rfl) (ok_X2_size hQ c 3 rfl) (fun x1 c2 => ?_)
  refine l1_many mt_X5_isClosing (pc' := 11) (L' := [some (.ref 36)]) (st' := [.int (x1 - 22), .ref 36]) 2 rfl ?_
  refine l1_putI hQ mt_X5_isClosing rfl (o := 36) (ci := 4) (k := 6) (a := 0) rfl rfl rfl rfl rfl rfl (fun c3 => ?_)
  refine l1_many mt_X5_isClosing (pc' := 15) (L' := [some (.ref 36)]) (st' := [.ref 36]) 1 rfl ?_
  refine l1_getI hQ mt_X5_isClosing rfl (o := 36) (ci := 4) (k := 6) (a := 0) (b := 0) rfl rfl rfl rfl rfl ?_
  refine l1_many mt_X5_isClosing (pc' := bif am_cc .ge (c3.1 36 6) 0 then 37 else 21) (L' := [some (.ref 36)]) (st' := []) 1 rfl ?_
  refine l1_bif rfl ?_ ?_
  · refine l1_many mt_X5_isClosing (pc' := 39) (L' := [some (.ref 36)]) (st' := [.ref 36, .ref 36]) 2 rfl ?_
    refine l1_getI hQ mt_X5_isClosing rfl (o := 36) (ci := 4) (k := 6) (a := 0) (b := 0) rfl rfl rfl rfl rfl ?_
    refine l1_many mt_X5_isClosing (pc' := 46) (L' := [some (.ref 36)]) (st' := [.int 3, .ref 1000000005, .int (c3.1 36 6), .ref 36]) 2 rfl ?_
    refine l1_callV hQ mt_X5_isClosing mt_X0_isMarked rfl rfl (o := 36) (ci := 4) (As := [.int (c3.1 36 6), .ref 1000000005, .int 3]) (rest := []) rfl rfl rfl rfl rfl rfl (st1 := fun x4 => [.int x4]) (fun _ => rfl) (ok_X0_isMarked_36 hQ N c3 (c3.1 36 6) sa5 3 oa5) (fun x4 c5 => ?_)
    refine l1_many mt_X5_isClosing (pc' := bif am_cc .eq x4 0 then 85 else 52) (L' := [some (.ref 36)]) (st' := []) 1 rfl ?_
    refine l1_bif rfl ?_ ?_
    · refine l1_many mt_X5_isClosing (pc' := 86) (L' := [some (.ref 36)]) (st' := [.int 0]) 1 rfl ?_
      exact l1_ret mt_X5_isClosing rfl rfl rfl
    · refine l1_many mt_X5_isClosing (pc' := 54) (L' := [some (.ref 36)]) (st' := [.ref 36, .ref 36]) 2 rfl ?_
      refine l1_getI hQ mt_X5_isClosing rfl (o := 36) (ci := 4) (k := 6) (a := 0) (b := 0) rfl rfl rfl rfl rfl ?_
      refine l1_many mt_X5_isClosing (pc' := 62) (L' := [some (.ref 36)]) (st' := [.int 6, .int 2, .int ((c5.1 36 6) + 4), .ref 36]) 4 rfl ?_
      refine l1_callV hQ mt_X5_isClosing mt_X5_isZero rfl rfl (o := 36) (ci := 4) (As := [.int ((c5.1 36 6) + 4), .int 2, .int 6]) (rest := []) rfl rfl rfl rfl rfl rfl (st1 := fun x6 => [.int x6]) (fun _ => rfl) (ok_X5_isZero hQ N c5 ((c5.1 36 6) + 4) 2 6) (fun x6 c7 => ?_)
      refine l1_many mt_X5_isClosing (pc' := bif am_cc .eq x6 0 then 85 else 68) (L' := [some (.ref 36)]) (st' := []) 1 rfl ?_
      refine l1_bif rfl ?_ ?_
      · refine l1_many mt_X5_isClosing (pc' := 86) (L' := [some (.ref 36)]) (st' := [.int 0]) 1 rfl ?_
        exact l1_ret mt_X5_isClosing rfl rfl rfl
      · refine l1_many mt_X5_isClosing (pc' := 70) (L' := [some (.ref 36)]) (st' := [.ref 36, .ref 36]) 2 rfl ?_
        refine l1_getI hQ mt_X5_isClosing rfl (o := 36) (ci := 4) (k := 6) (a := 0) (b := 0) rfl rfl rfl rfl rfl ?_
        refine l1_many mt_X5_isClosing (pc' := 79) (L' := [some (.ref 36)]) (st' := [.int 6, .int 2, .int ((c7.1 36 6) + 6), .ref 36]) 4 rfl ?_
        refine l1_callV hQ mt_X5_isClosing mt_X5_isZero rfl rfl (o := 36) (ci := 4) (As := [.int ((c7.1 36 6) + 6), .int 2, .int 6]) (rest := []) rfl rfl rfl rfl rfl rfl (st1 := fun x8 => [.int x8]) (fun _ => rfl) (ok_X5_isZero hQ N c7 ((c7.1 36 6) + 6) 2 6) (fun x8 c9 => ?_)
        refine l1_many mt_X5_isClosing (pc' := bif am_cc .ne x8 0 then 87 else 85) (L' := [some (.ref 36)]) (st' := []) 1 rfl ?_
        refine l1_bin rfl ?_ ?_
        · refine l1_many mt_X5_isClosing (pc' := 86) (L' := [some (.ref 36)]) (st' := [.int 0]) 1 rfl ?_
          exact l1_ret mt_X5_isClosing rfl rfl rfl
        · refine l1_many mt_X5_isClosing (pc' := 88) (L' := [some (.ref 36)]) (st' := [.ref 36]) 1 rfl ?_
          refine l1_getR hQ mt_X5_isClosing rfl (o := 36) (ci := 4) (k := 0) (a := 1) (b := 2) rfl rfl rfl rfl rfl (q := 3) rfl ?_
          refine l1_many mt_X5_isClosing (pc' := 92) (L' := [some (.ref 36)]) (st' := [.ref 36, .ref 3]) 1 rfl ?_
          refine l1_getI hQ mt_X5_isClosing rfl (o := 36) (ci := 4) (k := 6) (a := 0) (b := 0) rfl rfl rfl rfl rfl ?_
          refine l1_many mt_X5_isClosing (pc' := 99) (L' := [some (.ref 36)]) (st' := [.int 2, .int ((c9.1 36 6) + 8), .ref 3]) 3 rfl ?_
          refine l1_callV hQ mt_X5_isClosing mt_X2_little rfl rfl (o := 3) (ci := 1) (As := [.int ((c9.1 36 6) + 8), .int 2]) (rest := []) rfl rfl rfl rfl rfl rfl (st1 := fun x10 => [.long x10]) (fun _ => rfl) (ok_X2_little hQ N c9 3 ((c9.1 36 6) + 8) 2 rfl) (fun x10 c11 => ?_)
          refine l1_many mt_X5_isClosing (pc' := 103) (L' := [some (.ref 36)]) (st' := [.ref 36, .long x10]) 1 rfl ?_
          refine l1_getR hQ mt_X5_isClosing rfl (o := 36) (ci := 4) (k := 0) (a := 1) (b := 2) rfl rfl rfl rfl rfl (q := 3) rfl ?_
          refine l1_many mt_X5_isClosing (pc' := 107) (L' := [some (.ref 36)]) (st' := [.ref 36, .ref 3, .long x10]) 1 rfl ?_
          refine l1_getI hQ mt_X5_isClosing rfl (o := 36) (ci := 4) (k := 6) (a := 0) (b := 0) rfl rfl rfl rfl rfl ?_
          refine l1_many mt_X5_isClosing (pc' := 114) (L' := [some (.ref 36)]) (st' := [.int 2, .int ((c11.1 36 6) + 10), .ref 3, .long x10]) 3 rfl ?_
          refine l1_callV hQ mt_X5_isClosing mt_X2_little rfl rfl (o := 3) (ci := 1) (As := [.int ((c11.1 36 6) + 10), .int 2]) (rest := [.long x10]) rfl rfl rfl rfl rfl rfl (st1 := fun x12 => [.long x12, .long x10]) (fun _ => rfl) (ok_X2_little hQ N c11 3 ((c11.1 36 6) + 10) 2 rfl) (fun x12 c13 => ?_)
          refine l1_many mt_X5_isClosing (pc' := bif am_cc .eq (j_cmp x10 x12) 0 then 138 else 121) (L' := [some (.ref 36)]) (st' := []) 2 rfl ?_
          refine l1_bif rfl ?_ ?_
          · refine l1_many mt_X5_isClosing (pc' := 139) (L' := [some (.ref 36)]) (st' := [.ref 36]) 1 rfl ?_
            refine l1_getR hQ mt_X5_isClosing rfl (o := 36) (ci := 4) (k := 0) (a := 1) (b := 2) rfl rfl rfl rfl rfl (q := 3) rfl ?_
            refine l1_many mt_X5_isClosing (pc' := 143) (L' := [some (.ref 36)]) (st' := [.ref 36, .ref 3]) 1 rfl ?_
            refine l1_getI hQ mt_X5_isClosing rfl (o := 36) (ci := 4) (k := 6) (a := 0) (b := 0) rfl rfl rfl rfl rfl ?_
            refine l1_many mt_X5_isClosing (pc' := 150) (L' := [some (.ref 36)]) (st' := [.int 2, .int ((c13.1 36 6) + 10), .ref 3]) 3 rfl ?_
            refine l1_callV hQ mt_X5_isClosing mt_X2_little rfl rfl (o := 3) (ci := 1) (As := [.int ((c13.1 36 6) + 10), .int 2]) (rest := []) rfl rfl rfl rfl rfl rfl (st1 := fun x14 => [.long x14]) (fun _ => rfl) (ok_X2_little hQ N c13 3 ((c13.1 36 6) + 10) 2 rfl) (fun x14 c15 => ?_)
            refine l1_many mt_X5_isClosing (pc' := bif am_cc .le (j_cmp x14 16) 0 then 177 else 160) (L' := [some (.ref 36)]) (st' := []) 3 rfl ?_
            refine l1_bif rfl ?_ ?_
            · refine l1_many mt_X5_isClosing (pc' := 178) (L' := [some (.ref 36)]) (st' := [.ref 36]) 1 rfl ?_
              refine l1_getR hQ mt_X5_isClosing rfl (o := 36) (ci := 4) (k := 0) (a := 1) (b := 2) rfl rfl rfl rfl rfl (q := 3) rfl ?_
              refine l1_many mt_X5_isClosing (pc' := 182) (L' := [some (.ref 36)]) (st' := [.ref 36, .ref 3]) 1 rfl ?_
              refine l1_getI hQ mt_X5_isClosing rfl (o := 36) (ci := 4) (k := 6) (a := 0) (b := 0) rfl rfl rfl rfl rfl ?_
              refine l1_many mt_X5_isClosing (pc' := 189) (L' := [some (.ref 36)]) (st' := [.int 4, .int ((c15.1 36 6) + 16), .ref 3]) 3 rfl ?_
              refine l1_callV hQ mt_X5_isClosing mt_X2_little rfl rfl (o := 3) (ci := 1) (As := [.int ((c15.1 36 6) + 16), .int 4]) (rest := []) rfl rfl rfl rfl rfl rfl (st1 := fun x16 => [.long x16]) (fun _ => rfl) (ok_X2_little hQ N c15 3 ((c15.1 36 6) + 16) 4 rfl) (fun x16 c17 => ?_)
              refine l1_many mt_X5_isClosing (pc' := 194) (L' := [some (.ref 36), some (.long x16)]) (st' := [.ref 36]) 2 rfl ?_
              refine l1_getR hQ mt_X5_isClosing rfl (o := 36) (ci := 4) (k := 0) (a := 1) (b := 2) rfl rfl rfl rfl rfl (q := 3) rfl ?_
              refine l1_many mt_X5_isClosing (pc' := 198) (L' := [some (.ref 36), some (.long x16)]) (st' := [.ref 36, .ref 3]) 1 rfl ?_
              refine l1_getI hQ mt_X5_isClosing rfl (o := 36) (ci := 4) (k := 6) (a := 0) (b := 0) rfl rfl rfl rfl rfl ?_
              refine l1_many mt_X5_isClosing (pc' := 205) (L' := [some (.ref 36), some (.long x16)]) (st' := [.int 4, .int ((c17.1 36 6) + 12), .ref 3]) 3 rfl ?_
              refine l1_callV hQ mt_X5_isClosing mt_X2_little rfl rfl (o := 3) (ci := 1) (As := [.int ((c17.1 36 6) + 12), .int 4]) (rest := []) rfl rfl rfl rfl rfl rfl (st1 := fun x18 => [.long x18]) (fun _ => rfl) (ok_X2_little hQ N c17 3 ((c17.1 36 6) + 12) 4 rfl) (fun x18 c19 => ?_)
              refine l1_many mt_X5_isClosing (pc' := 211) (L' := [some (.ref 36), some (.long x16)]) (st' := [.ref 36, .long (x18 + x16)]) 3 rfl ?_
              refine l1_getI hQ mt_X5_isClosing rfl (o := 36) (ci := 4) (k := 6) (a := 0) (b := 0) rfl rfl rfl rfl rfl ?_
              refine l1_many mt_X5_isClosing (pc' := bif am_cc .eq (j_cmp (x18 + x16) ((c19.1 36 6).toInt64)) 0 then 236 else 219) (L' := [some (.ref 36), some (.long x16)]) (st' := []) 3 rfl ?_
              refine l1_bif rfl ?_ ?_
              · refine l1_many mt_X5_isClosing (pc' := 239) (L' := [some (.ref 36), some (.long x16)]) (st' := [.int x16.toInt32, .ref 36]) 3 rfl ?_
                refine l1_putI hQ mt_X5_isClosing rfl (o := 36) (ci := 4) (k := 7) (a := 0) rfl rfl rfl rfl rfl rfl (fun c20 => ?_)
                refine l1_many mt_X5_isClosing (pc' := 244) (L' := [some (.ref 36), some (.long x16)]) (st' := [.ref 36, .ref 36]) 2 rfl ?_
                refine l1_getI hQ mt_X5_isClosing rfl (o := 36) (ci := 4) (k := 6) (a := 0) (b := 0) rfl rfl rfl rfl rfl ?_
                refine l1_many mt_X5_isClosing (pc' := 253) (L' := [some (.ref 36), some (.long x16)]) (st' := [.int 6, .int 2, .int ((c20.1 36 6) + 20), .ref 36]) 4 rfl ?_
                refine l1_callV hQ mt_X5_isClosing mt_X5_isZero rfl rfl (o := 36) (ci := 4) (As := [.int ((c20.1 36 6) + 20), .int 2, .int 6]) (rest := []) rfl rfl rfl rfl rfl rfl (st1 := fun x21 => [.int x21]) (fun _ => rfl) (ok_X5_isZero hQ N c20 ((c20.1 36 6) + 20) 2 6) (fun x21 c22 => ?_)
                refine l1_ck (fun hz => ?_)
                exact l1_retZ mt_X5_isClosing rfl rfl rfl hz
              · refine l1_many mt_X5_isClosing (pc' := 220) (L' := [some (.ref 36), some (.long x16)]) (st' := [.ref 36]) 1 rfl ?_
                refine l1_getR hQ mt_X5_isClosing rfl (o := 36) (ci := 4) (k := 2) (a := 1) (b := 2) rfl rfl rfl rfl rfl (q := 9) rfl ?_
                refine l1_many mt_X5_isClosing (pc' := 226) (L' := [some (.ref 36), some (.long x16)]) (st' := [.ref 36, .int 12, .ref 9]) 2 rfl ?_
                refine l1_getI hQ mt_X5_isClosing rfl (o := 36) (ci := 4) (k := 6) (a := 0) (b := 0) rfl rfl rfl rfl rfl ?_
                refine l1_many mt_X5_isClosing (pc' := 232) (L' := [some (.ref 36), some (.long x16)]) (st' := [.int ((c19.1 36 6) + 12), .int 12, .ref 9]) 2 rfl ?_
                refine l1_callV hQ mt_X5_isClosing mt_X6_tell rfl rfl (o := 9) (ci := 5) (As := [.int 12, .int ((c19.1 36 6) + 12)]) (rest := []) rfl rfl rfl rfl rfl rfl (st1 := fun x23 => [.int x23]) (fun _ => rfl) (ok_X6_tell hQ c19 12 ((c19.1 36 6) + 12)) (fun x23 c24 => ?_)
                refine l1_ck (fun hz => ?_)
                exact l1_retZ mt_X5_isClosing rfl rfl rfl hz
            · refine l1_many mt_X5_isClosing (pc' := 161) (L' := [some (.ref 36)]) (st' := [.ref 36]) 1 rfl ?_
              refine l1_getR hQ mt_X5_isClosing rfl (o := 36) (ci := 4) (k := 2) (a := 1) (b := 2) rfl rfl rfl rfl rfl (q := 9) rfl ?_
              refine l1_many mt_X5_isClosing (pc' := 167) (L' := [some (.ref 36)]) (st' := [.ref 36, .int 11, .ref 9]) 2 rfl ?_
              refine l1_getI hQ mt_X5_isClosing rfl (o := 36) (ci := 4) (k := 6) (a := 0) (b := 0) rfl rfl rfl rfl rfl ?_
              refine l1_many mt_X5_isClosing (pc' := 173) (L' := [some (.ref 36)]) (st' := [.int ((c15.1 36 6) + 10), .int 11, .ref 9]) 2 rfl ?_
              refine l1_callV hQ mt_X5_isClosing mt_X6_tell rfl rfl (o := 9) (ci := 5) (As := [.int 11, .int ((c15.1 36 6) + 10)]) (rest := []) rfl rfl rfl rfl rfl rfl (st1 := fun x25 => [.int x25]) (fun _ => rfl) (ok_X6_tell hQ c15 11 ((c15.1 36 6) + 10)) (fun x25 c26 => ?_)
              refine l1_ck (fun hz => ?_)
              exact l1_retZ mt_X5_isClosing rfl rfl rfl hz
          · refine l1_many mt_X5_isClosing (pc' := 122) (L' := [some (.ref 36)]) (st' := [.ref 36]) 1 rfl ?_
            refine l1_getR hQ mt_X5_isClosing rfl (o := 36) (ci := 4) (k := 2) (a := 1) (b := 2) rfl rfl rfl rfl rfl (q := 9) rfl ?_
            refine l1_many mt_X5_isClosing (pc' := 128) (L' := [some (.ref 36)]) (st' := [.ref 36, .int 6, .ref 9]) 2 rfl ?_
            refine l1_getI hQ mt_X5_isClosing rfl (o := 36) (ci := 4) (k := 6) (a := 0) (b := 0) rfl rfl rfl rfl rfl ?_
            refine l1_many mt_X5_isClosing (pc' := 134) (L' := [some (.ref 36)]) (st' := [.int ((c13.1 36 6) + 8), .int 6, .ref 9]) 2 rfl ?_
            refine l1_callV hQ mt_X5_isClosing mt_X6_tell rfl rfl (o := 9) (ci := 5) (As := [.int 6, .int ((c13.1 36 6) + 8)]) (rest := []) rfl rfl rfl rfl rfl rfl (st1 := fun x27 => [.int x27]) (fun _ => rfl) (ok_X6_tell hQ c13 6 ((c13.1 36 6) + 8)) (fun x27 c28 => ?_)
            refine l1_ck (fun hz => ?_)
            exact l1_retZ mt_X5_isClosing rfl rfl rfl hz
  · refine l1_many mt_X5_isClosing (pc' := 22) (L' := [some (.ref 36)]) (st' := [.ref 36]) 1 rfl ?_
    refine l1_getR hQ mt_X5_isClosing rfl (o := 36) (ci := 4) (k := 2) (a := 1) (b := 2) rfl rfl rfl rfl rfl (q := 9) rfl ?_
    refine l1_many mt_X5_isClosing (pc' := 27) (L' := [some (.ref 36)]) (st' := [.ref 36, .int 1, .ref 9]) 2 rfl ?_
    refine l1_getR hQ mt_X5_isClosing rfl (o := 36) (ci := 4) (k := 0) (a := 1) (b := 2) rfl rfl rfl rfl rfl (q := 3) rfl ?_
    refine l1_callV hQ mt_X5_isClosing mt_X2_size rfl rfl (o := 3) (ci := 1) (As := []) (rest := [.int 1, .ref 9]) rfl rfl rfl rfl rfl rfl (st1 := fun x29 => [.int x29, .int 1, .ref 9]) (fun _ => rfl) (ok_X2_size hQ c3 3 rfl) (fun x29 c30 => ?_)
    refine l1_callV hQ mt_X5_isClosing mt_X6_tell rfl rfl (o := 9) (ci := 5) (As := [.int 1, .int x29]) (rest := []) rfl rfl rfl rfl rfl rfl (st1 := fun x31 => [.int x31]) (fun _ => rfl) (ok_X6_tell hQ c30 1 x29) (fun x31 c32 => ?_)
    refine l1_ck (fun hz => ?_)
    exact l1_retZ mt_X5_isClosing rfl rfl rfl hz
theorem ok_X5_isClosing {Q : hS → am_H → Prop} (hQ : l1_em kc Q) (N : Nat) (c : hS) : l1_T wI Q am_i_X5_isClosing [.ref 36] c (f_X5_isClosing N c) := l1_of (en_X5_isClosing hQ N c) ⟨rfl, trivial⟩
