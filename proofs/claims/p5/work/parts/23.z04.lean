/-! THAT THE MACHINE FOLLOWS THEM, printed by gen_l1.py -/
set_option maxRecDepth 100000 in
theorem ok_X4_layOut_48 {Q : hS → am_H → Prop} (hQ : l1_em kc Q) (N : Nat) (p1 : Nat) (p2 : Int32) (hp1 : kc p1 = 8) {k2 : hS → Int32 → Option (Unit × hS)} (hk2 : ∀ c v3, l1_G (wN wV) Q am_i_X4_layOut 2 [some (.ref 35), some (.ref p1), none, some (.int v3)] [] c (k2 c v3)) : ∀ (c : hS) (v3 : Int32) (v4 : Nat) (v5 : Int32) (w0 : Int32) (hv4 : kc v4 = 6), l1_G (wN wV) Q am_i_X4_layOut 48 [some (.ref 35), some (.ref p1), none, some (.int v3), some (.ref v4), some (.int v5)] [.int w0] c (f_X4_layOut_48 N p1 p2 k2 c v3 v4 v5 w0) := by
  intro c v3 v4 v5 w0 hv4
  rw [f_X4_layOut_48]
  refine l1_many mt_X4_layOut (pc' := 60) (L' := [some (.ref 35), some (.ref p1), none, some (.int v3), some (.ref v4), some (.int v5), some (.int w0)]) (st' := [.ref v4, .int v5, .int w0, .int (v3 + 1), .ref 35]) 8 rfl ?_
  refine l1_getR hQ mt_X4_layOut rfl (o := v4) (ci := 6) (k := 0) (a := 2) (b := 2) hv4 rfl rfl rfl rfl (q := (v4 + 1)) rfl ?_
  refine l1_callV hQ mt_X4_layOut mt_X2_size rfl rfl (o := (v4 + 1)) (ci := 1) (As := []) (rest := [.int v5, .int w0, .int (v3 + 1), .ref 35]) rfl rfl (kc6_0 hv4) rfl rfl rfl (st1 := fun x1 => [.int x1, .int v5, .int w0, .int (v3 + 1), .ref 35]) (fun _ => rfl) (ok_X2_size hQ c (v4 + 1) (kc6_0 hv4)) (fun x1 c2 => ?_)
  refine l1_many mt_X4_layOut (pc' := 68) (L' := [some (.ref 35), some (.ref p1), none, some (.int v3), some (.ref v4), some (.int v5), some (.int w0)]) (st' := [.int (x1 + 1), .int v5, .int w0, .int (v3 + 1), .ref 35]) 2 rfl ?_
  refine l1_callV hQ mt_X4_layOut mt_X4_addHead rfl rfl (o := 35) (ci := 3) (As := [.int (v3 + 1), .int w0, .int v5, .int (x1 + 1)]) (rest := []) rfl rfl rfl rfl rfl rfl (st1 := fun _ => []) (fun _ => rfl) (ok_X4_addHead hQ N c2 (v3 + 1) w0 v5 (x1 + 1)) (fun _ c3 => ?_)
  refine l1_many mt_X4_layOut (pc' := 75) (L' := [some (.ref 35), some (.ref p1), none, some (.int v3), some (.ref v4), some (.int v5), some (.int w0)]) (st' := [.int 0, .ref v4, .ref 35]) 3 rfl ?_
  refine l1_callV hQ mt_X4_layOut mt_X0_addTitle rfl rfl (o := 35) (ci := 3) (As := [.ref v4, .int 0]) (rest := []) rfl rfl rfl rfl rfl rfl (st1 := fun _ => []) (fun _ => rfl) (ok_X0_addTitle_35 hQ N c3 v4 0 hv4) (fun _ c4 => ?_)
  refine l1_many mt_X4_layOut (pc' := 79) (L' := [some (.ref 35), some (.ref p1), none, some (.int v3), some (.ref v4), some (.int v5), some (.int w0)]) (st' := [.ref 35]) 1 rfl ?_
  refine l1_getR hQ mt_X4_layOut rfl (o := 35) (ci := 3) (k := 0) (a := 1) (b := 2) rfl rfl rfl rfl rfl (q := 3) rfl ?_
  refine l1_many mt_X4_layOut (pc' := 83) (L' := [some (.ref 35), some (.ref p1), none, some (.int v3), some (.ref v4), some (.int v5), some (.int w0)]) (st' := [.int 0, .ref 3]) 1 rfl ?_
  refine l1_callV hQ mt_X4_layOut mt_X2_add rfl rfl (o := 3) (ci := 1) (As := [.int 0]) (rest := []) rfl rfl rfl rfl rfl rfl (st1 := fun _ => []) (fun _ => rfl) (ok_X2_add hQ c4 3 0 rfl) (fun _ c5 => ?_)
  refine l1_many mt_X4_layOut (pc' := 87) (L' := [some (.ref 35), some (.ref p1), none, some (.int v3), some (.ref v4), some (.int v5), some (.int w0)]) (st' := [.ref 35]) 1 rfl ?_
  refine l1_callV hQ mt_X4_layOut mt_X4_addRest rfl rfl (o := 35) (ci := 3) (As := []) (rest := []) rfl rfl rfl rfl rfl rfl (st1 := fun _ => []) (fun _ => rfl) (ok_X4_addRest hQ N c5) (fun _ c6 => ?_)
  refine l1_many mt_X4_layOut (pc' := 91) (L' := [some (.ref 35), some (.ref p1), none, some (.int v3), some (.ref v4), some (.int v5), some (.int w0)]) (st' := [.ref 35]) 1 rfl ?_
  refine l1_getR hQ mt_X4_layOut rfl (o := 35) (ci := 3) (k := 0) (a := 1) (b := 2) rfl rfl rfl rfl rfl (q := 3) rfl ?_
  refine l1_many mt_X4_layOut (pc' := 96) (L' := [some (.ref 35), some (.ref p1), none, some (.int v3), some (.ref v4), some (.int v5), some (.int w0)]) (st' := [.ref v4, .ref 3]) 1 rfl ?_
  refine l1_getR hQ mt_X4_layOut rfl (o := v4) (ci := 6) (k := 1) (a := 2) (b := 2) hv4 rfl rfl rfl rfl (q := (v4 + 3)) rfl ?_
  refine l1_many mt_X4_layOut (pc' := 102) (L' := [some (.ref 35), some (.ref p1), none, some (.int v3), some (.ref v4), some (.int v5), some (.int w0)]) (st' := [.int v5, .int 0, .ref (v4 + 3), .ref 3]) 2 rfl ?_
  refine l1_callV hQ mt_X4_layOut mt_X2_addRow rfl rfl (o := 3) (ci := 1) (As := [.ref (v4 + 3), .int 0, .int v5]) (rest := []) rfl rfl rfl rfl rfl rfl (st1 := fun _ => []) (fun _ => rfl) (ok_X2_addRow hQ N c6 3 (v4 + 3) 0 v5 rfl (kc6_1 hv4)) (fun _ c7 => ?_)
  refine l1_many mt_X4_layOut (pc' := 106) (L' := [some (.ref 35), some (.ref p1), none, some (.int v3), some (.ref v4), some (.int v5), some (.int w0)]) (st' := [.ref 35]) 1 rfl ?_
  refine l1_callV hQ mt_X4_layOut mt_X4_addRest rfl rfl (o := 35) (ci := 3) (As := []) (rest := []) rfl rfl rfl rfl rfl rfl (st1 := fun _ => []) (fun _ => rfl) (ok_X4_addRest hQ N c7) (fun _ c8 => ?_)
  refine l1_many mt_X4_layOut (pc' := 2) (L' := [some (.ref 35), some (.ref p1), none, some (.int (v3 + 1)), some (.ref v4), some (.int v5), some (.int w0)]) (st' := []) 2 rfl ?_
  refine l1_weak (m := [true, true, false, true, false, false, false]) (L' := [some (.ref 35), some (.ref p1), none, some (.int (v3 + 1))]) rfl ?_
  exact hk2 c8 (v3 + 1)
set_option maxRecDepth 100000 in
theorem ok_X4_layOut_2 {Q : hS → am_H → Prop} (hQ : l1_em kc Q) (N : Nat) (p1 : Nat) (p2 : Int32) (hp1 : kc p1 = 8) : ∀ n : Nat, ∀ (c : hS) (v3 : Int32), l1_G (wN wV) Q am_i_X4_layOut 2 [some (.ref 35), some (.ref p1), none, some (.int v3)] [] c (f_X4_layOut_2 N p1 p2 n c v3) := by
  intro n
  induction n with
  | zero => intro c v3; exact l1_none
  | succ n ih =>
    intro c v3
    rw [f_X4_layOut_2]
    refine l1_many mt_X4_layOut (pc' := 4) (L' := [some (.ref 35), some (.ref p1), none, some (.int v3)]) (st' := [.ref p1, .int v3]) 2 rfl ?_
    refine l1_callV hQ mt_X4_layOut mt_X9_size rfl rfl (o := p1) (ci := 8) (As := []) (rest := [.int v3]) rfl rfl hp1 rfl rfl rfl (st1 := fun x1 => [.int x1, .int v3]) (fun _ => rfl) (ok_X9_size hQ c p1 hp1) (fun x1 c2 => ?_)
    refine l1_many mt_X4_layOut (pc' := bif am_cc .ge v3 x1 then 115 else 10) (L' := [some (.ref 35), some (.ref p1), none, some (.int v3)]) (st' := []) 1 rfl ?_
    refine l1_bif rfl ?_ ?_
    · refine l1_many mt_X4_layOut (pc' := 121) (L' := [some (.ref 35), some (.ref p1), none, some (.int v3)]) (st' := [.ref 1000000119, .int 0, .int 0, .int 0, .ref 35]) 5 rfl ?_
      refine l1_tlen mt_X4_layOut rfl rfl rfl ot19 rfl ?_
      refine l1_many mt_X4_layOut (pc' := 126) (L' := [some (.ref 35), some (.ref p1), none, some (.int v3)]) (st' := [.int ((Int32.ofNat tx19.length) + 1), .int 0, .int 0, .int 0, .ref 35]) 2 rfl ?_
      refine l1_callV hQ mt_X4_layOut mt_X4_addHead rfl rfl (o := 35) (ci := 3) (As := [.int 0, .int 0, .int 0, .int ((Int32.ofNat tx19.length) + 1)]) (rest := []) rfl rfl rfl rfl rfl rfl (st1 := fun _ => []) (fun _ => rfl) (ok_X4_addHead hQ N c2 0 0 0 ((Int32.ofNat tx19.length) + 1)) (fun _ c3 => ?_)
      refine l1_many mt_X4_layOut (pc' := 130) (L' := [some (.ref 35), some (.ref p1), none, some (.int v3)]) (st' := [.ref 35]) 1 rfl ?_
      refine l1_getR hQ mt_X4_layOut rfl (o := 35) (ci := 3) (k := 0) (a := 1) (b := 2) rfl rfl rfl rfl rfl (q := 3) rfl ?_
      refine l1_many mt_X4_layOut (pc' := 135) (L' := [some (.ref 35), some (.ref p1), none, some (.int v3)]) (st' := [.ref 1000000119, .ref 3]) 1 rfl ?_
      refine l1_callV hQ mt_X4_layOut mt_X2_addText rfl rfl (o := 3) (ci := 1) (As := [.ref 1000000119]) (rest := []) rfl rfl rfl rfl rfl rfl (st1 := fun _ => []) (fun _ => rfl) (ok_X2_addText hQ N c3 3 tx19 rfl ot19) (fun _ c4 => ?_)
      refine l1_many mt_X4_layOut (pc' := 139) (L' := [some (.ref 35), some (.ref p1), none, some (.int v3)]) (st' := [.ref 35]) 1 rfl ?_
      refine l1_getR hQ mt_X4_layOut rfl (o := 35) (ci := 3) (k := 0) (a := 1) (b := 2) rfl rfl rfl rfl rfl (q := 3) rfl ?_
      refine l1_many mt_X4_layOut (pc' := 143) (L' := [some (.ref 35), some (.ref p1), none, some (.int v3)]) (st' := [.int 0, .ref 3]) 1 rfl ?_
      refine l1_callV hQ mt_X4_layOut mt_X2_add rfl rfl (o := 3) (ci := 1) (As := [.int 0]) (rest := []) rfl rfl rfl rfl rfl rfl (st1 := fun _ => []) (fun _ => rfl) (ok_X2_add hQ c4 3 0 rfl) (fun _ c5 => ?_)
      refine l1_many mt_X4_layOut (pc' := 147) (L' := [some (.ref 35), some (.ref p1), none, some (.int v3)]) (st' := [.ref 35]) 1 rfl ?_
      refine l1_callV hQ mt_X4_layOut mt_X4_addRest rfl rfl (o := 35) (ci := 3) (As := []) (rest := []) rfl rfl rfl rfl rfl rfl (st1 := fun _ => []) (fun _ => rfl) (ok_X4_addRest hQ N c5) (fun _ c6 => ?_)
      exact l1_ret mt_X4_layOut rfl rfl rfl
    · refine l1_many mt_X4_layOut (pc' := 12) (L' := [some (.ref 35), some (.ref p1), none, some (.int v3)]) (st' := [.int v3, .ref p1]) 2 rfl ?_
      refine l1_callV hQ mt_X4_layOut mt_X9_member rfl rfl (o := p1) (ci := 8) (As := [.int v3]) (rest := []) rfl rfl hp1 rfl rfl rfl (st1 := fun x7 => l1_mv x7 :: []) (fun _ => rfl) (ok_X9_member hQ c2 p1 v3 hp1) (fun x7 c8 => ?_)
      refine l1_opt (x := x7) ?_ (fun y9 => ?_)
      · refine l1_many mt_X4_layOut (pc' := 2) (L' := [some (.ref 35), some (.ref p1), none, some (.int (v3 + 1)), some (.null)]) (st' := []) 5 rfl ?_
        refine l1_weak (m := [true, true, false, true, false, false, false]) (L' := [some (.ref 35), some (.ref p1), none, some (.int (v3 + 1))]) rfl ?_
        exact ih c8 (v3 + 1)
      · refine l1_ck (fun hy => ?_)
        have hy9 : kc y9 = 6 := Nat.eq_of_beq_eq_true hy
        refine l1_many mt_X4_layOut (pc' := 24) (L' := [some (.ref 35), some (.ref p1), none, some (.int v3), some (.ref y9)]) (st' := [.ref y9]) 4 rfl ?_
        refine l1_getR hQ mt_X4_layOut rfl (o := y9) (ci := 6) (k := 1) (a := 2) (b := 2) hy9 rfl rfl rfl rfl (q := (y9 + 3)) rfl ?_
        refine l1_callV hQ mt_X4_layOut mt_X2_size rfl rfl (o := (y9 + 3)) (ci := 1) (As := []) (rest := []) rfl rfl (kc6_1 hy9) rfl rfl rfl (st1 := fun x10 => [.int x10]) (fun _ => rfl) (ok_X2_size hQ c8 (y9 + 3) (kc6_1 hy9)) (fun x10 c11 => ?_)
        refine l1_many mt_X4_layOut (pc' := 34) (L' := [some (.ref 35), some (.ref p1), none, some (.int v3), some (.ref y9), some (.int x10)]) (st' := [.ref y9]) 2 rfl ?_
        refine l1_getI hQ mt_X4_layOut rfl (o := y9) (ci := 6) (k := 2) (a := 2) (b := 0) hy9 rfl rfl rfl rfl ?_
        refine l1_many mt_X4_layOut (pc' := bif am_cc .eq (c11.1 y9 2) 0 then 46 else 40) (L' := [some (.ref 35), some (.ref p1), none, some (.int v3), some (.ref y9), some (.int x10)]) (st' := []) 1 rfl ?_
        refine l1_bif rfl ?_ ?_
        · refine l1_many mt_X4_layOut (pc' := 48) (L' := [some (.ref 35), some (.ref p1), none, some (.int v3), some (.ref y9), some (.int x10)]) (st' := [.int 33188]) 1 rfl ?_
          exact ok_X4_layOut_48 hQ N p1 p2 hp1 ih c11 v3 y9 x10 33188 hy9
        · refine l1_many mt_X4_layOut (pc' := 48) (L' := [some (.ref 35), some (.ref p1), none, some (.int v3), some (.ref y9), some (.int x10)]) (st' := [.int 16877]) 2 rfl ?_
          exact ok_X4_layOut_48 hQ N p1 p2 hp1 ih c11 v3 y9 x10 16877 hy9
set_option maxRecDepth 100000 in
theorem en_X4_layOut {Q : hS → am_H → Prop} (hQ : l1_em kc Q) (N : Nat) (c : hS) (p1 : Nat) (p2 : Int32) (hp1 : kc p1 = 8) : l1_G (wN wV) Q am_i_X4_layOut 0 [some (.ref 35), some (.ref p1), some (.int p2)] [] c (f_X4_layOut N c p1 p2) := by
  rw [f_X4_layOut]
  refine l1_many mt_X4_layOut (pc' := 2) (L' := [some (.ref 35), some (.ref p1), some (.int p2), some (.int 0)]) (st' := []) 2 rfl ?_
  refine l1_weak (m := [true, true, false, true, false, false, false]) (L' := [some (.ref 35), some (.ref p1), none, some (.int 0)]) rfl ?_
  exact ok_X4_layOut_2 hQ N p1 p2 hp1 N c 0
theorem ok_X4_layOut {Q : hS → am_H → Prop} (hQ : l1_em kc Q) (N : Nat) (c : hS) (p1 : Nat) (p2 : Int32) (hp1 : kc p1 = 8) : l1_T wV Q am_i_X4_layOut [.ref 35, .ref p1, .int p2] c (f_X4_layOut N c p1 p2) := l1_of (en_X4_layOut hQ N c p1 p2 hp1) ⟨rfl, rfl, rfl, trivial⟩
set_option maxRecDepth 100000 in
theorem ok_X10_fillLengths_3 {Q : hS → am_H → Prop} (hQ : l1_em kc Q) (N : Nat) (p1 : Int32) (p2 : Int32) (p3 : Int32) : ∀ n : Nat, ∀ (c : hS) (v4 : Int32), l1_G (wN wV) Q am_i_X10_fillLengths 3 [some (.ref 11), none, some (.int p2), some (.int p3), some (.int v4)] [] c (f_X10_fillLengths_3 N p1 p2 p3 n c v4) := by
  intro n
  induction n with
  | zero => intro c v4; exact l1_none
  | succ n ih =>
    intro c v4
    rw [f_X10_fillLengths_3]
    refine l1_many mt_X10_fillLengths (pc' := bif am_cc .ge v4 p2 then 38 else 9) (L' := [some (.ref 11), none, some (.int p2), some (.int p3), some (.int v4)]) (st' := []) 3 rfl ?_
    refine l1_bif rfl ?_ ?_
    · exact l1_ret mt_X10_fillLengths rfl rfl rfl
    · refine l1_many mt_X10_fillLengths (pc' := bif am_cc .lt v4 0 then 32 else 14) (L' := [some (.ref 11), none, some (.int p2), some (.int p3), some (.int v4)]) (st' := []) 2 rfl ?_
      refine l1_bif rfl ?_ ?_
      · refine l1_many mt_X10_fillLengths (pc' := 3) (L' := [some (.ref 11), none, some (.int p2), some (.int p3), some (.int (v4 + 1))]) (st' := []) 2 rfl ?_
        exact ih c (v4 + 1)
      · refine l1_many mt_X10_fillLengths (pc' := 17) (L' := [some (.ref 11), none, some (.int p2), some (.int p3), some (.int v4)]) (st' := [.ref 11, .int v4]) 2 rfl ?_
        refine l1_getR hQ mt_X10_fillLengths rfl (o := 11) (ci := 9) (k := 8) (a := 0) (b := 1) rfl rfl rfl rfl rfl (q := 32) rfl ?_
        refine l1_len hQ mt_X10_fillLengths rfl (o := 32) (ci := 20) rfl rfl rfl ?_
        refine l1_many mt_X10_fillLengths (pc' := bif am_cc .ge v4 (Int32.ofNat (ln 32)) then 32 else 24) (L' := [some (.ref 11), none, some (.int p2), some (.int p3), some (.int v4)]) (st' := []) 1 rfl ?_
        refine l1_bif rfl ?_ ?_
        · refine l1_many mt_X10_fillLengths (pc' := 3) (L' := [some (.ref 11), none, some (.int p2), some (.int p3), some (.int (v4 + 1))]) (st' := []) 2 rfl ?_
          exact ih c (v4 + 1)
        · refine l1_many mt_X10_fillLengths (pc' := 25) (L' := [some (.ref 11), none, some (.int p2), some (.int p3), some (.int v4)]) (st' := [.ref 11]) 1 rfl ?_
          refine l1_getR hQ mt_X10_fillLengths rfl (o := 11) (ci := 9) (k := 8) (a := 0) (b := 1) rfl rfl rfl rfl rfl (q := 32) rfl ?_
          refine l1_many mt_X10_fillLengths (pc' := 31) (L' := [some (.ref 11), none, some (.int p2), some (.int p3), some (.int v4)]) (st' := [.int p3, .int v4, .ref 32]) 2 rfl ?_
          refine l1_ck (fun hx => ?_)
          refine l1_ast hQ mt_X10_fillLengths rfl (o := 32) rfl hx (fun c1 => ?_)
          refine l1_many mt_X10_fillLengths (pc' := 3) (L' := [some (.ref 11), none, some (.int p2), some (.int p3), some (.int (v4 + 1))]) (st' := []) 2 rfl ?_
          exact ih c1 (v4 + 1)
set_option maxRecDepth 100000 in
theorem en_X10_fillLengths {Q : hS → am_H → Prop} (hQ : l1_em kc Q) (N : Nat) (c : hS) (p1 : Int32) (p2 : Int32) (p3 : Int32) : l1_G (wN wV) Q am_i_X10_fillLengths 0 [some (.ref 11), some (.int p1), some (.int p2), some (.int p3)] [] c (f_X10_fillLengths N c p1 p2 p3) := by
  rw [f_X10_fillLengths]
  refine l1_many mt_X10_fillLengths (pc' := 3) (L' := [some (.ref 11), some (.int p1), some (.int p2), some (.int p3), some (.int p1)]) (st' := []) 2 rfl ?_
  refine l1_weak (m := [true, false, true, true, true]) (L' := [some (.ref 11), none, some (.int p2), some (.int p3), some (.int p1)]) rfl ?_
  exact ok_X10_fillLengths_3 hQ N p1 p2 p3 N c p1
theorem ok_X10_fillLengths {Q : hS → am_H → Prop} (hQ : l1_em kc Q) (N : Nat) (c : hS) (p1 : Int32) (p2 : Int32) (p3 : Int32) : l1_T wV Q am_i_X10_fillLengths [.ref 11, .int p1, .int p2, .int p3] c (f_X10_fillLengths N c p1 p2 p3) := l1_of (en_X10_fillLengths hQ N c p1 p2 p3) ⟨rfl, rfl, rfl, rfl, trivial⟩
set_option maxRecDepth 100000 in
theorem ok_X10_takeBits_35 {Q : hS → am_H → Prop} (hQ : l1_em kc Q) (N : Nat) (p1 : Int32) : ∀ n : Nat, ∀ (c : hS) (v2 : Int32) (v3 : Int32), l1_G (wN wI) Q am_i_X10_takeBits 35 [some (.ref 11), some (.int p1), some (.int v2), some (.int v3)] [] c (f_X10_takeBits_35 N p1 n c v2 v3) := by
  intro n
  induction n with
  | zero => intro c v2 v3; exact l1_none
  | succ n ih =>
    intro c v2 v3
    rw [f_X10_takeBits_35]
    refine l1_many mt_X10_takeBits (pc' := bif am_cc .ge v3 p1 then 84 else 40) (L' := [some (.ref 11), some (.int p1), some (.int v2), some (.int v3)]) (st' := []) 3 rfl ?_
    refine l1_bif rfl ?_ ?_
    · refine l1_many mt_X10_takeBits (pc' := 85) (L' := [some (.ref 11), some (.int p1), some (.int v2), some (.int v3)]) (st' := [.int v2]) 1 rfl ?_
      exact l1_ret mt_X10_takeBits rfl rfl rfl
    · refine l1_many mt_X10_takeBits (pc' := 42) (L' := [some (.ref 11), some (.int p1), some (.int v2), some (.int v3)]) (st' := [.ref 11, .int v2]) 2 rfl ?_
      refine l1_getR hQ mt_X10_takeBits rfl (o := 11) (ci := 9) (k := 0) (a := 0) (b := 1) rfl rfl rfl rfl rfl (q := 3) rfl ?_
      refine l1_many mt_X10_takeBits (pc' := 46) (L' := [some (.ref 11), some (.int p1), some (.int v2), some (.int v3)]) (st' := [.ref 11, .ref 3, .int v2]) 1 rfl ?_
      refine l1_getI hQ mt_X10_takeBits rfl (o := 11) (ci := 9) (k := 9) (a := 0) (b := 0) rfl rfl rfl rfl rfl ?_
      refine l1_many mt_X10_takeBits (pc' := 51) (L' := [some (.ref 11), some (.int p1), some (.int v2), some (.int v3)]) (st' := [.int (j_shr (c.1 11 9) 3), .ref 3, .int v2]) 2 rfl ?_
      refine l1_callV hQ mt_X10_takeBits mt_X2_get rfl rfl (o := 3) (ci := 1) (As := [.int (j_shr (c.1 11 9) 3)]) (rest := [.int v2]) rfl rfl rfl rfl rfl rfl (st1 := fun x1 => [.int x1, .int v2]) (fun _ => rfl) (ok_X2_get hQ c 3 (j_shr (c.1 11 9) 3) rfl) (fun x1 c2 => ?_)
      refine l1_many mt_X10_takeBits (pc' := 55) (L' := [some (.ref 11), some (.int p1), some (.int v2), some (.int v3)]) (st' := [.ref 11, .int x1, .int v2]) 1 rfl ?_
      refine l1_getI hQ mt_X10_takeBits rfl (o := 11) (ci := 9) (k := 9) (a := 0) (b := 0) rfl rfl rfl rfl rfl ?_
      refine l1_many mt_X10_takeBits (pc' := 70) (L' := [some (.ref 11), some (.int p1), some (.int (v2 ||| (j_shl ((j_shr x1 ((c2.1 11 9) &&& 7)) &&& 1) v3))), some (.int v3)]) (st' := [.ref 11, .ref 11]) 11 rfl ?_
      refine l1_getI hQ mt_X10_takeBits rfl (o := 11) (ci := 9) (k := 9) (a := 0) (b := 0) rfl rfl rfl rfl rfl ?_
      refine l1_many mt_X10_takeBits (pc' := 75) (L' := [some (.ref 11), some (.int p1), some (.int (v2 ||| (j_shl ((j_shr x1 ((c2.1 11 9) &&& 7)) &&& 1) v3))), some (.int v3)]) (st' := [.int ((c2.1 11 9) + 1), .ref 11]) 2 rfl ?_
      refine l1_putI hQ mt_X10_takeBits rfl (o := 11) (ci := 9) (k := 9) (a := 0) rfl rfl rfl rfl rfl rfl (fun c3 => ?_)
      refine l1_many mt_X10_takeBits (pc' := 35) (L' := [some (.ref 11), some (.int p1), some (.int (v2 ||| (j_shl ((j_shr x1 ((c2.1 11 9) &&& 7)) &&& 1) v3))), some (.int (v3 + 1))]) (st' := []) 2 rfl ?_
      exact ih c3 (v2 ||| (j_shl ((j_shr x1 ((c2.1 11 9) &&& 7)) &&& 1) v3)) (v3 + 1)
set_option maxRecDepth 100000 in
theorem en_X10_takeBits {Q : hS → am_H → Prop} (hQ : l1_em kc Q) (N : Nat) (c : hS) (p1 : Int32) : l1_G (wN wI) Q am_i_X10_takeBits 0 [some (.ref 11), some (.int p1)] [] c (f_X10_takeBits N c p1) := by
  rw [f_X10_takeBits]
  refine l1_many mt_X10_takeBits (pc' := 1) (L' := [some (.ref 11), some (.int p1)]) (st' := [.ref 11]) 1 rfl ?_
  refine l1_getI hQ mt_X10_takeBits rfl (o := 11) (ci := 9) (k := 10) (a := 0) (b := 0) rfl rfl rfl rfl rfl ?_
  refine l1_many mt_X10_takeBits (pc' := 5) (L' := [some (.ref 11), some (.int p1)]) (st' := [.ref 11, .int (c.1 11 10)]) 1 rfl ?_
  refine l1_getI hQ mt_X10_takeBits rfl (o := 11) (ci := 9) (k := 9) (a := 0) (b := 0) rfl rfl rfl rfl rfl ?_
  refine l1_many mt_X10_takeBits (pc' := bif am_cc .ge ((c.1 11 10) - (c.1 11 9)) p1 then 31 else 13) (L' := [some (.ref 11), some (.int p1)]) (st' := []) 3 rfl ?_
  refine l1_bif rfl ?_ ?_
  · refine l1_many mt_X10_takeBits (pc' := 35) (L' := [some (.ref 11), some (.int p1), some (.int 0), some (.int 0)]) (st' := []) 4 rfl ?_
    exact ok_X10_takeBits_35 hQ N p1 N c 0 0
  · refine l1_many mt_X10_takeBits (pc' := 14) (L' := [some (.ref 11), some (.int p1)]) (st' := [.ref 11]) 1 rfl ?_
    refine l1_getR hQ mt_X10_takeBits rfl (o := 11) (ci := 9) (k := 2) (a := 0) (b := 1) rfl rfl rfl rfl rfl (q := 9) rfl ?_
    refine l1_many mt_X10_takeBits (pc' := 20) (L' := [some (.ref 11), some (.int p1)]) (st' := [.ref 11, .int 20, .ref 9]) 2 rfl ?_
    refine l1_getI hQ mt_X10_takeBits rfl (o := 11) (ci := 9) (k := 10) (a := 0) (b := 0) rfl rfl rfl rfl rfl ?_
    refine l1_many mt_X10_takeBits (pc' := 25) (L' := [some (.ref 11), some (.int p1)]) (st' := [.int (j_shr (c.1 11 10) 3), .int 20, .ref 9]) 2 rfl ?_
    refine l1_callV hQ mt_X10_takeBits mt_X6_tell rfl rfl (o := 9) (ci := 5) (As := [.int 20, .int (j_shr (c.1 11 10) 3)]) (rest := []) rfl rfl rfl rfl rfl rfl (st1 := fun x1 => [.int x1]) (fun _ => rfl) (ok_X6_tell hQ c 20 (j_shr (c.1 11 10) 3)) (fun x1 c2 => ?_)
    refine l1_many mt_X10_takeBits (pc' := 30) (L' := [some (.ref 11), some (.int p1)]) (st' := [.int (-1)]) 2 rfl ?_
    exact l1_ret mt_X10_takeBits rfl rfl rfl
theorem ok_X10_takeBits {Q : hS → am_H → Prop} (hQ : l1_em kc Q) (N : Nat) (c : hS) (p1 : Int32) : l1_T wI Q am_i_X10_takeBits [.ref 11, .int p1] c (f_X10_takeBits N c p1) := l1_of (en_X10_takeBits hQ N c p1) ⟨rfl, rfl, trivial⟩
set_option maxRecDepth 100000 in
theorem ok_X10_areLengthCodes_177 {Q : hS → am_H → Prop} (hQ : l1_em kc Q) (N : Nat) : ∀ (c : hS), l1_G (wN wI) Q am_i_X10_areLengthCodes 177 [some (.ref 11)] [] c (f_X10_areLengthCodes_177 N c) := by
  intro c
  rw [f_X10_areLengthCodes_177]
  refine l1_many mt_X10_areLengthCodes (pc' := 178) (L' := [some (.ref 11)]) (st' := [.ref 11]) 1 rfl ?_
  refine l1_getR hQ mt_X10_areLengthCodes rfl (o := 11) (ci := 9) (k := 7) (a := 0) (b := 1) rfl rfl rfl rfl rfl (q := 28) rfl ?_
  refine l1_many mt_X10_areLengthCodes (pc' := 182) (L' := [some (.ref 11)]) (st' := [.ref 11, .ref 28]) 1 rfl ?_
  refine l1_getR hQ mt_X10_areLengthCodes rfl (o := 11) (ci := 9) (k := 8) (a := 0) (b := 1) rfl rfl rfl rfl rfl (q := 32) rfl ?_
  refine l1_many mt_X10_areLengthCodes (pc' := 189) (L' := [some (.ref 11)]) (st' := [.ref 1000000000, .int 0, .ref 32, .ref 28]) 2 rfl ?_
  refine l1_slen hQ mt_X10_areLengthCodes rfl oa0 ?_
  refine l1_callV hQ mt_X10_areLengthCodes mt_X3_order rfl rfl (o := 28) (ci := 2) (As := [.ref 32, .int 0, .int (Int32.ofNat sa0.length)]) (rest := []) rfl rfl rfl rfl rfl rfl (st1 := fun _ => []) (fun _ => rfl) (ok_X3_order hQ N c 28 0 (Int32.ofNat sa0.length) rfl) (fun _ c1 => ?_)
  refine l1_many mt_X10_areLengthCodes (pc' := 194) (L' := [some (.ref 11)]) (st' := [.ref 11]) 1 rfl ?_
  refine l1_getR hQ mt_X10_areLengthCodes rfl (o := 11) (ci := 9) (k := 7) (a := 0) (b := 1) rfl rfl rfl rfl rfl (q := 28) rfl ?_
  refine l1_callV hQ mt_X10_areLengthCodes mt_X3_areComplete rfl rfl (o := 28) (ci := 2) (As := []) (rest := []) rfl rfl rfl rfl rfl rfl (st1 := fun x2 => [.int x2]) (fun _ => rfl) (ok_X3_areComplete hQ N c1 28 rfl) (fun x2 c3 => ?_)
  refine l1_many mt_X10_areLengthCodes (pc' := bif am_cc .ne x2 0 then 219 else 203) (L' := [some (.ref 11)]) (st' := []) 1 rfl ?_
  refine l1_bin rfl ?_ ?_
  · refine l1_many mt_X10_areLengthCodes (pc' := 204) (L' := [some (.ref 11)]) (st' := [.ref 11]) 1 rfl ?_
    refine l1_getR hQ mt_X10_areLengthCodes rfl (o := 11) (ci := 9) (k := 2) (a := 0) (b := 1) rfl rfl rfl rfl rfl (q := 9) rfl ?_
    refine l1_many mt_X10_areLengthCodes (pc' := 210) (L' := [some (.ref 11)]) (st' := [.ref 11, .int 24, .ref 9]) 2 rfl ?_
    refine l1_getI hQ mt_X10_areLengthCodes rfl (o := 11) (ci := 9) (k := 12) (a := 0) (b := 0) rfl rfl rfl rfl rfl ?_
    refine l1_callV hQ mt_X10_areLengthCodes mt_X6_tell rfl rfl (o := 9) (ci := 5) (As := [.int 24, .int (c3.1 11 12)]) (rest := []) rfl rfl rfl rfl rfl rfl (st1 := fun x4 => [.int x4]) (fun _ => rfl) (ok_X6_tell hQ c3 24 (c3.1 11 12)) (fun x4 c5 => ?_)
    refine l1_many mt_X10_areLengthCodes (pc' := bif am_cc .eq x4 0 then 223 else 219) (L' := [some (.ref 11)]) (st' := []) 1 rfl ?_
    refine l1_bif rfl ?_ ?_
    · refine l1_many mt_X10_areLengthCodes (pc' := 224) (L' := [some (.ref 11)]) (st' := [.int 0]) 1 rfl ?_
      exact l1_ret mt_X10_areLengthCodes rfl rfl rfl
    · refine l1_many mt_X10_areLengthCodes (pc' := 224) (L' := [some (.ref 11)]) (st' := [.int 1]) 2 rfl ?_
      exact l1_ret mt_X10_areLengthCodes rfl rfl rfl
  · refine l1_many mt_X10_areLengthCodes (pc' := 224) (L' := [some (.ref 11)]) (st' := [.int 1]) 2 rfl ?_
    exact l1_ret mt_X10_areLengthCodes rfl rfl rfl
set_option maxRecDepth 100000 in
theorem ok_X10_areLengthCodes_119 {Q : hS → am_H → Prop} (hQ : l1_em kc Q) (N : Nat) : ∀ n : Nat, ∀ (c : hS) (v3 : Int32) (v4 : Int32), l1_G (wN wI) Q am_i_X10_areLengthCodes 119 [some (.ref 11), none, none, some (.int v3), some (.int v4)] [] c (f_X10_areLengthCodes_119 N n c v3 v4) := by
  intro n
  induction n with
  | zero => intro c v3 v4; exact l1_none
  | succ n ih =>
    intro c v3 v4
    rw [f_X10_areLengthCodes_119]
    refine l1_many mt_X10_areLengthCodes (pc' := bif am_cc .ge v4 (v3 + 4) then 177 else 127) (L' := [some (.ref 11), none, none, some (.int v3), some (.int v4)]) (st' := []) 5 rfl ?_
    refine l1_bif rfl ?_ ?_
    · refine l1_weak (m := [true, false, false, false, false, false]) (L' := [some (.ref 11)]) rfl ?_
      exact ok_X10_areLengthCodes_177 hQ N c
    · refine l1_many mt_X10_areLengthCodes (pc' := 132) (L' := [some (.ref 11), none, none, some (.int v3), some (.int v4)]) (st' := [.ref 1000000000, .int v4]) 2 rfl ?_
      refine l1_slen hQ mt_X10_areLengthCodes rfl oa0 ?_
      refine l1_many mt_X10_areLengthCodes (pc' := bif am_cc .ge v4 (Int32.ofNat sa0.length) then 177 else 136) (L' := [some (.ref 11), none, none, some (.int v3), some (.int v4)]) (st' := []) 1 rfl ?_
      refine l1_bif rfl ?_ ?_
      · refine l1_weak (m := [true, false, false, false, false, false]) (L' := [some (.ref 11)]) rfl ?_
        exact ok_X10_areLengthCodes_177 hQ N c
      · refine l1_many mt_X10_areLengthCodes (pc' := 138) (L' := [some (.ref 11), none, none, some (.int v3), some (.int v4)]) (st' := [.int 3, .ref 11]) 2 rfl ?_
        refine l1_callV hQ mt_X10_areLengthCodes mt_X10_takeBits rfl rfl (o := 11) (ci := 9) (As := [.int 3]) (rest := []) rfl rfl rfl rfl rfl rfl (st1 := fun x1 => [.int x1]) (fun _ => rfl) (ok_X10_takeBits hQ N c 3) (fun x1 c2 => ?_)
        refine l1_many mt_X10_areLengthCodes (pc' := bif am_cc .ne x1 (-1) then 151 else 149) (L' := [some (.ref 11), none, none, some (.int v3), some (.int v4), some (.int x1)]) (st' := []) 4 rfl ?_
        refine l1_bin rfl ?_ ?_
        · refine l1_many mt_X10_areLengthCodes (pc' := 150) (L' := [some (.ref 11), none, none, some (.int v3), some (.int v4), some (.int x1)]) (st' := [.int 0]) 1 rfl ?_
          exact l1_ret mt_X10_areLengthCodes rfl rfl rfl
        · refine l1_many mt_X10_areLengthCodes (pc' := 157) (L' := [some (.ref 11), none, none, some (.int v3), some (.int v4), some (.int x1)]) (st' := [.int v4, .ref 1000000000, .ref 11]) 3 rfl ?_
          refine l1_ck (fun hx => ?_)
          refine l1_sald hQ mt_X10_areLengthCodes rfl oa0 hx ?_
          refine l1_many mt_X10_areLengthCodes (pc' := 163) (L' := [some (.ref 11), none, none, some (.int v3), some (.int v4), some (.int x1)]) (st' := [.int v4, .ref 1000000000, .int (sa0.getD v4.toNatClampNeg 0), .ref 11]) 2 rfl ?_
          refine l1_ck (fun hx => ?_)
          refine l1_sald hQ mt_X10_areLengthCodes rfl oa0 hx ?_
          refine l1_many mt_X10_areLengthCodes (pc' := 168) (L' := [some (.ref 11), none, none, some (.int v3), some (.int v4), some (.int x1)]) (st' := [.int x1, .int ((sa0.getD v4.toNatClampNeg 0) + 1), .int (sa0.getD v4.toNatClampNeg 0), .ref 11]) 3 rfl ?_
          refine l1_callV hQ mt_X10_areLengthCodes mt_X10_fillLengths rfl rfl (o := 11) (ci := 9) (As := [.int (sa0.getD v4.toNatClampNeg 0), .int ((sa0.getD v4.toNatClampNeg 0) + 1), .int x1]) (rest := []) rfl rfl rfl rfl rfl rfl (st1 := fun _ => []) (fun _ => rfl) (ok_X10_fillLengths hQ N c2 (sa0.getD v4.toNatClampNeg 0) ((sa0.getD v4.toNatClampNeg 0) + 1) x1) (fun _ c3 => ?_)
          refine l1_many mt_X10_areLengthCodes (pc' := 119) (L' := [some (.ref 11), none, none, some (.int v3), some (.int (v4 + 1)), some (.int x1)]) (st' := []) 2 rfl ?_
          refine l1_weak (m := [true, false, false, true, true, false]) (L' := [some (.ref 11), none, none, some (.int v3), some (.int (v4 + 1))]) rfl ?_
          exact ih c3 v3 (v4 + 1)
set_option maxRecDepth 100000 in
theorem en_X10_areLengthCodes {Q : hS → am_H → Prop} (hQ : l1_em kc Q) (N : Nat) (c : hS) : l1_G (wN wI) Q am_i_X10_areLengthCodes 0 [some (.ref 11)] [] c (f_X10_areLengthCodes N c) := by
  rw [f_X10_areLengthCodes]
  refine l1_many mt_X10_areLengthCodes (pc' := 2) (L' := [some (.ref 11)]) (st' := [.int 5, .ref 11]) 2 rfl ?_
  refine l1_callV hQ mt_X10_areLengthCodes mt_X10_takeBits rfl rfl (o := 11) (ci := 9) (As := [.int 5]) (rest := []) rfl rfl rfl rfl rfl rfl (st1 := fun x1 => [.int x1]) (fun _ => rfl) (ok_X10_takeBits hQ N c 5) (fun x1 c2 => ?_)
  refine l1_many mt_X10_areLengthCodes (pc' := bif am_cc .ne x1 (-1) then 13 else 11) (L' := [some (.ref 11), some (.int x1)]) (st' := []) 4 rfl ?_
  refine l1_bin rfl ?_ ?_
  · refine l1_many mt_X10_areLengthCodes (pc' := 12) (L' := [some (.ref 11), some (.int x1)]) (st' := [.int 0]) 1 rfl ?_
    exact l1_ret mt_X10_areLengthCodes rfl rfl rfl
  · refine l1_many mt_X10_areLengthCodes (pc' := 19) (L' := [some (.ref 11), some (.int x1)]) (st' := [.int (x1 + 257), .ref 11]) 4 rfl ?_
    refine l1_putI hQ mt_X10_areLengthCodes rfl (o := 11) (ci := 9) (k := 13) (a := 0) rfl rfl rfl rfl rfl rfl (fun c3 => ?_)
    refine l1_many mt_X10_areLengthCodes (pc' := 23) (L' := [some (.ref 11), some (.int x1)]) (st' := [.ref 11]) 1 rfl ?_
    refine l1_getI hQ mt_X10_areLengthCodes rfl (o := 11) (ci := 9) (k := 13) (a := 0) (b := 0) rfl rfl rfl rfl rfl ?_
    refine l1_many mt_X10_areLengthCodes (pc' := bif am_cc .le (c3.1 11 13) 286 then 46 else 32) (L' := [some (.ref 11), some (.int x1)]) (st' := []) 2 rfl ?_
    refine l1_bif rfl ?_ ?_
    · refine l1_many mt_X10_areLengthCodes (pc' := 48) (L' := [some (.ref 11), some (.int x1)]) (st' := [.int 5, .ref 11]) 2 rfl ?_
      refine l1_callV hQ mt_X10_areLengthCodes mt_X10_takeBits rfl rfl (o := 11) (ci := 9) (As := [.int 5]) (rest := []) rfl rfl rfl rfl rfl rfl (st1 := fun x4 => [.int x4]) (fun _ => rfl) (ok_X10_takeBits hQ N c3 5) (fun x4 c5 => ?_)
      refine l1_many mt_X10_areLengthCodes (pc' := bif am_cc .ne x4 (-1) then 59 else 57) (L' := [some (.ref 11), some (.int x1), some (.int x4)]) (st' := []) 4 rfl ?_
      refine l1_bin rfl ?_ ?_
      · refine l1_many mt_X10_areLengthCodes (pc' := 58) (L' := [some (.ref 11), some (.int x1), some (.int x4)]) (st' := [.int 0]) 1 rfl ?_
        exact l1_ret mt_X10_areLengthCodes rfl rfl rfl
      · refine l1_many mt_X10_areLengthCodes (pc' := bif am_cc .le (x4 + 1) 30 then 81 else 67) (L' := [some (.ref 11), some (.int x1), some (.int x4)]) (st' := []) 5 rfl ?_
        refine l1_bif rfl ?_ ?_
        · refine l1_many mt_X10_areLengthCodes (pc' := 83) (L' := [some (.ref 11), some (.int x1), some (.int x4)]) (st' := [.ref 11, .ref 11]) 2 rfl ?_
          refine l1_getI hQ mt_X10_areLengthCodes rfl (o := 11) (ci := 9) (k := 13) (a := 0) (b := 0) rfl rfl rfl rfl rfl ?_
          refine l1_many mt_X10_areLengthCodes (pc' := 90) (L' := [some (.ref 11), some (.int x1), some (.int x4)]) (st' := [.int (((c5.1 11 13) + x4) + 1), .ref 11]) 4 rfl ?_
          refine l1_putI hQ mt_X10_areLengthCodes rfl (o := 11) (ci := 9) (k := 14) (a := 0) rfl rfl rfl rfl rfl rfl (fun c6 => ?_)
          refine l1_many mt_X10_areLengthCodes (pc' := 95) (L' := [some (.ref 11), some (.int x1), some (.int x4)]) (st' := [.int 4, .ref 11]) 2 rfl ?_
          refine l1_callV hQ mt_X10_areLengthCodes mt_X10_takeBits rfl rfl (o := 11) (ci := 9) (As := [.int 4]) (rest := []) rfl rfl rfl rfl rfl rfl (st1 := fun x7 => [.int x7]) (fun _ => rfl) (ok_X10_takeBits hQ N c6 4) (fun x7 c8 => ?_)
          refine l1_many mt_X10_areLengthCodes (pc' := bif am_cc .ne x7 (-1) then 106 else 104) (L' := [some (.ref 11), some (.int x1), some (.int x4), some (.int x7)]) (st' := []) 4 rfl ?_
          refine l1_bin rfl ?_ ?_
          · refine l1_many mt_X10_areLengthCodes (pc' := 105) (L' := [some (.ref 11), some (.int x1), some (.int x4), some (.int x7)]) (st' := [.int 0]) 1 rfl ?_
            exact l1_ret mt_X10_areLengthCodes rfl rfl rfl
          · refine l1_many mt_X10_areLengthCodes (pc' := 111) (L' := [some (.ref 11), some (.int x1), some (.int x4), some (.int x7)]) (st' := [.ref 1000000000, .int 0, .ref 11]) 3 rfl ?_
            refine l1_slen hQ mt_X10_areLengthCodes rfl oa0 ?_
            refine l1_many mt_X10_areLengthCodes (pc' := 113) (L' := [some (.ref 11), some (.int x1), some (.int x4), some (.int x7)]) (st' := [.int 0, .int (Int32.ofNat sa0.length), .int 0, .ref 11]) 1 rfl ?_
            refine l1_callV hQ mt_X10_areLengthCodes mt_X10_fillLengths rfl rfl (o := 11) (ci := 9) (As := [.int 0, .int (Int32.ofNat sa0.length), .int 0]) (rest := []) rfl rfl rfl rfl rfl rfl (st1 := fun _ => []) (fun _ => rfl) (ok_X10_fillLengths hQ N c8 0 (Int32.ofNat sa0.length) 0) (fun _ c9 => ?_)
            refine l1_many mt_X10_areLengthCodes (pc' := 119) (L' := [some (.ref 11), some (.int x1), some (.int x4), some (.int x7), some (.int 0)]) (st' := []) 2 rfl ?_
            refine l1_weak (m := [true, false, false, true, true, false]) (L' := [some (.ref 11), none, none, some (.int x7), some (.int 0)]) rfl ?_
            exact ok_X10_areLengthCodes_119 hQ N N c9 x7 0
        · refine l1_many mt_X10_areLengthCodes (pc' := 68) (L' := [some (.ref 11), some (.int x1), some (.int x4)]) (st' := [.ref 11]) 1 rfl ?_
          refine l1_getR hQ mt_X10_areLengthCodes rfl (o := 11) (ci := 9) (k := 2) (a := 0) (b := 1) rfl rfl rfl rfl rfl (q := 9) rfl ?_
          refine l1_many mt_X10_areLengthCodes (pc' := 74) (L' := [some (.ref 11), some (.int x1), some (.int x4)]) (st' := [.ref 11, .int 24, .ref 9]) 2 rfl ?_
          refine l1_getI hQ mt_X10_areLengthCodes rfl (o := 11) (ci := 9) (k := 12) (a := 0) (b := 0) rfl rfl rfl rfl rfl ?_
          refine l1_callV hQ mt_X10_areLengthCodes mt_X6_tell rfl rfl (o := 9) (ci := 5) (As := [.int 24, .int (c5.1 11 12)]) (rest := []) rfl rfl rfl rfl rfl rfl (st1 := fun x10 => [.int x10]) (fun _ => rfl) (ok_X6_tell hQ c5 24 (c5.1 11 12)) (fun x10 c11 => ?_)
          refine l1_ck (fun hz => ?_)
          exact l1_retZ mt_X10_areLengthCodes rfl rfl rfl hz
    · refine l1_many mt_X10_areLengthCodes (pc' := 33) (L' := [some (.ref 11), some (.int x1)]) (st' := [.ref 11]) 1 rfl ?_
      refine l1_getR hQ mt_X10_areLengthCodes rfl (o := 11) (ci := 9) (k := 2) (a := 0) (b := 1) rfl rfl rfl rfl rfl (q := 9) rfl ?_
      refine l1_many mt_X10_areLengthCodes (pc' := 39) (L' := [some (.ref 11), some (.int x1)]) (st' := [.ref 11, .int 24, .ref 9]) 2 rfl ?_
      refine l1_getI hQ mt_X10_areLengthCodes rfl (o := 11) (ci := 9) (k := 12) (a := 0) (b := 0) rfl rfl rfl rfl rfl ?_
      refine l1_callV hQ mt_X10_areLengthCodes mt_X6_tell rfl rfl (o := 9) (ci := 5) (As := [.int 24, .int (c3.1 11 12)]) (rest := []) rfl rfl rfl rfl rfl rfl (st1 := fun x12 => [.int x12]) (fun _ => rfl) (ok_X6_tell hQ c3 24 (c3.1 11 12)) (fun x12 c13 => ?_)
      refine l1_ck (fun hz => ?_)
      exact l1_retZ mt_X10_areLengthCodes rfl rfl rfl hz
theorem ok_X10_areLengthCodes {Q : hS → am_H → Prop} (hQ : l1_em kc Q) (N : Nat) (c : hS) : l1_T wI Q am_i_X10_areLengthCodes [.ref 11] c (f_X10_areLengthCodes N c) := l1_of (en_X10_areLengthCodes hQ N c) ⟨rfl, trivial⟩
set_option maxRecDepth 100000 in
theorem en_X10_lengthAt {Q : hS → am_H → Prop} (hQ : l1_em kc Q) (c : hS) (p1 : Int32) : l1_G (wN wI) Q am_i_X10_lengthAt 0 [some (.ref 11), some (.int p1)] [] c (f_X10_lengthAt c p1) := by
  rw [f_X10_lengthAt]
  refine l1_many mt_X10_lengthAt (pc' := bif am_cc .lt p1 0 then 22 else 4) (L' := [some (.ref 11), some (.int p1)]) (st' := []) 2 rfl ?_
  refine l1_bif rfl ?_ ?_
  · refine l1_many mt_X10_lengthAt (pc' := 23) (L' := [some (.ref 11), some (.int p1)]) (st' := [.int 0]) 1 rfl ?_
    exact l1_ret mt_X10_lengthAt rfl rfl rfl
  · refine l1_many mt_X10_lengthAt (pc' := 6) (L' := [some (.ref 11), some (.int p1)]) (st' := [.ref 11, .int p1]) 2 rfl ?_
    refine l1_getR hQ mt_X10_lengthAt rfl (o := 11) (ci := 9) (k := 8) (a := 0) (b := 1) rfl rfl rfl rfl rfl (q := 32) rfl ?_
    refine l1_len hQ mt_X10_lengthAt rfl (o := 32) (ci := 20) rfl rfl rfl ?_
    refine l1_many mt_X10_lengthAt (pc' := bif am_cc .ge p1 (Int32.ofNat (ln 32)) then 22 else 13) (L' := [some (.ref 11), some (.int p1)]) (st' := []) 1 rfl ?_
    refine l1_bif rfl ?_ ?_
    · refine l1_many mt_X10_lengthAt (pc' := 23) (L' := [some (.ref 11), some (.int p1)]) (st' := [.int 0]) 1 rfl ?_
      exact l1_ret mt_X10_lengthAt rfl rfl rfl
    · refine l1_many mt_X10_lengthAt (pc' := 14) (L' := [some (.ref 11), some (.int p1)]) (st' := [.ref 11]) 1 rfl ?_
      refine l1_getR hQ mt_X10_lengthAt rfl (o := 11) (ci := 9) (k := 8) (a := 0) (b := 1) rfl rfl rfl rfl rfl (q := 32) rfl ?_
      refine l1_many mt_X10_lengthAt (pc' := 18) (L' := [some (.ref 11), some (.int p1)]) (st' := [.int p1, .ref 32]) 1 rfl ?_
      refine l1_ck (fun hx => ?_)
      refine l1_ald hQ mt_X10_lengthAt rfl (o := 32) rfl hx ?_
      refine l1_many mt_X10_lengthAt (pc' := 23) (L' := [some (.ref 11), some (.int p1)]) (st' := [.int (c.1 32 p1.toNatClampNeg)]) 1 rfl ?_
      exact l1_ret mt_X10_lengthAt rfl rfl rfl
theorem ok_X10_lengthAt {Q : hS → am_H → Prop} (hQ : l1_em kc Q) (c : hS) (p1 : Int32) : l1_T wI Q am_i_X10_lengthAt [.ref 11, .int p1] c (f_X10_lengthAt c p1) := l1_of (en_X10_lengthAt hQ c p1) ⟨rfl, rfl, trivial⟩
set_option maxRecDepth 100000 in
theorem ok_X10_areSymbolLengths_29 {Q : hS → am_H → Prop} (hQ : l1_em kc Q) (N : Nat) (p1 : Int32) : ∀ (c : hS), l1_G (wN wI) Q am_i_X10_areSymbolLengths 29 [some (.ref 11), some (.int p1)] [] c (f_X10_areSymbolLengths_29 N p1 c) := by
  intro c
  rw [f_X10_areSymbolLengths_29]
  refine l1_many mt_X10_areSymbolLengths (pc' := 31) (L' := [some (.ref 11), some (.int p1)]) (st' := [.ref 11, .int p1]) 2 rfl ?_
  refine l1_getI hQ mt_X10_areSymbolLengths rfl (o := 11) (ci := 9) (k := 13) (a := 0) (b := 0) rfl rfl rfl rfl rfl ?_
  refine l1_many mt_X10_areSymbolLengths (pc' := bif am_cc .ge p1 (c.1 11 13) then 48 else 37) (L' := [some (.ref 11), some (.int p1)]) (st' := []) 1 rfl ?_
  refine l1_bif rfl ?_ ?_
  · refine l1_many mt_X10_areSymbolLengths (pc' := 49) (L' := [some (.ref 11), some (.int p1)]) (st' := [.int 1]) 1 rfl ?_
    exact l1_ret mt_X10_areSymbolLengths rfl rfl rfl
  · refine l1_many mt_X10_areSymbolLengths (pc' := 38) (L' := [some (.ref 11), some (.int p1)]) (st' := [.ref 11]) 1 rfl ?_
    refine l1_getI hQ mt_X10_areSymbolLengths rfl (o := 11) (ci := 9) (k := 15) (a := 0) (b := 0) rfl rfl rfl rfl rfl ?_
    refine l1_many mt_X10_areSymbolLengths (pc' := 42) (L' := [some (.ref 11), some (.int p1)]) (st' := [.ref 11, .int (c.1 11 15)]) 1 rfl ?_
    refine l1_getI hQ mt_X10_areSymbolLengths rfl (o := 11) (ci := 9) (k := 13) (a := 0) (b := 0) rfl rfl rfl rfl rfl ?_
    refine l1_many mt_X10_areSymbolLengths (pc' := bif am_cc .ge (c.1 11 15) (c.1 11 13) then 50 else 48) (L' := [some (.ref 11), some (.int p1)]) (st' := []) 1 rfl ?_
    refine l1_bif rfl ?_ ?_
    · refine l1_many mt_X10_areSymbolLengths (pc' := 51) (L' := [some (.ref 11), some (.int p1)]) (st' := [.ref 11]) 1 rfl ?_
      refine l1_getR hQ mt_X10_areSymbolLengths rfl (o := 11) (ci := 9) (k := 5) (a := 0) (b := 1) rfl rfl rfl rfl rfl (q := 20) rfl ?_
      refine l1_many mt_X10_areSymbolLengths (pc' := 55) (L' := [some (.ref 11), some (.int p1)]) (st' := [.ref 11, .ref 20]) 1 rfl ?_
      refine l1_getR hQ mt_X10_areSymbolLengths rfl (o := 11) (ci := 9) (k := 8) (a := 0) (b := 1) rfl rfl rfl rfl rfl (q := 32) rfl ?_
      refine l1_many mt_X10_areSymbolLengths (pc' := 60) (L' := [some (.ref 11), some (.int p1)]) (st' := [.ref 11, .int 0, .ref 32, .ref 20]) 2 rfl ?_
      refine l1_getI hQ mt_X10_areSymbolLengths rfl (o := 11) (ci := 9) (k := 13) (a := 0) (b := 0) rfl rfl rfl rfl rfl ?_
      refine l1_callV hQ mt_X10_areSymbolLengths mt_X3_order rfl rfl (o := 20) (ci := 2) (As := [.ref 32, .int 0, .int (c.1 11 13)]) (rest := []) rfl rfl rfl rfl rfl rfl (st1 := fun _ => []) (fun _ => rfl) (ok_X3_order hQ N c 20 0 (c.1 11 13) rfl) (fun _ c1 => ?_)
      refine l1_many mt_X10_areSymbolLengths (pc' := 67) (L' := [some (.ref 11), some (.int p1)]) (st' := [.ref 11]) 1 rfl ?_
      refine l1_getR hQ mt_X10_areSymbolLengths rfl (o := 11) (ci := 9) (k := 5) (a := 0) (b := 1) rfl rfl rfl rfl rfl (q := 20) rfl ?_
      refine l1_callV hQ mt_X10_areSymbolLengths mt_X3_areComplete rfl rfl (o := 20) (ci := 2) (As := []) (rest := []) rfl rfl rfl rfl rfl rfl (st1 := fun x2 => [.int x2]) (fun _ => rfl) (ok_X3_areComplete hQ N c1 20 rfl) (fun x2 c3 => ?_)
      refine l1_ck (fun hz => ?_)
      exact l1_retZ mt_X10_areSymbolLengths rfl rfl rfl hz
    · refine l1_many mt_X10_areSymbolLengths (pc' := 49) (L' := [some (.ref 11), some (.int p1)]) (st' := [.int 1]) 1 rfl ?_
      exact l1_ret mt_X10_areSymbolLengths rfl rfl rfl
set_option maxRecDepth 100000 in
theorem en_X10_areSymbolLengths {Q : hS → am_H → Prop} (hQ : l1_em kc Q) (N : Nat) (c : hS) (p1 : Int32) : l1_G (wN wI) Q am_i_X10_areSymbolLengths 0 [some (.ref 11), some (.int p1)] [] c (f_X10_areSymbolLengths N c p1) := by
  rw [f_X10_areSymbolLengths]
  refine l1_many mt_X10_areSymbolLengths (pc' := bif am_cc .gt p1 256 then 29 else 7) (L' := [some (.ref 11), some (.int p1)]) (st' := []) 3 rfl ?_
  refine l1_bif rfl ?_ ?_
  · exact ok_X10_areSymbolLengths_29 hQ N p1 c
  · refine l1_many mt_X10_areSymbolLengths (pc' := 8) (L' := [some (.ref 11), some (.int p1)]) (st' := [.ref 11]) 1 rfl ?_
    refine l1_getI hQ mt_X10_areSymbolLengths rfl (o := 11) (ci := 9) (k := 15) (a := 0) (b := 0) rfl rfl rfl rfl rfl ?_
    refine l1_many mt_X10_areSymbolLengths (pc' := bif am_cc .le (c.1 11 15) 256 then 29 else 17) (L' := [some (.ref 11), some (.int p1)]) (st' := []) 2 rfl ?_
    refine l1_bif rfl ?_ ?_
    · exact ok_X10_areSymbolLengths_29 hQ N p1 c
    · refine l1_many mt_X10_areSymbolLengths (pc' := 21) (L' := [some (.ref 11), some (.int p1)]) (st' := [.int 256, .ref 11]) 2 rfl ?_
      refine l1_callV hQ mt_X10_areSymbolLengths mt_X10_lengthAt rfl rfl (o := 11) (ci := 9) (As := [.int 256]) (rest := []) rfl rfl rfl rfl rfl rfl (st1 := fun x1 => [.int x1]) (fun _ => rfl) (ok_X10_lengthAt hQ c 256) (fun x1 c2 => ?_)
      refine l1_many mt_X10_areSymbolLengths (pc' := bif am_cc .ne x1 0 then 29 else 27) (L' := [some (.ref 11), some (.int p1)]) (st' := []) 1 rfl ?_
      refine l1_bin rfl ?_ ?_
      · refine l1_many mt_X10_areSymbolLengths (pc' := 28) (L' := [some (.ref 11), some (.int p1)]) (st' := [.int 0]) 1 rfl ?_
        exact l1_ret mt_X10_areSymbolLengths rfl rfl rfl
      · exact ok_X10_areSymbolLengths_29 hQ N p1 c2
theorem ok_X10_areSymbolLengths {Q : hS → am_H → Prop} (hQ : l1_em kc Q) (N : Nat) (c : hS) (p1 : Int32) : l1_T wI Q am_i_X10_areSymbolLengths [.ref 11, .int p1] c (f_X10_areSymbolLengths N c p1) := l1_of (en_X10_areSymbolLengths hQ N c p1) ⟨rfl, rfl, trivial⟩
set_option maxRecDepth 100000 in
theorem ok_X10_isRepeated_113 {Q : hS → am_H → Prop} (hQ : l1_em kc Q) (N : Nat) (p1 : Int32) : ∀ (c : hS) (v2 : Int32) (v3 : Int32) (w0 : Int32), l1_G (wN wI) Q am_i_X10_isRepeated 113 [some (.ref 11), none, some (.int v2), some (.int v3)] [.int w0] c (f_X10_isRepeated_113 N p1 c v2 v3 w0) := by
  intro c v2 v3 w0
  rw [f_X10_isRepeated_113]
  refine l1_many mt_X10_isRepeated (pc' := 117) (L' := [some (.ref 11), none, some (.int v2), some (.int v3), some (.int w0)]) (st' := [.int v3, .ref 11]) 3 rfl ?_
  refine l1_callV hQ mt_X10_isRepeated mt_X10_takeBits rfl rfl (o := 11) (ci := 9) (As := [.int v3]) (rest := []) rfl rfl rfl rfl rfl rfl (st1 := fun x1 => [.int x1]) (fun _ => rfl) (ok_X10_takeBits hQ N c v3) (fun x1 c2 => ?_)
  refine l1_many mt_X10_isRepeated (pc' := bif am_cc .ne x1 (-1) then 130 else 128) (L' := [some (.ref 11), none, some (.int v2), some (.int v3), some (.int w0), some (.int x1)]) (st' := []) 4 rfl ?_
  refine l1_bin rfl ?_ ?_
  · refine l1_many mt_X10_isRepeated (pc' := 129) (L' := [some (.ref 11), none, some (.int v2), some (.int v3), some (.int w0), some (.int x1)]) (st' := [.int 0]) 1 rfl ?_
    exact l1_ret mt_X10_isRepeated rfl rfl rfl
  · refine l1_many mt_X10_isRepeated (pc' := 131) (L' := [some (.ref 11), none, some (.int v2), some (.int v3), some (.int w0), some (.int x1)]) (st' := [.ref 11]) 1 rfl ?_
    refine l1_getI hQ mt_X10_isRepeated rfl (o := 11) (ci := 9) (k := 15) (a := 0) (b := 0) rfl rfl rfl rfl rfl ?_
    refine l1_many mt_X10_isRepeated (pc' := 145) (L' := [some (.ref 11), none, some (.int v2), some (.int v3), some (.int w0), some (.int x1), some (.int (((c2.1 11 15) + w0) + x1))]) (st' := [.ref 11, .int (((c2.1 11 15) + w0) + x1)]) 7 rfl ?_
    refine l1_getI hQ mt_X10_isRepeated rfl (o := 11) (ci := 9) (k := 14) (a := 0) (b := 0) rfl rfl rfl rfl rfl ?_
    refine l1_many mt_X10_isRepeated (pc' := bif am_cc .le (((c2.1 11 15) + w0) + x1) (c2.1 11 14) then 165 else 151) (L' := [some (.ref 11), none, some (.int v2), some (.int v3), some (.int w0), some (.int x1), some (.int (((c2.1 11 15) + w0) + x1))]) (st' := []) 1 rfl ?_
    refine l1_bif rfl ?_ ?_
    · refine l1_many mt_X10_isRepeated (pc' := 167) (L' := [some (.ref 11), none, some (.int v2), some (.int v3), some (.int w0), some (.int x1), some (.int (((c2.1 11 15) + w0) + x1))]) (st' := [.ref 11, .ref 11]) 2 rfl ?_
      refine l1_getI hQ mt_X10_isRepeated rfl (o := 11) (ci := 9) (k := 15) (a := 0) (b := 0) rfl rfl rfl rfl rfl ?_
      refine l1_many mt_X10_isRepeated (pc' := 173) (L' := [some (.ref 11), none, some (.int v2), some (.int v3), some (.int w0), some (.int x1), some (.int (((c2.1 11 15) + w0) + x1))]) (st' := [.int v2, .int (((c2.1 11 15) + w0) + x1), .int (c2.1 11 15), .ref 11]) 2 rfl ?_
      refine l1_callV hQ mt_X10_isRepeated mt_X10_fillLengths rfl rfl (o := 11) (ci := 9) (As := [.int (c2.1 11 15), .int (((c2.1 11 15) + w0) + x1), .int v2]) (rest := []) rfl rfl rfl rfl rfl rfl (st1 := fun _ => []) (fun _ => rfl) (ok_X10_fillLengths hQ N c2 (c2.1 11 15) (((c2.1 11 15) + w0) + x1) v2) (fun _ c3 => ?_)
      refine l1_many mt_X10_isRepeated (pc' := 179) (L' := [some (.ref 11), none, some (.int v2), some (.int v3), some (.int w0), some (.int x1), some (.int (((c2.1 11 15) + w0) + x1))]) (st' := [.int (((c2.1 11 15) + w0) + x1), .ref 11]) 2 rfl ?_
      refine l1_putI hQ mt_X10_isRepeated rfl (o := 11) (ci := 9) (k := 15) (a := 0) rfl rfl rfl rfl rfl rfl (fun c4 => ?_)
      refine l1_many mt_X10_isRepeated (pc' := 183) (L' := [some (.ref 11), none, some (.int v2), some (.int v3), some (.int w0), some (.int x1), some (.int (((c2.1 11 15) + w0) + x1))]) (st' := [.int 1]) 1 rfl ?_
      exact l1_ret mt_X10_isRepeated rfl rfl rfl
    · refine l1_many mt_X10_isRepeated (pc' := 152) (L' := [some (.ref 11), none, some (.int v2), some (.int v3), some (.int w0), some (.int x1), some (.int (((c2.1 11 15) + w0) + x1))]) (st' := [.ref 11]) 1 rfl ?_
      refine l1_getR hQ mt_X10_isRepeated rfl (o := 11) (ci := 9) (k := 2) (a := 0) (b := 1) rfl rfl rfl rfl rfl (q := 9) rfl ?_
      refine l1_many mt_X10_isRepeated (pc' := 158) (L' := [some (.ref 11), none, some (.int v2), some (.int v3), some (.int w0), some (.int x1), some (.int (((c2.1 11 15) + w0) + x1))]) (st' := [.ref 11, .int 24, .ref 9]) 2 rfl ?_
      refine l1_getI hQ mt_X10_isRepeated rfl (o := 11) (ci := 9) (k := 12) (a := 0) (b := 0) rfl rfl rfl rfl rfl ?_
      refine l1_callV hQ mt_X10_isRepeated mt_X6_tell rfl rfl (o := 9) (ci := 5) (As := [.int 24, .int (c2.1 11 12)]) (rest := []) rfl rfl rfl rfl rfl rfl (st1 := fun x5 => [.int x5]) (fun _ => rfl) (ok_X6_tell hQ c2 24 (c2.1 11 12)) (fun x5 c6 => ?_)
      refine l1_ck (fun hz => ?_)
      exact l1_retZ mt_X10_isRepeated rfl rfl rfl hz
set_option maxRecDepth 100000 in
theorem ok_X10_isRepeated_90 {Q : hS → am_H → Prop} (hQ : l1_em kc Q) (N : Nat) (p1 : Int32) : ∀ (c : hS) (v2 : Int32) (w0 : Int32), l1_G (wN wI) Q am_i_X10_isRepeated 90 [some (.ref 11), some (.int p1), some (.int v2)] [.int w0] c (f_X10_isRepeated_90 N p1 c v2 w0) := by
  intro c v2 w0
  rw [f_X10_isRepeated_90]
  refine l1_many mt_X10_isRepeated (pc' := bif am_cc .ge p1 16 then 101 else 97) (L' := [some (.ref 11), some (.int p1), some (.int v2), some (.int w0)]) (st' := []) 4 rfl ?_
  refine l1_bif rfl ?_ ?_
  · refine l1_many mt_X10_isRepeated (pc' := bif am_cc .ne p1 18 then 112 else 107) (L' := [some (.ref 11), some (.int p1), some (.int v2), some (.int w0)]) (st' := []) 3 rfl ?_
    refine l1_bin rfl ?_ ?_
    · refine l1_many mt_X10_isRepeated (pc' := 113) (L' := [some (.ref 11), some (.int p1), some (.int v2), some (.int w0)]) (st' := [.int 11]) 2 rfl ?_
      refine l1_weak (m := [true, false, true, true, false, false, false]) (L' := [some (.ref 11), none, some (.int v2), some (.int w0)]) rfl ?_
      exact ok_X10_isRepeated_113 hQ N p1 c v2 w0 11
    · refine l1_many mt_X10_isRepeated (pc' := 113) (L' := [some (.ref 11), some (.int p1), some (.int v2), some (.int w0)]) (st' := [.int 3]) 1 rfl ?_
      refine l1_weak (m := [true, false, true, true, false, false, false]) (L' := [some (.ref 11), none, some (.int v2), some (.int w0)]) rfl ?_
      exact ok_X10_isRepeated_113 hQ N p1 c v2 w0 3
  · refine l1_many mt_X10_isRepeated (pc' := 113) (L' := [some (.ref 11), some (.int p1), some (.int v2), some (.int w0)]) (st' := [.int 1]) 2 rfl ?_
    refine l1_weak (m := [true, false, true, true, false, false, false]) (L' := [some (.ref 11), none, some (.int v2), some (.int w0)]) rfl ?_
    exact ok_X10_isRepeated_113 hQ N p1 c v2 w0 1
set_option maxRecDepth 100000 in
theorem ok_X10_isRepeated_57 {Q : hS → am_H → Prop} (hQ : l1_em kc Q) (N : Nat) (p1 : Int32) : ∀ (c : hS) (w0 : Int32), l1_G (wN wI) Q am_i_X10_isRepeated 57 [some (.ref 11), some (.int p1)] [.int w0] c (f_X10_isRepeated_57 N p1 c w0) := by
  intro c w0
  rw [f_X10_isRepeated_57]
  refine l1_many mt_X10_isRepeated (pc' := bif am_cc .ge p1 16 then 68 else 64) (L' := [some (.ref 11), some (.int p1), some (.int w0)]) (st' := []) 4 rfl ?_
  refine l1_bif rfl ?_ ?_
  · refine l1_many mt_X10_isRepeated (pc' := bif am_cc .ne p1 16 then 78 else 74) (L' := [some (.ref 11), some (.int p1), some (.int w0)]) (st' := []) 3 rfl ?_
    refine l1_bin rfl ?_ ?_
    · refine l1_many mt_X10_isRepeated (pc' := 90) (L' := [some (.ref 11), some (.int p1), some (.int w0)]) (st' := [.int 2]) 2 rfl ?_
      exact ok_X10_isRepeated_90 hQ N p1 c w0 2
    · refine l1_many mt_X10_isRepeated (pc' := bif am_cc .ne p1 17 then 88 else 84) (L' := [some (.ref 11), some (.int p1), some (.int w0)]) (st' := []) 3 rfl ?_
      refine l1_bin rfl ?_ ?_
      · refine l1_many mt_X10_isRepeated (pc' := 90) (L' := [some (.ref 11), some (.int p1), some (.int w0)]) (st' := [.int 3]) 2 rfl ?_
        exact ok_X10_isRepeated_90 hQ N p1 c w0 3
      · refine l1_many mt_X10_isRepeated (pc' := 90) (L' := [some (.ref 11), some (.int p1), some (.int w0)]) (st' := [.int 7]) 1 rfl ?_
        exact ok_X10_isRepeated_90 hQ N p1 c w0 7
  · refine l1_many mt_X10_isRepeated (pc' := 90) (L' := [some (.ref 11), some (.int p1), some (.int w0)]) (st' := [.int 0]) 2 rfl ?_
    exact ok_X10_isRepeated_90 hQ N p1 c w0 0
set_option maxRecDepth 100000 in
theorem ok_X10_isRepeated_27 {Q : hS → am_H → Prop} (hQ : l1_em kc Q) (N : Nat) (p1 : Int32) : ∀ (c : hS), l1_G (wN wI) Q am_i_X10_isRepeated 27 [some (.ref 11), some (.int p1)] [] c (f_X10_isRepeated_27 N p1 c) := by
  intro c
  rw [f_X10_isRepeated_27]
  refine l1_many mt_X10_isRepeated (pc' := bif am_cc .ge p1 16 then 37 else 33) (L' := [some (.ref 11), some (.int p1)]) (st' := []) 3 rfl ?_
  refine l1_bif rfl ?_ ?_
  · refine l1_many mt_X10_isRepeated (pc' := bif am_cc .ne p1 16 then 56 else 43) (L' := [some (.ref 11), some (.int p1)]) (st' := []) 3 rfl ?_
    refine l1_bin rfl ?_ ?_
    · refine l1_many mt_X10_isRepeated (pc' := 45) (L' := [some (.ref 11), some (.int p1)]) (st' := [.ref 11, .ref 11]) 2 rfl ?_
      refine l1_getI hQ mt_X10_isRepeated rfl (o := 11) (ci := 9) (k := 15) (a := 0) (b := 0) rfl rfl rfl rfl rfl ?_
      refine l1_many mt_X10_isRepeated (pc' := 50) (L' := [some (.ref 11), some (.int p1)]) (st' := [.int ((c.1 11 15) - 1), .ref 11]) 2 rfl ?_
      refine l1_callV hQ mt_X10_isRepeated mt_X10_lengthAt rfl rfl (o := 11) (ci := 9) (As := [.int ((c.1 11 15) - 1)]) (rest := []) rfl rfl rfl rfl rfl rfl (st1 := fun x1 => [.int x1]) (fun _ => rfl) (ok_X10_lengthAt hQ c ((c.1 11 15) - 1)) (fun x1 c2 => ?_)
      refine l1_many mt_X10_isRepeated (pc' := 57) (L' := [some (.ref 11), some (.int p1)]) (st' := [.int x1]) 1 rfl ?_
      exact ok_X10_isRepeated_57 hQ N p1 c2 x1
    · refine l1_many mt_X10_isRepeated (pc' := 57) (L' := [some (.ref 11), some (.int p1)]) (st' := [.int 0]) 1 rfl ?_
      exact ok_X10_isRepeated_57 hQ N p1 c 0
  · refine l1_many mt_X10_isRepeated (pc' := 57) (L' := [some (.ref 11), some (.int p1)]) (st' := [.int p1]) 2 rfl ?_
    exact ok_X10_isRepeated_57 hQ N p1 c p1
set_option maxRecDepth 100000 in
theorem en_X10_isRepeated {Q : hS → am_H → Prop} (hQ : l1_em kc Q) (N : Nat) (c : hS) (p1 : Int32) : l1_G (wN wI) Q am_i_X10_isRepeated 0 [some (.ref 11), some (.int p1)] [] c (f_X10_isRepeated N c p1) := by
  rw [f_X10_isRepeated]
  refine l1_many mt_X10_isRepeated (pc' := bif am_cc .ne p1 16 then 27 else 6) (L' := [some (.ref 11), some (.int p1)]) (st' := []) 3 rfl ?_
  refine l1_bin rfl ?_ ?_
  · refine l1_many mt_X10_isRepeated (pc' := 7) (L' := [some (.ref 11), some (.int p1)]) (st' := [.ref 11]) 1 rfl ?_
    refine l1_getI hQ mt_X10_isRepeated rfl (o := 11) (ci := 9) (k := 15) (a := 0) (b := 0) rfl rfl rfl rfl rfl ?_
    refine l1_many mt_X10_isRepeated (pc' := bif am_cc .ne (c.1 11 15) 0 then 27 else 13) (L' := [some (.ref 11), some (.int p1)]) (st' := []) 1 rfl ?_
    refine l1_bin rfl ?_ ?_
    · refine l1_many mt_X10_isRepeated (pc' := 14) (L' := [some (.ref 11), some (.int p1)]) (st' := [.ref 11]) 1 rfl ?_
      refine l1_getR hQ mt_X10_isRepeated rfl (o := 11) (ci := 9) (k := 2) (a := 0) (b := 1) rfl rfl rfl rfl rfl (q := 9) rfl ?_
      refine l1_many mt_X10_isRepeated (pc' := 20) (L' := [some (.ref 11), some (.int p1)]) (st' := [.ref 11, .int 24, .ref 9]) 2 rfl ?_
      refine l1_getI hQ mt_X10_isRepeated rfl (o := 11) (ci := 9) (k := 12) (a := 0) (b := 0) rfl rfl rfl rfl rfl ?_
      refine l1_callV hQ mt_X10_isRepeated mt_X6_tell rfl rfl (o := 9) (ci := 5) (As := [.int 24, .int (c.1 11 12)]) (rest := []) rfl rfl rfl rfl rfl rfl (st1 := fun x1 => [.int x1]) (fun _ => rfl) (ok_X6_tell hQ c 24 (c.1 11 12)) (fun x1 c2 => ?_)
      refine l1_ck (fun hz => ?_)
      exact l1_retZ mt_X10_isRepeated rfl rfl rfl hz
    · exact ok_X10_isRepeated_27 hQ N p1 c
  · exact ok_X10_isRepeated_27 hQ N p1 c
theorem ok_X10_isRepeated {Q : hS → am_H → Prop} (hQ : l1_em kc Q) (N : Nat) (c : hS) (p1 : Int32) : l1_T wI Q am_i_X10_isRepeated [.ref 11, .int p1] c (f_X10_isRepeated N c p1) := l1_of (en_X10_isRepeated hQ N c p1) ⟨rfl, rfl, trivial⟩
set_option maxRecDepth 100000 in
theorem ok_X10_takeSymbol_148 {Q : hS → am_H → Prop} (hQ : l1_em kc Q) (N : Nat) (p1 : Nat) (p2 : Int32) (hp1 : kc p1 = 2) : ∀ (c : hS), l1_G (wN wI) Q am_i_X10_takeSymbol 148 [some (.ref 11), none, some (.int p2)] [] c (f_X10_takeSymbol_148 N p1 p2 c) := by
  intro c
  rw [f_X10_takeSymbol_148]
  refine l1_many mt_X10_takeSymbol (pc' := 149) (L' := [some (.ref 11), none, some (.int p2)]) (st' := [.ref 11]) 1 rfl ?_
  refine l1_getR hQ mt_X10_takeSymbol rfl (o := 11) (ci := 9) (k := 2) (a := 0) (b := 1) rfl rfl rfl rfl rfl (q := 9) rfl ?_
  refine l1_many mt_X10_takeSymbol (pc' := 155) (L' := [some (.ref 11), none, some (.int p2)]) (st' := [.int p2, .int 25, .ref 9]) 2 rfl ?_
  refine l1_callV hQ mt_X10_takeSymbol mt_X6_tell rfl rfl (o := 9) (ci := 5) (As := [.int 25, .int p2]) (rest := []) rfl rfl rfl rfl rfl rfl (st1 := fun x1 => [.int x1]) (fun _ => rfl) (ok_X6_tell hQ c 25 p2) (fun x1 c2 => ?_)
  refine l1_many mt_X10_takeSymbol (pc' := 160) (L' := [some (.ref 11), none, some (.int p2)]) (st' := [.int (-1)]) 2 rfl ?_
  exact l1_ret mt_X10_takeSymbol rfl rfl rfl
set_option maxRecDepth 100000 in
theorem ok_X10_takeSymbol_11 {Q : hS → am_H → Prop} (hQ : l1_em kc Q) (N : Nat) (p1 : Nat) (p2 : Int32) (hp1 : kc p1 = 2) : ∀ n : Nat, ∀ (c : hS) (v3 : Int32) (v4 : Int32) (v5 : Int32) (v6 : Int32), l1_G (wN wI) Q am_i_X10_takeSymbol 11 [some (.ref 11), some (.ref p1), some (.int p2), some (.int v3), some (.int v4), some (.int v5), some (.int v6)] [] c (f_X10_takeSymbol_11 N p1 p2 n c v3 v4 v5 v6) := by
  intro n
  induction n with
  | zero => intro c v3 v4 v5 v6; exact l1_none
  | succ n ih =>
    intro c v3 v4 v5 v6
    rw [f_X10_takeSymbol_11]
    refine l1_many mt_X10_takeSymbol (pc' := bif am_cc .gt v6 15 then 148 else 18) (L' := [some (.ref 11), some (.ref p1), some (.int p2), some (.int v3), some (.int v4), some (.int v5), some (.int v6)]) (st' := []) 3 rfl ?_
    refine l1_bif rfl ?_ ?_
    · refine l1_weak (m := [true, false, true, false, false, false, false, false]) (L' := [some (.ref 11), none, some (.int p2)]) rfl ?_
      exact ok_X10_takeSymbol_148 hQ N p1 p2 hp1 c
    · refine l1_many mt_X10_takeSymbol (pc' := 19) (L' := [some (.ref 11), some (.ref p1), some (.int p2), some (.int v3), some (.int v4), some (.int v5), some (.int v6)]) (st' := [.ref 11]) 1 rfl ?_
      refine l1_getI hQ mt_X10_takeSymbol rfl (o := 11) (ci := 9) (k := 9) (a := 0) (b := 0) rfl rfl rfl rfl rfl ?_
      refine l1_many mt_X10_takeSymbol (pc' := 23) (L' := [some (.ref 11), some (.ref p1), some (.int p2), some (.int v3), some (.int v4), some (.int v5), some (.int v6)]) (st' := [.ref 11, .int (c.1 11 9)]) 1 rfl ?_
      refine l1_getI hQ mt_X10_takeSymbol rfl (o := 11) (ci := 9) (k := 10) (a := 0) (b := 0) rfl rfl rfl rfl rfl ?_
      refine l1_many mt_X10_takeSymbol (pc' := bif am_cc .lt (c.1 11 9) (c.1 11 10) then 47 else 29) (L' := [some (.ref 11), some (.ref p1), some (.int p2), some (.int v3), some (.int v4), some (.int v5), some (.int v6)]) (st' := []) 1 rfl ?_
      refine l1_bif rfl ?_ ?_
      · refine l1_many mt_X10_takeSymbol (pc' := 51) (L' := [some (.ref 11), some (.ref p1), some (.int p2), some (.int v3), some (.int v4), some (.int v5), some (.int v6)]) (st' := [.ref 11, .int (j_shl v3 1)]) 4 rfl ?_
        refine l1_getR hQ mt_X10_takeSymbol rfl (o := 11) (ci := 9) (k := 0) (a := 0) (b := 1) rfl rfl rfl rfl rfl (q := 3) rfl ?_
        refine l1_many mt_X10_takeSymbol (pc' := 55) (L' := [some (.ref 11), some (.ref p1), some (.int p2), some (.int v3), some (.int v4), some (.int v5), some (.int v6)]) (st' := [.ref 11, .ref 3, .int (j_shl v3 1)]) 1 rfl ?_
        refine l1_getI hQ mt_X10_takeSymbol rfl (o := 11) (ci := 9) (k := 9) (a := 0) (b := 0) rfl rfl rfl rfl rfl ?_
        refine l1_many mt_X10_takeSymbol (pc' := 60) (L' := [some (.ref 11), some (.ref p1), some (.int p2), some (.int v3), some (.int v4), some (.int v5), some (.int v6)]) (st' := [.int (j_shr (c.1 11 9) 3), .ref 3, .int (j_shl v3 1)]) 2 rfl ?_
        refine l1_callV hQ mt_X10_takeSymbol mt_X2_get rfl rfl (o := 3) (ci := 1) (As := [.int (j_shr (c.1 11 9) 3)]) (rest := [.int (j_shl v3 1)]) rfl rfl rfl rfl rfl rfl (st1 := fun x1 => [.int x1, .int (j_shl v3 1)]) (fun _ => rfl) (ok_X2_get hQ c 3 (j_shr (c.1 11 9) 3) rfl) (fun x1 c2 => ?_)
        refine l1_many mt_X10_takeSymbol (pc' := 64) (L' := [some (.ref 11), some (.ref p1), some (.int p2), some (.int v3), some (.int v4), some (.int v5), some (.int v6)]) (st' := [.ref 11, .int x1, .int (j_shl v3 1)]) 1 rfl ?_
        refine l1_getI hQ mt_X10_takeSymbol rfl (o := 11) (ci := 9) (k := 9) (a := 0) (b := 0) rfl rfl rfl rfl rfl ?_
        refine l1_many mt_X10_takeSymbol (pc' := 77) (L' := [some (.ref 11), some (.ref p1), some (.int p2), some (.int ((j_shl v3 1) ||| ((j_shr x1 ((c2.1 11 9) &&& 7)) &&& 1))), some (.int v4), some (.int v5), some (.int v6)]) (st' := [.ref 11, .ref 11]) 9 rfl ?_
        refine l1_getI hQ mt_X10_takeSymbol rfl (o := 11) (ci := 9) (k := 9) (a := 0) (b := 0) rfl rfl rfl rfl rfl ?_
        refine l1_many mt_X10_takeSymbol (pc' := 82) (L' := [some (.ref 11), some (.ref p1), some (.int p2), some (.int ((j_shl v3 1) ||| ((j_shr x1 ((c2.1 11 9) &&& 7)) &&& 1))), some (.int v4), some (.int v5), some (.int v6)]) (st' := [.int ((c2.1 11 9) + 1), .ref 11]) 2 rfl ?_
        refine l1_putI hQ mt_X10_takeSymbol rfl (o := 11) (ci := 9) (k := 9) (a := 0) rfl rfl rfl rfl rfl rfl (fun c3 => ?_)
        refine l1_many mt_X10_takeSymbol (pc' := 88) (L' := [some (.ref 11), some (.ref p1), some (.int p2), some (.int ((j_shl v3 1) ||| ((j_shr x1 ((c2.1 11 9) &&& 7)) &&& 1))), some (.int v4), some (.int v5), some (.int v6)]) (st' := [.int v6, .ref p1]) 2 rfl ?_
        refine l1_callV hQ mt_X10_takeSymbol mt_X3_amount rfl rfl (o := p1) (ci := 2) (As := [.int v6]) (rest := []) rfl rfl hp1 rfl rfl rfl (st1 := fun x4 => [.int x4]) (fun _ => rfl) (ok_X3_amount hQ c3 p1 v6 hp1) (fun x4 c5 => ?_)
        refine l1_many mt_X10_takeSymbol (pc' := bif am_cc .ge (((j_shl v3 1) ||| ((j_shr x1 ((c2.1 11 9) &&& 7)) &&& 1)) - v4) x4 then 114 else 102) (L' := [some (.ref 11), some (.ref p1), some (.int p2), some (.int ((j_shl v3 1) ||| ((j_shr x1 ((c2.1 11 9) &&& 7)) &&& 1))), some (.int v4), some (.int v5), some (.int v6), some (.int x4)]) (st' := []) 6 rfl ?_
        refine l1_bif rfl ?_ ?_
        · refine l1_many mt_X10_takeSymbol (pc' := 117) (L' := [some (.ref 11), some (.ref p1), some (.int p2), some (.int ((j_shl v3 1) ||| ((j_shr x1 ((c2.1 11 9) &&& 7)) &&& 1))), some (.int v4), some (.int v5), some (.int v6), some (.int x4)]) (st' := [.ref p1, .int v6]) 2 rfl ?_
          refine l1_callV hQ mt_X10_takeSymbol mt_X3_longest rfl rfl (o := p1) (ci := 2) (As := []) (rest := [.int v6]) rfl rfl hp1 rfl rfl rfl (st1 := fun x6 => [.int x6, .int v6]) (fun _ => rfl) (ok_X3_longest hQ c5 p1 hp1) (fun x6 c7 => ?_)
          refine l1_many mt_X10_takeSymbol (pc' := bif am_cc .lt v6 x6 then 126 else 123) (L' := [some (.ref 11), some (.ref p1), some (.int p2), some (.int ((j_shl v3 1) ||| ((j_shr x1 ((c2.1 11 9) &&& 7)) &&& 1))), some (.int v4), some (.int v5), some (.int v6), some (.int x4)]) (st' := []) 1 rfl ?_
          refine l1_bif rfl ?_ ?_
          · refine l1_many mt_X10_takeSymbol (pc' := 11) (L' := [some (.ref 11), some (.ref p1), some (.int p2), some (.int ((j_shl v3 1) ||| ((j_shr x1 ((c2.1 11 9) &&& 7)) &&& 1))), some (.int (j_shl (v4 + x4) 1)), some (.int (v5 + x4)), some (.int (v6 + 1)), some (.int x4)]) (st' := []) 12 rfl ?_
            refine l1_weak (m := [true, true, true, true, true, true, true, false]) (L' := [some (.ref 11), some (.ref p1), some (.int p2), some (.int ((j_shl v3 1) ||| ((j_shr x1 ((c2.1 11 9) &&& 7)) &&& 1))), some (.int (j_shl (v4 + x4) 1)), some (.int (v5 + x4)), some (.int (v6 + 1))]) rfl ?_
            exact ih c7 ((j_shl v3 1) ||| ((j_shr x1 ((c2.1 11 9) &&& 7)) &&& 1)) (j_shl (v4 + x4) 1) (v5 + x4) (v6 + 1)
          · refine l1_many mt_X10_takeSymbol (pc' := 148) (L' := [some (.ref 11), some (.ref p1), some (.int p2), some (.int ((j_shl v3 1) ||| ((j_shr x1 ((c2.1 11 9) &&& 7)) &&& 1))), some (.int v4), some (.int v5), some (.int v6), some (.int x4)]) (st' := []) 1 rfl ?_
            refine l1_weak (m := [true, false, true, false, false, false, false, false]) (L' := [some (.ref 11), none, some (.int p2)]) rfl ?_
            exact ok_X10_takeSymbol_148 hQ N p1 p2 hp1 c7
        · refine l1_many mt_X10_takeSymbol (pc' := 110) (L' := [some (.ref 11), some (.ref p1), some (.int p2), some (.int ((j_shl v3 1) ||| ((j_shr x1 ((c2.1 11 9) &&& 7)) &&& 1))), some (.int v4), some (.int v5), some (.int v6), some (.int x4)]) (st' := [.int ((v5 + ((j_shl v3 1) ||| ((j_shr x1 ((c2.1 11 9) &&& 7)) &&& 1))) - v4), .ref p1]) 6 rfl ?_
          refine l1_callV hQ mt_X10_takeSymbol mt_X3_symbol rfl rfl (o := p1) (ci := 2) (As := [.int ((v5 + ((j_shl v3 1) ||| ((j_shr x1 ((c2.1 11 9) &&& 7)) &&& 1))) - v4)]) (rest := []) rfl rfl hp1 rfl rfl rfl (st1 := fun x8 => [.int x8]) (fun _ => rfl) (ok_X3_symbol hQ c5 p1 ((v5 + ((j_shl v3 1) ||| ((j_shr x1 ((c2.1 11 9) &&& 7)) &&& 1))) - v4) hp1) (fun x8 c9 => ?_)
          exact l1_ret mt_X10_takeSymbol rfl rfl rfl
      · refine l1_many mt_X10_takeSymbol (pc' := 30) (L' := [some (.ref 11), some (.ref p1), some (.int p2), some (.int v3), some (.int v4), some (.int v5), some (.int v6)]) (st' := [.ref 11]) 1 rfl ?_
        refine l1_getR hQ mt_X10_takeSymbol rfl (o := 11) (ci := 9) (k := 2) (a := 0) (b := 1) rfl rfl rfl rfl rfl (q := 9) rfl ?_
        refine l1_many mt_X10_takeSymbol (pc' := 36) (L' := [some (.ref 11), some (.ref p1), some (.int p2), some (.int v3), some (.int v4), some (.int v5), some (.int v6)]) (st' := [.ref 11, .int 20, .ref 9]) 2 rfl ?_
        refine l1_getI hQ mt_X10_takeSymbol rfl (o := 11) (ci := 9) (k := 10) (a := 0) (b := 0) rfl rfl rfl rfl rfl ?_
        refine l1_many mt_X10_takeSymbol (pc' := 41) (L' := [some (.ref 11), some (.ref p1), some (.int p2), some (.int v3), some (.int v4), some (.int v5), some (.int v6)]) (st' := [.int (j_shr (c.1 11 10) 3), .int 20, .ref 9]) 2 rfl ?_
        refine l1_callV hQ mt_X10_takeSymbol mt_X6_tell rfl rfl (o := 9) (ci := 5) (As := [.int 20, .int (j_shr (c.1 11 10) 3)]) (rest := []) rfl rfl rfl rfl rfl rfl (st1 := fun x10 => [.int x10]) (fun _ => rfl) (ok_X6_tell hQ c 20 (j_shr (c.1 11 10) 3)) (fun x10 c11 => ?_)
        refine l1_many mt_X10_takeSymbol (pc' := 46) (L' := [some (.ref 11), some (.ref p1), some (.int p2), some (.int v3), some (.int v4), some (.int v5), some (.int v6)]) (st' := [.int (-1)]) 2 rfl ?_
        exact l1_ret mt_X10_takeSymbol rfl rfl rfl
set_option maxRecDepth 100000 in
theorem en_X10_takeSymbol {Q : hS → am_H → Prop} (hQ : l1_em kc Q) (N : Nat) (c : hS) (p1 : Nat) (p2 : Int32) (hp1 : kc p1 = 2) : l1_G (wN wI) Q am_i_X10_takeSymbol 0 [some (.ref 11), some (.ref p1), some (.int p2)] [] c (f_X10_takeSymbol N c p1 p2) := by
  rw [f_X10_takeSymbol]
  refine l1_many mt_X10_takeSymbol (pc' := 11) (L' := [some (.ref 11), some (.ref p1), some (.int p2), some (.int 0), some (.int 0), some (.int 0), some (.int 1)]) (st' := []) 8 rfl ?_
  exact ok_X10_takeSymbol_11 hQ N p1 p2 hp1 N c 0 0 0 1
theorem ok_X10_takeSymbol {Q : hS → am_H → Prop} (hQ : l1_em kc Q) (N : Nat) (c : hS) (p1 : Nat) (p2 : Int32) (hp1 : kc p1 = 2) : l1_T wI Q am_i_X10_takeSymbol [.ref 11, .ref p1, .int p2] c (f_X10_takeSymbol N c p1 p2) := l1_of (en_X10_takeSymbol hQ N c p1 p2 hp1) ⟨rfl, rfl, rfl, trivial⟩
set_option maxRecDepth 100000 in
theorem ok_X10_areLengths_88 {Q : hS → am_H → Prop} (hQ : l1_em kc Q) (N : Nat) : ∀ (c : hS), l1_G (wN wI) Q am_i_X10_areLengths 88 [some (.ref 11)] [] c (f_X10_areLengths_88 N c) := by
  intro c
  rw [f_X10_areLengths_88]
  refine l1_many mt_X10_areLengths (pc' := 89) (L' := [some (.ref 11)]) (st' := [.ref 11]) 1 rfl ?_
  refine l1_getR hQ mt_X10_areLengths rfl (o := 11) (ci := 9) (k := 6) (a := 0) (b := 1) rfl rfl rfl rfl rfl (q := 24) rfl ?_
  refine l1_many mt_X10_areLengths (pc' := 93) (L' := [some (.ref 11)]) (st' := [.ref 11, .ref 24]) 1 rfl ?_
  refine l1_getR hQ mt_X10_areLengths rfl (o := 11) (ci := 9) (k := 8) (a := 0) (b := 1) rfl rfl rfl rfl rfl (q := 32) rfl ?_
  refine l1_many mt_X10_areLengths (pc' := 97) (L' := [some (.ref 11)]) (st' := [.ref 11, .ref 32, .ref 24]) 1 rfl ?_
  refine l1_getI hQ mt_X10_areLengths rfl (o := 11) (ci := 9) (k := 13) (a := 0) (b := 0) rfl rfl rfl rfl rfl ?_
  refine l1_many mt_X10_areLengths (pc' := 101) (L' := [some (.ref 11)]) (st' := [.ref 11, .int (c.1 11 13), .ref 32, .ref 24]) 1 rfl ?_
  refine l1_getI hQ mt_X10_areLengths rfl (o := 11) (ci := 9) (k := 14) (a := 0) (b := 0) rfl rfl rfl rfl rfl ?_
  refine l1_many mt_X10_areLengths (pc' := 105) (L' := [some (.ref 11)]) (st' := [.ref 11, .int (c.1 11 14), .int (c.1 11 13), .ref 32, .ref 24]) 1 rfl ?_
  refine l1_getI hQ mt_X10_areLengths rfl (o := 11) (ci := 9) (k := 13) (a := 0) (b := 0) rfl rfl rfl rfl rfl ?_
  refine l1_many mt_X10_areLengths (pc' := 109) (L' := [some (.ref 11)]) (st' := [.int ((c.1 11 14) - (c.1 11 13)), .int (c.1 11 13), .ref 32, .ref 24]) 1 rfl ?_
  refine l1_callV hQ mt_X10_areLengths mt_X3_order rfl rfl (o := 24) (ci := 2) (As := [.ref 32, .int (c.1 11 13), .int ((c.1 11 14) - (c.1 11 13))]) (rest := []) rfl rfl rfl rfl rfl rfl (st1 := fun _ => []) (fun _ => rfl) (ok_X3_order hQ N c 24 (c.1 11 13) ((c.1 11 14) - (c.1 11 13)) rfl) (fun _ c1 => ?_)
  refine l1_many mt_X10_areLengths (pc' := 113) (L' := [some (.ref 11)]) (st' := [.ref 11]) 1 rfl ?_
  refine l1_getR hQ mt_X10_areLengths rfl (o := 11) (ci := 9) (k := 6) (a := 0) (b := 1) rfl rfl rfl rfl rfl (q := 24) rfl ?_
  refine l1_callV hQ mt_X10_areLengths mt_X3_areComplete rfl rfl (o := 24) (ci := 2) (As := []) (rest := []) rfl rfl rfl rfl rfl rfl (st1 := fun x2 => [.int x2]) (fun _ => rfl) (ok_X3_areComplete hQ N c1 24 rfl) (fun x2 c3 => ?_)
  refine l1_many mt_X10_areLengths (pc' := bif am_cc .ne x2 0 then 148 else 122) (L' := [some (.ref 11)]) (st' := []) 1 rfl ?_
  refine l1_bin rfl ?_ ?_
  · refine l1_many mt_X10_areLengths (pc' := 123) (L' := [some (.ref 11)]) (st' := [.ref 11]) 1 rfl ?_
    refine l1_getR hQ mt_X10_areLengths rfl (o := 11) (ci := 9) (k := 6) (a := 0) (b := 1) rfl rfl rfl rfl rfl (q := 24) rfl ?_
    refine l1_callV hQ mt_X10_areLengths mt_X3_areNoneOrOneBit rfl rfl (o := 24) (ci := 2) (As := []) (rest := []) rfl rfl rfl rfl rfl rfl (st1 := fun x4 => [.int x4]) (fun _ => rfl) (ok_X3_areNoneOrOneBit hQ c3 24 rfl) (fun x4 c5 => ?_)
    refine l1_many mt_X10_areLengths (pc' := bif am_cc .ne x4 0 then 148 else 132) (L' := [some (.ref 11)]) (st' := []) 1 rfl ?_
    refine l1_bin rfl ?_ ?_
    · refine l1_many mt_X10_areLengths (pc' := 133) (L' := [some (.ref 11)]) (st' := [.ref 11]) 1 rfl ?_
      refine l1_getR hQ mt_X10_areLengths rfl (o := 11) (ci := 9) (k := 2) (a := 0) (b := 1) rfl rfl rfl rfl rfl (q := 9) rfl ?_
      refine l1_many mt_X10_areLengths (pc' := 139) (L' := [some (.ref 11)]) (st' := [.ref 11, .int 24, .ref 9]) 2 rfl ?_
      refine l1_getI hQ mt_X10_areLengths rfl (o := 11) (ci := 9) (k := 12) (a := 0) (b := 0) rfl rfl rfl rfl rfl ?_
      refine l1_callV hQ mt_X10_areLengths mt_X6_tell rfl rfl (o := 9) (ci := 5) (As := [.int 24, .int (c5.1 11 12)]) (rest := []) rfl rfl rfl rfl rfl rfl (st1 := fun x6 => [.int x6]) (fun _ => rfl) (ok_X6_tell hQ c5 24 (c5.1 11 12)) (fun x6 c7 => ?_)
      refine l1_many mt_X10_areLengths (pc' := bif am_cc .eq x6 0 then 152 else 148) (L' := [some (.ref 11)]) (st' := []) 1 rfl ?_
      refine l1_bif rfl ?_ ?_
      · refine l1_many mt_X10_areLengths (pc' := 153) (L' := [some (.ref 11)]) (st' := [.int 0]) 1 rfl ?_
        exact l1_ret mt_X10_areLengths rfl rfl rfl
      · refine l1_many mt_X10_areLengths (pc' := 153) (L' := [some (.ref 11)]) (st' := [.int 1]) 2 rfl ?_
        exact l1_ret mt_X10_areLengths rfl rfl rfl
    · refine l1_many mt_X10_areLengths (pc' := 153) (L' := [some (.ref 11)]) (st' := [.int 1]) 2 rfl ?_
      exact l1_ret mt_X10_areLengths rfl rfl rfl
  · refine l1_many mt_X10_areLengths (pc' := 153) (L' := [some (.ref 11)]) (st' := [.int 1]) 2 rfl ?_
    exact l1_ret mt_X10_areLengths rfl rfl rfl
set_option maxRecDepth 100000 in
theorem ok_X10_areLengths_7 {Q : hS → am_H → Prop} (hQ : l1_em kc Q) (N : Nat) : ∀ n : Nat, ∀ (c : hS) (v1 : Int32), l1_G (wN wI) Q am_i_X10_areLengths 7 [some (.ref 11), some (.int v1)] [] c (f_X10_areLengths_7 N n c v1) := by
  intro n
  induction n with
  | zero => intro c v1; exact l1_none
  | succ n ih =>
    intro c v1
    rw [f_X10_areLengths_7]
    refine l1_many mt_X10_areLengths (pc' := 9) (L' := [some (.ref 11), some (.int v1)]) (st' := [.ref 11, .int v1]) 2 rfl ?_
    refine l1_getR hQ mt_X10_areLengths rfl (o := 11) (ci := 9) (k := 8) (a := 0) (b := 1) rfl rfl rfl rfl rfl (q := 32) rfl ?_
    refine l1_len hQ mt_X10_areLengths rfl (o := 32) (ci := 20) rfl rfl rfl ?_
    refine l1_many mt_X10_areLengths (pc' := bif am_cc .ge v1 (Int32.ofNat (ln 32)) then 88 else 16) (L' := [some (.ref 11), some (.int v1)]) (st' := []) 1 rfl ?_
    refine l1_bif rfl ?_ ?_
    · refine l1_weak (m := [true, false, false, false]) (L' := [some (.ref 11)]) rfl ?_
      exact ok_X10_areLengths_88 hQ N c
    · refine l1_many mt_X10_areLengths (pc' := 17) (L' := [some (.ref 11), some (.int v1)]) (st' := [.ref 11]) 1 rfl ?_
      refine l1_getI hQ mt_X10_areLengths rfl (o := 11) (ci := 9) (k := 15) (a := 0) (b := 0) rfl rfl rfl rfl rfl ?_
      refine l1_many mt_X10_areLengths (pc' := 21) (L' := [some (.ref 11), some (.int v1)]) (st' := [.ref 11, .int (c.1 11 15)]) 1 rfl ?_
      refine l1_getI hQ mt_X10_areLengths rfl (o := 11) (ci := 9) (k := 14) (a := 0) (b := 0) rfl rfl rfl rfl rfl ?_
      refine l1_many mt_X10_areLengths (pc' := bif am_cc .ge (c.1 11 15) (c.1 11 14) then 88 else 27) (L' := [some (.ref 11), some (.int v1)]) (st' := []) 1 rfl ?_
      refine l1_bif rfl ?_ ?_
      · refine l1_weak (m := [true, false, false, false]) (L' := [some (.ref 11)]) rfl ?_
        exact ok_X10_areLengths_88 hQ N c
      · refine l1_many mt_X10_areLengths (pc' := 28) (L' := [some (.ref 11), some (.int v1)]) (st' := [.ref 11]) 1 rfl ?_
        refine l1_getI hQ mt_X10_areLengths rfl (o := 11) (ci := 9) (k := 15) (a := 0) (b := 0) rfl rfl rfl rfl rfl ?_
        refine l1_many mt_X10_areLengths (pc' := 34) (L' := [some (.ref 11), some (.int v1), some (.int (c.1 11 15))]) (st' := [.ref 11, .ref 11]) 3 rfl ?_
        refine l1_getR hQ mt_X10_areLengths rfl (o := 11) (ci := 9) (k := 7) (a := 0) (b := 1) rfl rfl rfl rfl rfl (q := 28) rfl ?_
        refine l1_many mt_X10_areLengths (pc' := 38) (L' := [some (.ref 11), some (.int v1), some (.int (c.1 11 15))]) (st' := [.ref 11, .ref 28, .ref 11]) 1 rfl ?_
        refine l1_getI hQ mt_X10_areLengths rfl (o := 11) (ci := 9) (k := 12) (a := 0) (b := 0) rfl rfl rfl rfl rfl ?_
        refine l1_callV hQ mt_X10_areLengths mt_X10_takeSymbol rfl rfl (o := 11) (ci := 9) (As := [.ref 28, .int (c.1 11 12)]) (rest := []) rfl rfl rfl rfl rfl rfl (st1 := fun x1 => [.int x1]) (fun _ => rfl) (ok_X10_takeSymbol hQ N c 28 (c.1 11 12) rfl) (fun x1 c2 => ?_)
        refine l1_many mt_X10_areLengths (pc' := bif am_cc .eq x1 (-1) then 58 else 50) (L' := [some (.ref 11), some (.int v1), some (.int (c.1 11 15)), some (.int x1)]) (st' := []) 4 rfl ?_
        refine l1_bif rfl ?_ ?_
        · refine l1_many mt_X10_areLengths (pc' := 59) (L' := [some (.ref 11), some (.int v1), some (.int (c.1 11 15)), some (.int x1)]) (st' := [.int 0]) 1 rfl ?_
          exact l1_ret mt_X10_areLengths rfl rfl rfl
        · refine l1_many mt_X10_areLengths (pc' := 52) (L' := [some (.ref 11), some (.int v1), some (.int (c.1 11 15)), some (.int x1)]) (st' := [.int x1, .ref 11]) 2 rfl ?_
          refine l1_callV hQ mt_X10_areLengths mt_X10_isRepeated rfl rfl (o := 11) (ci := 9) (As := [.int x1]) (rest := []) rfl rfl rfl rfl rfl rfl (st1 := fun x3 => [.int x3]) (fun _ => rfl) (ok_X10_isRepeated hQ N c2 x1) (fun x3 c4 => ?_)
          refine l1_many mt_X10_areLengths (pc' := bif am_cc .ne x3 0 then 60 else 58) (L' := [some (.ref 11), some (.int v1), some (.int (c.1 11 15)), some (.int x1)]) (st' := []) 1 rfl ?_
          refine l1_bin rfl ?_ ?_
          · refine l1_many mt_X10_areLengths (pc' := 59) (L' := [some (.ref 11), some (.int v1), some (.int (c.1 11 15)), some (.int x1)]) (st' := [.int 0]) 1 rfl ?_
            exact l1_ret mt_X10_areLengths rfl rfl rfl
          · refine l1_many mt_X10_areLengths (pc' := 62) (L' := [some (.ref 11), some (.int v1), some (.int (c.1 11 15)), some (.int x1)]) (st' := [.int (c.1 11 15), .ref 11]) 2 rfl ?_
            refine l1_callV hQ mt_X10_areLengths mt_X10_areSymbolLengths rfl rfl (o := 11) (ci := 9) (As := [.int (c.1 11 15)]) (rest := []) rfl rfl rfl rfl rfl rfl (st1 := fun x5 => [.int x5]) (fun _ => rfl) (ok_X10_areSymbolLengths hQ N c4 (c.1 11 15)) (fun x5 c6 => ?_)
            refine l1_many mt_X10_areLengths (pc' := bif am_cc .ne x5 0 then 82 else 68) (L' := [some (.ref 11), some (.int v1), some (.int (c.1 11 15)), some (.int x1)]) (st' := []) 1 rfl ?_
            refine l1_bin rfl ?_ ?_
            · refine l1_many mt_X10_areLengths (pc' := 69) (L' := [some (.ref 11), some (.int v1), some (.int (c.1 11 15)), some (.int x1)]) (st' := [.ref 11]) 1 rfl ?_
              refine l1_getR hQ mt_X10_areLengths rfl (o := 11) (ci := 9) (k := 2) (a := 0) (b := 1) rfl rfl rfl rfl rfl (q := 9) rfl ?_
              refine l1_many mt_X10_areLengths (pc' := 75) (L' := [some (.ref 11), some (.int v1), some (.int (c.1 11 15)), some (.int x1)]) (st' := [.ref 11, .int 24, .ref 9]) 2 rfl ?_
              refine l1_getI hQ mt_X10_areLengths rfl (o := 11) (ci := 9) (k := 12) (a := 0) (b := 0) rfl rfl rfl rfl rfl ?_
              refine l1_callV hQ mt_X10_areLengths mt_X6_tell rfl rfl (o := 9) (ci := 5) (As := [.int 24, .int (c6.1 11 12)]) (rest := []) rfl rfl rfl rfl rfl rfl (st1 := fun x7 => [.int x7]) (fun _ => rfl) (ok_X6_tell hQ c6 24 (c6.1 11 12)) (fun x7 c8 => ?_)
              refine l1_ck (fun hz => ?_)
              exact l1_retZ mt_X10_areLengths rfl rfl rfl hz
            · refine l1_many mt_X10_areLengths (pc' := 7) (L' := [some (.ref 11), some (.int (v1 + 1)), some (.int (c.1 11 15)), some (.int x1)]) (st' := []) 2 rfl ?_
              refine l1_weak (m := [true, true, false, false]) (L' := [some (.ref 11), some (.int (v1 + 1))]) rfl ?_
              exact ih c6 (v1 + 1)
set_option maxRecDepth 100000 in
theorem en_X10_areLengths {Q : hS → am_H → Prop} (hQ : l1_em kc Q) (N : Nat) (c : hS) : l1_G (wN wI) Q am_i_X10_areLengths 0 [some (.ref 11)] [] c (f_X10_areLengths N c) := by
  rw [f_X10_areLengths]
  refine l1_many mt_X10_areLengths (pc' := 2) (L' := [some (.ref 11)]) (st' := [.int 0, .ref 11]) 2 rfl ?_
  refine l1_putI hQ mt_X10_areLengths rfl (o := 11) (ci := 9) (k := 15) (a := 0) rfl rfl rfl rfl rfl rfl (fun c1 => ?_)
  refine l1_many mt_X10_areLengths (pc' := 7) (L' := [some (.ref 11), some (.int 0)]) (st' := []) 2 rfl ?_
  exact ok_X10_areLengths_7 hQ N N c1 0
theorem ok_X10_areLengths {Q : hS → am_H → Prop} (hQ : l1_em kc Q) (N : Nat) (c : hS) : l1_T wI Q am_i_X10_areLengths [.ref 11] c (f_X10_areLengths N c) := l1_of (en_X10_areLengths hQ N c) ⟨rfl, trivial⟩
set_option maxRecDepth 100000 in
theorem en_X11_distanceBits {Q : hS → am_H → Prop} (hQ : l1_em kc Q) (c : hS) (p0 : Int32) : l1_G (wN wI) Q am_i_X11_distanceBits 0 [some (.int p0)] [] c (f_X11_distanceBits c p0) := by
  rw [f_X11_distanceBits]
  refine l1_many mt_X11_distanceBits (pc' := bif am_cc .ge p0 4 then 9 else 5) (L' := [some (.int p0)]) (st' := []) 3 rfl ?_
  refine l1_bif rfl ?_ ?_
  · refine l1_many mt_X11_distanceBits (pc' := 14) (L' := [some (.int p0)]) (st' := [.int (j_shr (p0 - 2) 1)]) 5 rfl ?_
    exact l1_ret mt_X11_distanceBits rfl rfl rfl
  · refine l1_many mt_X11_distanceBits (pc' := 14) (L' := [some (.int p0)]) (st' := [.int 0]) 2 rfl ?_
    exact l1_ret mt_X11_distanceBits rfl rfl rfl
theorem ok_X11_distanceBits {Q : hS → am_H → Prop} (hQ : l1_em kc Q) (c : hS) (p0 : Int32) : l1_T wI Q am_i_X11_distanceBits [.int p0] c (f_X11_distanceBits c p0) := l1_of (en_X11_distanceBits hQ c p0) ⟨rfl, trivial⟩
set_option maxRecDepth 100000 in
theorem en_X11_distanceBase {Q : hS → am_H → Prop} (hQ : l1_em kc Q) (c : hS) (p0 : Int32) : l1_G (wN wI) Q am_i_X11_distanceBase 0 [some (.int p0)] [] c (f_X11_distanceBase c p0) := by
  rw [f_X11_distanceBase]
  refine l1_many mt_X11_distanceBase (pc' := bif am_cc .ge p0 4 then 11 else 5) (L' := [some (.int p0)]) (st' := []) 3 rfl ?_
  refine l1_bif rfl ?_ ?_
  · refine l1_many mt_X11_distanceBase (pc' := 17) (L' := [some (.int p0)]) (st' := [.int p0, .int (2 + (p0 &&& 1))]) 6 rfl ?_
    refine l1_callS mt_X11_distanceBase mt_X11_distanceBits rfl rfl (As := [.int p0]) (rest := [.int (2 + (p0 &&& 1))]) rfl rfl rfl (st1 := fun x1 => [.int x1, .int (2 + (p0 &&& 1))]) (fun _ => rfl) (ok_X11_distanceBits hQ c p0) (fun x1 c2 => ?_)
    refine l1_many mt_X11_distanceBase (pc' := 23) (L' := [some (.int p0)]) (st' := [.int ((j_shl (2 + (p0 &&& 1)) x1) + 1)]) 3 rfl ?_
    exact l1_ret mt_X11_distanceBase rfl rfl rfl
  · refine l1_many mt_X11_distanceBase (pc' := 23) (L' := [some (.int p0)]) (st' := [.int (1 + p0)]) 4 rfl ?_
    exact l1_ret mt_X11_distanceBase rfl rfl rfl
theorem ok_X11_distanceBase {Q : hS → am_H → Prop} (hQ : l1_em kc Q) (c : hS) (p0 : Int32) : l1_T wI Q am_i_X11_distanceBase [.int p0] c (f_X11_distanceBase c p0) := l1_of (en_X11_distanceBase hQ c p0) ⟨rfl, trivial⟩
set_option maxRecDepth 100000 in
theorem en_X11_lengthBits {Q : hS → am_H → Prop} (hQ : l1_em kc Q) (c : hS) (p0 : Int32) : l1_G (wN wI) Q am_i_X11_lengthBits 0 [some (.int p0)] [] c (f_X11_lengthBits c p0) := by
  rw [f_X11_lengthBits]
  refine l1_many mt_X11_lengthBits (pc' := bif am_cc .lt p0 8 then 12 else 6) (L' := [some (.int p0)]) (st' := []) 3 rfl ?_
  refine l1_bif rfl ?_ ?_
  · refine l1_many mt_X11_lengthBits (pc' := 21) (L' := [some (.int p0)]) (st' := [.int 0]) 2 rfl ?_
    exact l1_ret mt_X11_lengthBits rfl rfl rfl
  · refine l1_many mt_X11_lengthBits (pc' := bif am_cc .ne p0 28 then 16 else 12) (L' := [some (.int p0)]) (st' := []) 3 rfl ?_
    refine l1_bin rfl ?_ ?_
    · refine l1_many mt_X11_lengthBits (pc' := 21) (L' := [some (.int p0)]) (st' := [.int 0]) 2 rfl ?_
      exact l1_ret mt_X11_lengthBits rfl rfl rfl
    · refine l1_many mt_X11_lengthBits (pc' := 21) (L' := [some (.int p0)]) (st' := [.int (j_shr (p0 - 4) 2)]) 5 rfl ?_
      exact l1_ret mt_X11_lengthBits rfl rfl rfl
theorem ok_X11_lengthBits {Q : hS → am_H → Prop} (hQ : l1_em kc Q) (c : hS) (p0 : Int32) : l1_T wI Q am_i_X11_lengthBits [.int p0] c (f_X11_lengthBits c p0) := l1_of (en_X11_lengthBits hQ c p0) ⟨rfl, trivial⟩
set_option maxRecDepth 100000 in
theorem en_X11_lengthBase {Q : hS → am_H → Prop} (hQ : l1_em kc Q) (c : hS) (p0 : Int32) : l1_G (wN wI) Q am_i_X11_lengthBase 0 [some (.int p0)] [] c (f_X11_lengthBase c p0) := by
  rw [f_X11_lengthBase]
  refine l1_many mt_X11_lengthBase (pc' := bif am_cc .ne p0 28 then 10 else 6) (L' := [some (.int p0)]) (st' := []) 3 rfl ?_
  refine l1_bin rfl ?_ ?_
  · refine l1_many mt_X11_lengthBase (pc' := 9) (L' := [some (.int p0)]) (st' := [.int 258]) 1 rfl ?_
    exact l1_ret mt_X11_lengthBase rfl rfl rfl
  · refine l1_many mt_X11_lengthBase (pc' := bif am_cc .ge p0 8 then 22 else 16) (L' := [some (.int p0)]) (st' := []) 3 rfl ?_
    refine l1_bif rfl ?_ ?_
    · refine l1_many mt_X11_lengthBase (pc' := 28) (L' := [some (.int p0)]) (st' := [.int p0, .int (4 + (p0 &&& 3))]) 6 rfl ?_
      refine l1_callS mt_X11_lengthBase mt_X11_lengthBits rfl rfl (As := [.int p0]) (rest := [.int (4 + (p0 &&& 3))]) rfl rfl rfl (st1 := fun x1 => [.int x1, .int (4 + (p0 &&& 3))]) (fun _ => rfl) (ok_X11_lengthBits hQ c p0) (fun x1 c2 => ?_)
      refine l1_many mt_X11_lengthBase (pc' := 34) (L' := [some (.int p0)]) (st' := [.int ((j_shl (4 + (p0 &&& 3)) x1) + 3)]) 3 rfl ?_
      exact l1_ret mt_X11_lengthBase rfl rfl rfl
    · refine l1_many mt_X11_lengthBase (pc' := 34) (L' := [some (.int p0)]) (st' := [.int (3 + p0)]) 4 rfl ?_
      exact l1_ret mt_X11_lengthBase rfl rfl rfl
theorem ok_X11_lengthBase {Q : hS → am_H → Prop} (hQ : l1_em kc Q) (c : hS) (p0 : Int32) : l1_T wI Q am_i_X11_lengthBase [.int p0] c (f_X11_lengthBase c p0) := l1_of (en_X11_lengthBase hQ c p0) ⟨rfl, trivial⟩
