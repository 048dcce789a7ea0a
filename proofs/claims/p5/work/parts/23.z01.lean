/-! THAT THE MACHINE FOLLOWS THEM, printed by gen_l1.py -/
set_option maxRecDepth 100000 in
theorem ok_X9_drop_54 {Q : hS → am_H → Prop} (hQ : l1_em kc Q) (N : Nat) (s : Nat) (p1 : Int32) (hs : kc s = 8) : ∀ (c : hS) (v2 : Nat) (hv2 : kc v2 = 6), l1_G (wN wV) Q am_i_X9_drop 54 [some (.ref s), none, some (.ref v2)] [] c (f_X9_drop_54 N s p1 c v2) := by
  intro c v2 hv2
  rw [f_X9_drop_54]
  refine l1_many mt_X9_drop (pc' := 56) (L' := [some (.ref s), none, some (.ref v2)]) (st' := [.ref s, .ref s]) 2 rfl ?_
  refine l1_getI hQ mt_X9_drop rfl (o := s) (ci := 8) (k := 1) (a := 0) (b := 0) hs rfl rfl rfl rfl ?_
  refine l1_many mt_X9_drop (pc' := 61) (L' := [some (.ref s), none, some (.ref v2)]) (st' := [.int ((c.1 s 1) - 1), .ref s]) 2 rfl ?_
  refine l1_putI hQ mt_X9_drop rfl (o := s) (ci := 8) (k := 1) (a := 0) hs rfl rfl rfl rfl rfl (fun c1 => ?_)
  refine l1_many mt_X9_drop (pc' := 65) (L' := [some (.ref s), none, some (.ref v2)]) (st' := [.ref s]) 1 rfl ?_
  refine l1_getI hQ mt_X9_drop rfl (o := s) (ci := 8) (k := 1) (a := 0) (b := 0) hs rfl rfl rfl rfl ?_
  refine l1_many mt_X9_drop (pc' := bif am_cc .lt (c1.1 s 1) 0 then 93 else 71) (L' := [some (.ref s), none, some (.ref v2)]) (st' := []) 1 rfl ?_
  refine l1_bif rfl ?_ ?_
  · exact l1_ret mt_X9_drop rfl rfl rfl
  · refine l1_many mt_X9_drop (pc' := 72) (L' := [some (.ref s), none, some (.ref v2)]) (st' := [.ref s]) 1 rfl ?_
    refine l1_getI hQ mt_X9_drop rfl (o := s) (ci := 8) (k := 1) (a := 0) (b := 0) hs rfl rfl rfl rfl ?_
    refine l1_many mt_X9_drop (pc' := 76) (L' := [some (.ref s), none, some (.ref v2)]) (st' := [.ref s, .int (c1.1 s 1)]) 1 rfl ?_
    refine l1_getR hQ mt_X9_drop rfl (o := s) (ci := 8) (k := 0) (a := 0) (b := 1) hs rfl rfl rfl rfl (q := (s + 1)) rfl ?_
    refine l1_len hQ mt_X9_drop rfl (o := (s + 1)) (ci := 24) (kc8_0 hs) rfl rfl ?_
    refine l1_many mt_X9_drop (pc' := bif am_cc .ge (c1.1 s 1) (Int32.ofNat (ln (s + 1))) then 93 else 83) (L' := [some (.ref s), none, some (.ref v2)]) (st' := []) 1 rfl ?_
    refine l1_bif rfl ?_ ?_
    · exact l1_ret mt_X9_drop rfl rfl rfl
    · refine l1_many mt_X9_drop (pc' := 84) (L' := [some (.ref s), none, some (.ref v2)]) (st' := [.ref s]) 1 rfl ?_
      refine l1_getR hQ mt_X9_drop rfl (o := s) (ci := 8) (k := 0) (a := 0) (b := 1) hs rfl rfl rfl rfl (q := (s + 1)) rfl ?_
      refine l1_many mt_X9_drop (pc' := 88) (L' := [some (.ref s), none, some (.ref v2)]) (st' := [.ref s, .ref (s + 1)]) 1 rfl ?_
      refine l1_getI hQ mt_X9_drop rfl (o := s) (ci := 8) (k := 1) (a := 0) (b := 0) hs rfl rfl rfl rfl ?_
      refine l1_many mt_X9_drop (pc' := 92) (L' := [some (.ref s), none, some (.ref v2)]) (st' := [.ref v2, .int (c1.1 s 1), .ref (s + 1)]) 1 rfl ?_
      refine l1_ck (fun hx => ?_)
      refine l1_aast hQ mt_X9_drop rfl (o := (s + 1)) (kc8_0 hs) hv2 hx (fun c2 => ?_)
      exact l1_ret mt_X9_drop rfl rfl rfl
set_option maxRecDepth 100000 in
theorem ok_X9_drop_13 {Q : hS → am_H → Prop} (hQ : l1_em kc Q) (N : Nat) (s : Nat) (p1 : Int32) (hs : kc s = 8) : ∀ n : Nat, ∀ (c : hS) (v2 : Nat) (v3 : Int32) (hv2 : kc v2 = 6), l1_G (wN wV) Q am_i_X9_drop 13 [some (.ref s), none, some (.ref v2), some (.int v3)] [] c (f_X9_drop_13 N s p1 n c v2 v3) := by
  intro n
  induction n with
  | zero => intro c v2 v3 hv2; exact l1_none
  | succ n ih =>
    intro c v2 v3 hv2
    rw [f_X9_drop_13]
    refine l1_many mt_X9_drop (pc' := 17) (L' := [some (.ref s), none, some (.ref v2), some (.int v3)]) (st' := [.ref s, .int (v3 + 1)]) 4 rfl ?_
    refine l1_getI hQ mt_X9_drop rfl (o := s) (ci := 8) (k := 1) (a := 0) (b := 0) hs rfl rfl rfl rfl ?_
    refine l1_many mt_X9_drop (pc' := bif am_cc .ge (v3 + 1) (c.1 s 1) then 54 else 23) (L' := [some (.ref s), none, some (.ref v2), some (.int v3)]) (st' := []) 1 rfl ?_
    refine l1_bif rfl ?_ ?_
    · refine l1_weak (m := [true, false, true, false]) (L' := [some (.ref s), none, some (.ref v2)]) rfl ?_
      exact ok_X9_drop_54 hQ N s p1 hs c v2 hv2
    · refine l1_many mt_X9_drop (pc' := 27) (L' := [some (.ref s), none, some (.ref v2), some (.int v3)]) (st' := [.ref s, .int (v3 + 1)]) 4 rfl ?_
      refine l1_getR hQ mt_X9_drop rfl (o := s) (ci := 8) (k := 0) (a := 0) (b := 1) hs rfl rfl rfl rfl (q := (s + 1)) rfl ?_
      refine l1_len hQ mt_X9_drop rfl (o := (s + 1)) (ci := 24) (kc8_0 hs) rfl rfl ?_
      refine l1_many mt_X9_drop (pc' := bif am_cc .ge (v3 + 1) (Int32.ofNat (ln (s + 1))) then 54 else 34) (L' := [some (.ref s), none, some (.ref v2), some (.int v3)]) (st' := []) 1 rfl ?_
      refine l1_bif rfl ?_ ?_
      · refine l1_weak (m := [true, false, true, false]) (L' := [some (.ref s), none, some (.ref v2)]) rfl ?_
        exact ok_X9_drop_54 hQ N s p1 hs c v2 hv2
      · refine l1_many mt_X9_drop (pc' := 35) (L' := [some (.ref s), none, some (.ref v2), some (.int v3)]) (st' := [.ref s]) 1 rfl ?_
        refine l1_getR hQ mt_X9_drop rfl (o := s) (ci := 8) (k := 0) (a := 0) (b := 1) hs rfl rfl rfl rfl (q := (s + 1)) rfl ?_
        refine l1_many mt_X9_drop (pc' := 40) (L' := [some (.ref s), none, some (.ref v2), some (.int v3)]) (st' := [.ref s, .int v3, .ref (s + 1)]) 2 rfl ?_
        refine l1_getR hQ mt_X9_drop rfl (o := s) (ci := 8) (k := 0) (a := 0) (b := 1) hs rfl rfl rfl rfl (q := (s + 1)) rfl ?_
        refine l1_many mt_X9_drop (pc' := 46) (L' := [some (.ref s), none, some (.ref v2), some (.int v3)]) (st' := [.int (v3 + 1), .ref (s + 1), .int v3, .ref (s + 1)]) 3 rfl ?_
        refine l1_ck (fun hx => ?_)
        refine l1_aald hQ mt_X9_drop rfl (o := (s + 1)) (kc8_0 hs) hx (fun hx1 => ?_)
        refine l1_ck (fun hx => ?_)
        refine l1_aast hQ mt_X9_drop rfl (o := (s + 1)) (kc8_0 hs) hx1 hx (fun c2 => ?_)
        refine l1_many mt_X9_drop (pc' := 13) (L' := [some (.ref s), none, some (.ref v2), some (.int (v3 + 1))]) (st' := []) 2 rfl ?_
        exact ih c2 v2 (v3 + 1) hv2
set_option maxRecDepth 100000 in
theorem en_X9_drop {Q : hS → am_H → Prop} (hQ : l1_em kc Q) (N : Nat) (c : hS) (s : Nat) (p1 : Int32) (hs : kc s = 8) : l1_G (wN wV) Q am_i_X9_drop 0 [some (.ref s), some (.int p1)] [] c (f_X9_drop N c s p1) := by
  rw [f_X9_drop]
  refine l1_many mt_X9_drop (pc' := 2) (L' := [some (.ref s), some (.int p1)]) (st' := [.int p1, .ref s]) 2 rfl ?_
  refine l1_callV hQ mt_X9_drop mt_X9_member rfl rfl (o := s) (ci := 8) (As := [.int p1]) (rest := []) rfl rfl hs rfl rfl rfl (st1 := fun x1 => l1_mv x1 :: []) (fun _ => rfl) (ok_X9_member hQ c s p1 hs) (fun x1 c2 => ?_)
  refine l1_opt (x := x1) ?_ (fun y3 => ?_)
  · refine l1_many mt_X9_drop (pc' := 10) (L' := [some (.ref s), some (.int p1), some (.null)]) (st' := []) 3 rfl ?_
    exact l1_ret mt_X9_drop rfl rfl rfl
  · refine l1_ck (fun hy => ?_)
    have hy3 : kc y3 = 6 := Nat.eq_of_beq_eq_true hy
    refine l1_many mt_X9_drop (pc' := 13) (L' := [some (.ref s), some (.int p1), some (.ref y3), some (.int p1)]) (st' := []) 5 rfl ?_
    refine l1_weak (m := [true, false, true, true]) (L' := [some (.ref s), none, some (.ref y3), some (.int p1)]) rfl ?_
    exact ok_X9_drop_13 hQ N s p1 hs N c2 y3 p1 hy3
theorem ok_X9_drop {Q : hS → am_H → Prop} (hQ : l1_em kc Q) (N : Nat) (c : hS) (s : Nat) (p1 : Int32) (hs : kc s = 8) : l1_T wV Q am_i_X9_drop [.ref s, .int p1] c (f_X9_drop N c s p1) := l1_of (en_X9_drop hQ N c s p1 hs) ⟨rfl, rfl, trivial⟩
set_option maxRecDepth 100000 in
theorem en_X9_take {Q : hS → am_H → Prop} (hQ : l1_em kc Q) (N : Nat) (c : hS) (s : Nat) (p1 : Nat) (p2 : Int32) (p3 : Nat) (p4 : Int32) (p5 : Int32) (hs : kc s = 8) (hp1 : kc p1 = 1) (hp3 : kc p3 = 1) : l1_G (wN wV) Q am_i_X9_take 0 [some (.ref s), some (.ref p1), some (.int p2), some (.ref p3), some (.int p4), some (.int p5)] [] c (f_X9_take N c s p1 p2 p3 p4 p5) := by
  rw [f_X9_take]
  refine l1_many mt_X9_take (pc' := 3) (L' := [some (.ref s), some (.ref p1), some (.int p2), some (.ref p3), some (.int p4), some (.int p5)]) (st' := [.ref p1, .ref s, .ref s]) 3 rfl ?_
  refine l1_callV hQ mt_X9_take mt_X9_find rfl rfl (o := s) (ci := 8) (As := [.ref p1]) (rest := [.ref s]) rfl rfl hs rfl rfl rfl (st1 := fun x1 => [.int x1, .ref s]) (fun _ => rfl) (ok_X9_find hQ N c s p1 hs hp1) (fun x1 c2 => ?_)
  refine l1_callV hQ mt_X9_take mt_X9_drop rfl rfl (o := s) (ci := 8) (As := [.int x1]) (rest := []) rfl rfl hs rfl rfl rfl (st1 := fun _ => []) (fun _ => rfl) (ok_X9_drop hQ N c2 s x1 hs) (fun _ c3 => ?_)
  refine l1_many mt_X9_take (pc' := 10) (L' := [some (.ref s), some (.ref p1), some (.int p2), some (.ref p3), some (.int p4), some (.int p5)]) (st' := [.ref s]) 1 rfl ?_
  refine l1_getI hQ mt_X9_take rfl (o := s) (ci := 8) (k := 1) (a := 0) (b := 0) hs rfl rfl rfl rfl ?_
  refine l1_many mt_X9_take (pc' := bif am_cc .lt (c3.1 s 1) 0 then 28 else 16) (L' := [some (.ref s), some (.ref p1), some (.int p2), some (.ref p3), some (.int p4), some (.int p5)]) (st' := []) 1 rfl ?_
  refine l1_bif rfl ?_ ?_
  · exact l1_ret mt_X9_take rfl rfl rfl
  · refine l1_many mt_X9_take (pc' := 17) (L' := [some (.ref s), some (.ref p1), some (.int p2), some (.ref p3), some (.int p4), some (.int p5)]) (st' := [.ref s]) 1 rfl ?_
    refine l1_getI hQ mt_X9_take rfl (o := s) (ci := 8) (k := 1) (a := 0) (b := 0) hs rfl rfl rfl rfl ?_
    refine l1_many mt_X9_take (pc' := 21) (L' := [some (.ref s), some (.ref p1), some (.int p2), some (.ref p3), some (.int p4), some (.int p5)]) (st' := [.ref s, .int (c3.1 s 1)]) 1 rfl ?_
    refine l1_getR hQ mt_X9_take rfl (o := s) (ci := 8) (k := 0) (a := 0) (b := 1) hs rfl rfl rfl rfl (q := (s + 1)) rfl ?_
    refine l1_len hQ mt_X9_take rfl (o := (s + 1)) (ci := 24) (kc8_0 hs) rfl rfl ?_
    refine l1_many mt_X9_take (pc' := bif am_cc .lt (c3.1 s 1) (Int32.ofNat (ln (s + 1))) then 29 else 28) (L' := [some (.ref s), some (.ref p1), some (.int p2), some (.ref p3), some (.int p4), some (.int p5)]) (st' := []) 1 rfl ?_
    refine l1_bif rfl ?_ ?_
    · refine l1_many mt_X9_take (pc' := 31) (L' := [some (.ref s), some (.ref p1), some (.int p2), some (.ref p3), some (.int p4), some (.int p5)]) (st' := [.ref s, .ref s]) 2 rfl ?_
      refine l1_getI hQ mt_X9_take rfl (o := s) (ci := 8) (k := 1) (a := 0) (b := 0) hs rfl rfl rfl rfl ?_
      refine l1_many mt_X9_take (pc' := 36) (L' := [some (.ref s), some (.ref p1), some (.int p2), some (.ref p3), some (.int p4), some (.int p5)]) (st' := [.int ((c3.1 s 1) + 1), .ref s]) 2 rfl ?_
      refine l1_putI hQ mt_X9_take rfl (o := s) (ci := 8) (k := 1) (a := 0) hs rfl rfl rfl rfl rfl (fun c4 => ?_)
      refine l1_many mt_X9_take (pc' := 41) (L' := [some (.ref s), some (.ref p1), some (.int p2), some (.ref p3), some (.int p4), some (.int p5)]) (st' := [.ref s, .ref s]) 2 rfl ?_
      refine l1_getI hQ mt_X9_take rfl (o := s) (ci := 8) (k := 1) (a := 0) (b := 0) hs rfl rfl rfl rfl ?_
      refine l1_many mt_X9_take (pc' := 46) (L' := [some (.ref s), some (.ref p1), some (.int p2), some (.ref p3), some (.int p4), some (.int p5)]) (st' := [.int ((c4.1 s 1) - 1), .ref s]) 2 rfl ?_
      refine l1_callV hQ mt_X9_take mt_X9_member rfl rfl (o := s) (ci := 8) (As := [.int ((c4.1 s 1) - 1)]) (rest := []) rfl rfl hs rfl rfl rfl (st1 := fun x5 => l1_mv x5 :: []) (fun _ => rfl) (ok_X9_member hQ c4 s ((c4.1 s 1) - 1) hs) (fun x5 c6 => ?_)
      refine l1_opt (x := x5) ?_ (fun y7 => ?_)
      · refine l1_many mt_X9_take (pc' := 107) (L' := [some (.ref s), some (.ref p1), some (.int p2), some (.ref p3), some (.int p4), some (.int p5), some (.null)]) (st' := []) 3 rfl ?_
        exact l1_ret mt_X9_take rfl rfl rfl
      · refine l1_ck (fun hy => ?_)
        have hy7 : kc y7 = 6 := Nat.eq_of_beq_eq_true hy
        refine l1_many mt_X9_take (pc' := 58) (L' := [some (.ref s), some (.ref p1), some (.int p2), some (.ref p3), some (.int p4), some (.int p5), some (.ref y7)]) (st' := [.ref y7]) 4 rfl ?_
        refine l1_getR hQ mt_X9_take rfl (o := y7) (ci := 6) (k := 0) (a := 2) (b := 2) hy7 rfl rfl rfl rfl (q := (y7 + 1)) rfl ?_
        refine l1_many mt_X9_take (pc' := 62) (L' := [some (.ref s), some (.ref p1), some (.int p2), some (.ref p3), some (.int p4), some (.int p5), some (.ref y7)]) (st' := [.int 0, .ref (y7 + 1)]) 1 rfl ?_
        refine l1_callV hQ mt_X9_take mt_X2_cutTo rfl rfl (o := (y7 + 1)) (ci := 1) (As := [.int 0]) (rest := []) rfl rfl (kc6_0 hy7) rfl rfl rfl (st1 := fun _ => []) (fun _ => rfl) (ok_X2_cutTo hQ c6 (y7 + 1) 0 (kc6_0 hy7)) (fun _ c8 => ?_)
        refine l1_many mt_X9_take (pc' := 67) (L' := [some (.ref s), some (.ref p1), some (.int p2), some (.ref p3), some (.int p4), some (.int p5), some (.ref y7)]) (st' := [.ref y7]) 1 rfl ?_
        refine l1_getR hQ mt_X9_take rfl (o := y7) (ci := 6) (k := 0) (a := 2) (b := 2) hy7 rfl rfl rfl rfl (q := (y7 + 1)) rfl ?_
        refine l1_many mt_X9_take (pc' := 73) (L' := [some (.ref s), some (.ref p1), some (.int p2), some (.ref p3), some (.int p4), some (.int p5), some (.ref y7)]) (st' := [.ref p1, .int 0, .ref p1, .ref (y7 + 1)]) 3 rfl ?_
        refine l1_callV hQ mt_X9_take mt_X2_size rfl rfl (o := p1) (ci := 1) (As := []) (rest := [.int 0, .ref p1, .ref (y7 + 1)]) rfl rfl hp1 rfl rfl rfl (st1 := fun x9 => [.int x9, .int 0, .ref p1, .ref (y7 + 1)]) (fun _ => rfl) (ok_X2_size hQ c8 p1 hp1) (fun x9 c10 => ?_)
        refine l1_callV hQ mt_X9_take mt_X2_addRow rfl rfl (o := (y7 + 1)) (ci := 1) (As := [.ref p1, .int 0, .int x9]) (rest := []) rfl rfl (kc6_0 hy7) rfl rfl rfl (st1 := fun _ => []) (fun _ => rfl) (ok_X2_addRow hQ N c10 (y7 + 1) p1 0 x9 (kc6_0 hy7) hp1) (fun _ c11 => ?_)
        refine l1_many mt_X9_take (pc' := 81) (L' := [some (.ref s), some (.ref p1), some (.int p2), some (.ref p3), some (.int p4), some (.int p5), some (.ref y7)]) (st' := [.ref y7]) 1 rfl ?_
        refine l1_getR hQ mt_X9_take rfl (o := y7) (ci := 6) (k := 1) (a := 2) (b := 2) hy7 rfl rfl rfl rfl (q := (y7 + 3)) rfl ?_
        refine l1_many mt_X9_take (pc' := 85) (L' := [some (.ref s), some (.ref p1), some (.int p2), some (.ref p3), some (.int p4), some (.int p5), some (.ref y7)]) (st' := [.int 0, .ref (y7 + 3)]) 1 rfl ?_
        refine l1_callV hQ mt_X9_take mt_X2_cutTo rfl rfl (o := (y7 + 3)) (ci := 1) (As := [.int 0]) (rest := []) rfl rfl (kc6_1 hy7) rfl rfl rfl (st1 := fun _ => []) (fun _ => rfl) (ok_X2_cutTo hQ c11 (y7 + 3) 0 (kc6_1 hy7)) (fun _ c12 => ?_)
        refine l1_many mt_X9_take (pc' := 90) (L' := [some (.ref s), some (.ref p1), some (.int p2), some (.ref p3), some (.int p4), some (.int p5), some (.ref y7)]) (st' := [.ref y7]) 1 rfl ?_
        refine l1_getR hQ mt_X9_take rfl (o := y7) (ci := 6) (k := 1) (a := 2) (b := 2) hy7 rfl rfl rfl rfl (q := (y7 + 3)) rfl ?_
        refine l1_many mt_X9_take (pc' := 98) (L' := [some (.ref s), some (.ref p1), some (.int p2), some (.ref p3), some (.int p4), some (.int p5), some (.ref y7)]) (st' := [.int p5, .int p4, .ref p3, .ref (y7 + 3)]) 3 rfl ?_
        refine l1_callV hQ mt_X9_take mt_X2_addRow rfl rfl (o := (y7 + 3)) (ci := 1) (As := [.ref p3, .int p4, .int p5]) (rest := []) rfl rfl (kc6_1 hy7) rfl rfl rfl (st1 := fun _ => []) (fun _ => rfl) (ok_X2_addRow hQ N c12 (y7 + 3) p3 p4 p5 (kc6_1 hy7) hp3) (fun _ c13 => ?_)
        refine l1_many mt_X9_take (pc' := 104) (L' := [some (.ref s), some (.ref p1), some (.int p2), some (.ref p3), some (.int p4), some (.int p5), some (.ref y7)]) (st' := [.int p2, .ref y7]) 2 rfl ?_
        refine l1_ck (fun hz => ?_)
        refine l1_putI hQ mt_X9_take rfl (o := y7) (ci := 6) (k := 2) (a := 2) hy7 rfl rfl rfl rfl (l1_fz (ci := 6) (j := 2) rfl hz) (fun c14 => ?_)
        exact l1_ret mt_X9_take rfl rfl rfl
    · exact l1_ret mt_X9_take rfl rfl rfl
theorem ok_X9_take {Q : hS → am_H → Prop} (hQ : l1_em kc Q) (N : Nat) (c : hS) (s : Nat) (p1 : Nat) (p2 : Int32) (p3 : Nat) (p4 : Int32) (p5 : Int32) (hs : kc s = 8) (hp1 : kc p1 = 1) (hp3 : kc p3 = 1) : l1_T wV Q am_i_X9_take [.ref s, .ref p1, .int p2, .ref p3, .int p4, .int p5] c (f_X9_take N c s p1 p2 p3 p4 p5) := l1_of (en_X9_take hQ N c s p1 p2 p3 p4 p5 hs hp1 hp3) ⟨rfl, rfl, rfl, rfl, rfl, rfl, trivial⟩
set_option maxRecDepth 100000 in
theorem ok_X0_arrives_34_23 {Q : hS → am_H → Prop} (hQ : l1_em kc Q) (N : Nat) (p1 : Nat) (p2 : Int32) (p3 : Nat) (p4 : Int32) (p5 : Int32) (p6 : Int32) (hp1 : kc p1 = 8) (hp3 : kc p3 = 1) : ∀ (c : hS), l1_G (wN wI) Q am_i_X0_arrives 23 [some (.ref 34), none, none, none, none, none, some (.int p6)] [] c (f_X0_arrives_23 N p1 p2 p3 p4 p5 p6 c) := by
  intro c
  rw [f_X0_arrives_23]
  refine l1_many mt_X0_arrives (pc' := 24) (L' := [some (.ref 34), none, none, none, none, none, some (.int p6)]) (st' := [.ref 34]) 1 rfl ?_
  refine l1_getR hQ mt_X0_arrives rfl (o := 34) (ci := 0) (k := 2) (a := 0) (b := 1) rfl rfl rfl rfl rfl (q := 9) rfl ?_
  refine l1_many mt_X0_arrives (pc' := 31) (L' := [some (.ref 34), none, none, none, none, none, some (.int p6)]) (st' := [.int p6, .int 11, .ref 9]) 2 rfl ?_
  refine l1_callV hQ mt_X0_arrives mt_X6_tell rfl rfl (o := 9) (ci := 5) (As := [.int 11, .int p6]) (rest := []) rfl rfl rfl rfl rfl rfl (st1 := fun x1 => [.int x1]) (fun _ => rfl) (ok_X6_tell hQ c 11 p6) (fun x1 c2 => ?_)
  refine l1_ck (fun hz => ?_)
  exact l1_retZ mt_X0_arrives rfl rfl rfl hz
set_option maxRecDepth 100000 in
theorem en_X0_arrives_34 {Q : hS → am_H → Prop} (hQ : l1_em kc Q) (N : Nat) (c : hS) (p1 : Nat) (p2 : Int32) (p3 : Nat) (p4 : Int32) (p5 : Int32) (p6 : Int32) (hp1 : kc p1 = 8) (hp3 : kc p3 = 1) : l1_G (wN wI) Q am_i_X0_arrives 0 [some (.ref 34), some (.ref p1), some (.int p2), some (.ref p3), some (.int p4), some (.int p5), some (.int p6)] [] c (f_X0_arrives N c p1 p2 p3 p4 p5 p6) := by
  rw [f_X0_arrives]
  refine l1_many mt_X0_arrives (pc' := 2) (L' := [some (.ref 34), some (.ref p1), some (.int p2), some (.ref p3), some (.int p4), some (.int p5), some (.int p6)]) (st' := [.ref 34, .ref p1]) 2 rfl ?_
  refine l1_getR hQ mt_X0_arrives rfl (o := 34) (ci := 0) (k := 1) (a := 0) (b := 1) rfl rfl rfl rfl rfl (q := 5) rfl ?_
  refine l1_many mt_X0_arrives (pc' := 6) (L' := [some (.ref 34), some (.ref p1), some (.int p2), some (.ref p3), some (.int p4), some (.int p5), some (.int p6)]) (st' := [.int p2, .ref 5, .ref p1]) 1 rfl ?_
  refine l1_callV hQ mt_X0_arrives mt_X9_isInTheWay rfl rfl (o := p1) (ci := 8) (As := [.ref 5, .int p2]) (rest := []) rfl rfl hp1 rfl rfl rfl (st1 := fun x1 => [.int x1]) (fun _ => rfl) (ok_X9_isInTheWay hQ N c p1 5 p2 hp1 rfl) (fun x1 c2 => ?_)
  refine l1_many mt_X0_arrives (pc' := bif am_cc .ne x1 0 then 23 else 12) (L' := [some (.ref 34), some (.ref p1), some (.int p2), some (.ref p3), some (.int p4), some (.int p5), some (.int p6)]) (st' := []) 1 rfl ?_
  refine l1_bin rfl ?_ ?_
  · refine l1_many mt_X0_arrives (pc' := 14) (L' := [some (.ref 34), some (.ref p1), some (.int p2), some (.ref p3), some (.int p4), some (.int p5), some (.int p6)]) (st' := [.ref 34, .ref p1]) 2 rfl ?_
    refine l1_getR hQ mt_X0_arrives rfl (o := 34) (ci := 0) (k := 1) (a := 0) (b := 1) rfl rfl rfl rfl rfl (q := 5) rfl ?_
    refine l1_callV hQ mt_X0_arrives mt_X9_hasRoomFor rfl rfl (o := p1) (ci := 8) (As := [.ref 5]) (rest := []) rfl rfl hp1 rfl rfl rfl (st1 := fun x3 => [.int x3]) (fun _ => rfl) (ok_X9_hasRoomFor hQ N c2 p1 5 hp1 rfl) (fun x3 c4 => ?_)
    refine l1_many mt_X0_arrives (pc' := bif am_cc .ne x3 0 then 35 else 23) (L' := [some (.ref 34), some (.ref p1), some (.int p2), some (.ref p3), some (.int p4), some (.int p5), some (.int p6)]) (st' := []) 1 rfl ?_
    refine l1_bin rfl ?_ ?_
    · refine l1_weak (m := [true, false, false, false, false, false, true]) (L' := [some (.ref 34), none, none, none, none, none, some (.int p6)]) rfl ?_
      exact ok_X0_arrives_34_23 hQ N p1 p2 p3 p4 p5 p6 hp1 hp3 c4
    · refine l1_many mt_X0_arrives (pc' := 37) (L' := [some (.ref 34), some (.ref p1), some (.int p2), some (.ref p3), some (.int p4), some (.int p5), some (.int p6)]) (st' := [.ref 34, .ref p1]) 2 rfl ?_
      refine l1_getR hQ mt_X0_arrives rfl (o := 34) (ci := 0) (k := 1) (a := 0) (b := 1) rfl rfl rfl rfl rfl (q := 5) rfl ?_
      refine l1_many mt_X0_arrives (pc' := 46) (L' := [some (.ref 34), some (.ref p1), some (.int p2), some (.ref p3), some (.int p4), some (.int p5), some (.int p6)]) (st' := [.int p5, .int p4, .ref p3, .int p2, .ref 5, .ref p1]) 4 rfl ?_
      refine l1_callV hQ mt_X0_arrives mt_X9_take rfl rfl (o := p1) (ci := 8) (As := [.ref 5, .int p2, .ref p3, .int p4, .int p5]) (rest := []) rfl rfl hp1 rfl rfl rfl (st1 := fun _ => []) (fun _ => rfl) (ok_X9_take hQ N c4 p1 5 p2 p3 p4 p5 hp1 rfl hp3) (fun _ c5 => ?_)
      refine l1_many mt_X0_arrives (pc' := 50) (L' := [some (.ref 34), some (.ref p1), some (.int p2), some (.ref p3), some (.int p4), some (.int p5), some (.int p6)]) (st' := [.int 1]) 1 rfl ?_
      exact l1_ret mt_X0_arrives rfl rfl rfl
  · refine l1_weak (m := [true, false, false, false, false, false, true]) (L' := [some (.ref 34), none, none, none, none, none, some (.int p6)]) rfl ?_
    exact ok_X0_arrives_34_23 hQ N p1 p2 p3 p4 p5 p6 hp1 hp3 c2
theorem ok_X0_arrives_34 {Q : hS → am_H → Prop} (hQ : l1_em kc Q) (N : Nat) (c : hS) (p1 : Nat) (p2 : Int32) (p3 : Nat) (p4 : Int32) (p5 : Int32) (p6 : Int32) (hp1 : kc p1 = 8) (hp3 : kc p3 = 1) : l1_T wI Q am_i_X0_arrives [.ref 34, .ref p1, .int p2, .ref p3, .int p4, .int p5, .int p6] c (f_X0_arrives N c p1 p2 p3 p4 p5 p6) := l1_of (en_X0_arrives_34 hQ N c p1 p2 p3 p4 p5 p6 hp1 hp3) ⟨rfl, rfl, rfl, rfl, rfl, rfl, rfl, trivial⟩
set_option maxRecDepth 100000 in
theorem ok_X0_arrives_35_23 {Q : hS → am_H → Prop} (hQ : l1_em kc Q) (N : Nat) (p1 : Nat) (p2 : Int32) (p3 : Nat) (p4 : Int32) (p5 : Int32) (p6 : Int32) (hp1 : kc p1 = 8) (hp3 : kc p3 = 1) : ∀ (c : hS), l1_G (wN wI) Q am_i_X0_arrives 23 [some (.ref 35), none, none, none, none, none, some (.int p6)] [] c (f_X0_arrives_23 N p1 p2 p3 p4 p5 p6 c) := by
  intro c
  rw [f_X0_arrives_23]
  refine l1_many mt_X0_arrives (pc' := 24) (L' := [some (.ref 35), none, none, none, none, none, some (.int p6)]) (st' := [.ref 35]) 1 rfl ?_
  refine l1_getR hQ mt_X0_arrives rfl (o := 35) (ci := 3) (k := 2) (a := 0) (b := 1) rfl rfl rfl rfl rfl (q := 9) rfl ?_
  refine l1_many mt_X0_arrives (pc' := 31) (L' := [some (.ref 35), none, none, none, none, none, some (.int p6)]) (st' := [.int p6, .int 11, .ref 9]) 2 rfl ?_
  refine l1_callV hQ mt_X0_arrives mt_X6_tell rfl rfl (o := 9) (ci := 5) (As := [.int 11, .int p6]) (rest := []) rfl rfl rfl rfl rfl rfl (st1 := fun x1 => [.int x1]) (fun _ => rfl) (ok_X6_tell hQ c 11 p6) (fun x1 c2 => ?_)
  refine l1_ck (fun hz => ?_)
  exact l1_retZ mt_X0_arrives rfl rfl rfl hz
set_option maxRecDepth 100000 in
theorem en_X0_arrives_35 {Q : hS → am_H → Prop} (hQ : l1_em kc Q) (N : Nat) (c : hS) (p1 : Nat) (p2 : Int32) (p3 : Nat) (p4 : Int32) (p5 : Int32) (p6 : Int32) (hp1 : kc p1 = 8) (hp3 : kc p3 = 1) : l1_G (wN wI) Q am_i_X0_arrives 0 [some (.ref 35), some (.ref p1), some (.int p2), some (.ref p3), some (.int p4), some (.int p5), some (.int p6)] [] c (f_X0_arrives N c p1 p2 p3 p4 p5 p6) := by
  rw [f_X0_arrives]
  refine l1_many mt_X0_arrives (pc' := 2) (L' := [some (.ref 35), some (.ref p1), some (.int p2), some (.ref p3), some (.int p4), some (.int p5), some (.int p6)]) (st' := [.ref 35, .ref p1]) 2 rfl ?_
  refine l1_getR hQ mt_X0_arrives rfl (o := 35) (ci := 3) (k := 1) (a := 0) (b := 1) rfl rfl rfl rfl rfl (q := 5) rfl ?_
  refine l1_many mt_X0_arrives (pc' := 6) (L' := [some (.ref 35), some (.ref p1), some (.int p2), some (.ref p3), some (.int p4), some (.int p5), some (.int p6)]) (st' := [.int p2, .ref 5, .ref p1]) 1 rfl ?_
  refine l1_callV hQ mt_X0_arrives mt_X9_isInTheWay rfl rfl (o := p1) (ci := 8) (As := [.ref 5, .int p2]) (rest := []) rfl rfl hp1 rfl rfl rfl (st1 := fun x1 => [.int x1]) (fun _ => rfl) (ok_X9_isInTheWay hQ N c p1 5 p2 hp1 rfl) (fun x1 c2 => ?_)
  refine l1_many mt_X0_arrives (pc' := bif am_cc .ne x1 0 then 23 else 12) (L' := [some (.ref 35), some (.ref p1), some (.int p2), some (.ref p3), some (.int p4), some (.int p5), some (.int p6)]) (st' := []) 1 rfl ?_
  refine l1_bin rfl ?_ ?_
  · refine l1_many mt_X0_arrives (pc' := 14) (L' := [some (.ref 35), some (.ref p1), some (.int p2), some (.ref p3), some (.int p4), some (.int p5), some (.int p6)]) (st' := [.ref 35, .ref p1]) 2 rfl ?_
    refine l1_getR hQ mt_X0_arrives rfl (o := 35) (ci := 3) (k := 1) (a := 0) (b := 1) rfl rfl rfl rfl rfl (q := 5) rfl ?_
    refine l1_callV hQ mt_X0_arrives mt_X9_hasRoomFor rfl rfl (o := p1) (ci := 8) (As := [.ref 5]) (rest := []) rfl rfl hp1 rfl rfl rfl (st1 := fun x3 => [.int x3]) (fun _ => rfl) (ok_X9_hasRoomFor hQ N c2 p1 5 hp1 rfl) (fun x3 c4 => ?_)
    refine l1_many mt_X0_arrives (pc' := bif am_cc .ne x3 0 then 35 else 23) (L' := [some (.ref 35), some (.ref p1), some (.int p2), some (.ref p3), some (.int p4), some (.int p5), some (.int p6)]) (st' := []) 1 rfl ?_
    refine l1_bin rfl ?_ ?_
    · refine l1_weak (m := [true, false, false, false, false, false, true]) (L' := [some (.ref 35), none, none, none, none, none, some (.int p6)]) rfl ?_
      exact ok_X0_arrives_35_23 hQ N p1 p2 p3 p4 p5 p6 hp1 hp3 c4
    · refine l1_many mt_X0_arrives (pc' := 37) (L' := [some (.ref 35), some (.ref p1), some (.int p2), some (.ref p3), some (.int p4), some (.int p5), some (.int p6)]) (st' := [.ref 35, .ref p1]) 2 rfl ?_
      refine l1_getR hQ mt_X0_arrives rfl (o := 35) (ci := 3) (k := 1) (a := 0) (b := 1) rfl rfl rfl rfl rfl (q := 5) rfl ?_
      refine l1_many mt_X0_arrives (pc' := 46) (L' := [some (.ref 35), some (.ref p1), some (.int p2), some (.ref p3), some (.int p4), some (.int p5), some (.int p6)]) (st' := [.int p5, .int p4, .ref p3, .int p2, .ref 5, .ref p1]) 4 rfl ?_
      refine l1_callV hQ mt_X0_arrives mt_X9_take rfl rfl (o := p1) (ci := 8) (As := [.ref 5, .int p2, .ref p3, .int p4, .int p5]) (rest := []) rfl rfl hp1 rfl rfl rfl (st1 := fun _ => []) (fun _ => rfl) (ok_X9_take hQ N c4 p1 5 p2 p3 p4 p5 hp1 rfl hp3) (fun _ c5 => ?_)
      refine l1_many mt_X0_arrives (pc' := 50) (L' := [some (.ref 35), some (.ref p1), some (.int p2), some (.ref p3), some (.int p4), some (.int p5), some (.int p6)]) (st' := [.int 1]) 1 rfl ?_
      exact l1_ret mt_X0_arrives rfl rfl rfl
  · refine l1_weak (m := [true, false, false, false, false, false, true]) (L' := [some (.ref 35), none, none, none, none, none, some (.int p6)]) rfl ?_
    exact ok_X0_arrives_35_23 hQ N p1 p2 p3 p4 p5 p6 hp1 hp3 c2
theorem ok_X0_arrives_35 {Q : hS → am_H → Prop} (hQ : l1_em kc Q) (N : Nat) (c : hS) (p1 : Nat) (p2 : Int32) (p3 : Nat) (p4 : Int32) (p5 : Int32) (p6 : Int32) (hp1 : kc p1 = 8) (hp3 : kc p3 = 1) : l1_T wI Q am_i_X0_arrives [.ref 35, .ref p1, .int p2, .ref p3, .int p4, .int p5, .int p6] c (f_X0_arrives N c p1 p2 p3 p4 p5 p6) := l1_of (en_X0_arrives_35 hQ N c p1 p2 p3 p4 p5 p6 hp1 hp3) ⟨rfl, rfl, rfl, rfl, rfl, rfl, rfl, trivial⟩
set_option maxRecDepth 100000 in
theorem ok_X0_arrives_36_23 {Q : hS → am_H → Prop} (hQ : l1_em kc Q) (N : Nat) (p1 : Nat) (p2 : Int32) (p3 : Nat) (p4 : Int32) (p5 : Int32) (p6 : Int32) (hp1 : kc p1 = 8) (hp3 : kc p3 = 1) : ∀ (c : hS), l1_G (wN wI) Q am_i_X0_arrives 23 [some (.ref 36), none, none, none, none, none, some (.int p6)] [] c (f_X0_arrives_23 N p1 p2 p3 p4 p5 p6 c) := by
  intro c
  rw [f_X0_arrives_23]
  refine l1_many mt_X0_arrives (pc' := 24) (L' := [some (.ref 36), none, none, none, none, none, some (.int p6)]) (st' := [.ref 36]) 1 rfl ?_
  refine l1_getR hQ mt_X0_arrives rfl (o := 36) (ci := 4) (k := 2) (a := 0) (b := 1) rfl rfl rfl rfl rfl (q := 9) rfl ?_
  refine l1_many mt_X0_arrives (pc' := 31) (L' := [some (.ref 36), none, none, none, none, none, some (.int p6)]) (st' := [.int p6, .int 11, .ref 9]) 2 rfl ?_
  refine l1_callV hQ mt_X0_arrives mt_X6_tell rfl rfl (o := 9) (ci := 5) (As := [.int 11, .int p6]) (rest := []) rfl rfl rfl rfl rfl rfl (st1 := fun x1 => [.int x1]) (fun _ => rfl) (ok_X6_tell hQ c 11 p6) (fun x1 c2 => ?_)
  refine l1_ck (fun hz => ?_)
  exact l1_retZ mt_X0_arrives rfl rfl rfl hz
set_option maxRecDepth 100000 in
theorem en_X0_arrives_36 {Q : hS → am_H → Prop} (hQ : l1_em kc Q) (N : Nat) (c : hS) (p1 : Nat) (p2 : Int32) (p3 : Nat) (p4 : Int32) (p5 : Int32) (p6 : Int32) (hp1 : kc p1 = 8) (hp3 : kc p3 = 1) : l1_G (wN wI) Q am_i_X0_arrives 0 [some (.ref 36), some (.ref p1), some (.int p2), some (.ref p3), some (.int p4), some (.int p5), some (.int p6)] [] c (f_X0_arrives N c p1 p2 p3 p4 p5 p6) := by
  rw [f_X0_arrives]
  refine l1_many mt_X0_arrives (pc' := 2) (L' := [some (.ref 36), some (.ref p1), some (.int p2), some (.ref p3), some (.int p4), some (.int p5), some (.int p6)]) (st' := [.ref 36, .ref p1]) 2 rfl ?_
  refine l1_getR hQ mt_X0_arrives rfl (o := 36) (ci := 4) (k := 1) (a := 0) (b := 1) rfl rfl rfl rfl rfl (q := 5) rfl ?_
  refine l1_many mt_X0_arrives (pc' := 6) (L' := [some (.ref 36), some (.ref p1), some (.int p2), some (.ref p3), some (.int p4), some (.int p5), some (.int p6)]) (st' := [.int p2, .ref 5, .ref p1]) 1 rfl ?_
  refine l1_callV hQ mt_X0_arrives mt_X9_isInTheWay rfl rfl (o := p1) (ci := 8) (As := [.ref 5, .int p2]) (rest := []) rfl rfl hp1 rfl rfl rfl (st1 := fun x1 => [.int x1]) (fun _ => rfl) (ok_X9_isInTheWay hQ N c p1 5 p2 hp1 rfl) (fun x1 c2 => ?_)
  refine l1_many mt_X0_arrives (pc' := bif am_cc .ne x1 0 then 23 else 12) (L' := [some (.ref 36), some (.ref p1), some (.int p2), some (.ref p3), some (.int p4), some (.int p5), some (.int p6)]) (st' := []) 1 rfl ?_
  refine l1_bin rfl ?_ ?_
  · refine l1_many mt_X0_arrives (pc' := 14) (L' := [some (.ref 36), some (.ref p1), some (.int p2), some (.ref p3), some (.int p4), some (.int p5), some (.int p6)]) (st' := [.ref 36, .ref p1]) 2 rfl ?_
    refine l1_getR hQ mt_X0_arrives rfl (o := 36) (ci := 4) (k := 1) (a := 0) (b := 1) rfl rfl rfl rfl rfl (q := 5) rfl ?_
    refine l1_callV hQ mt_X0_arrives mt_X9_hasRoomFor rfl rfl (o := p1) (ci := 8) (As := [.ref 5]) (rest := []) rfl rfl hp1 rfl rfl rfl (st1 := fun x3 => [.int x3]) (fun _ => rfl) (ok_X9_hasRoomFor hQ N c2 p1 5 hp1 rfl) (fun x3 c4 => ?_)
    refine l1_many mt_X0_arrives (pc' := bif am_cc .ne x3 0 then 35 else 23) (L' := [some (.ref 36), some (.ref p1), some (.int p2), some (.ref p3), some (.int p4), some (.int p5), some (.int p6)]) (st' := []) 1 rfl ?_
    refine l1_bin rfl ?_ ?_
    · refine l1_weak (m := [true, false, false, false, false, false, true]) (L' := [some (.ref 36), none, none, none, none, none, some (.int p6)]) rfl ?_
      exact ok_X0_arrives_36_23 hQ N p1 p2 p3 p4 p5 p6 hp1 hp3 c4
    · refine l1_many mt_X0_arrives (pc' := 37) (L' := [some (.ref 36), some (.ref p1), some (.int p2), some (.ref p3), some (.int p4), some (.int p5), some (.int p6)]) (st' := [.ref 36, .ref p1]) 2 rfl ?_
      refine l1_getR hQ mt_X0_arrives rfl (o := 36) (ci := 4) (k := 1) (a := 0) (b := 1) rfl rfl rfl rfl rfl (q := 5) rfl ?_
      refine l1_many mt_X0_arrives (pc' := 46) (L' := [some (.ref 36), some (.ref p1), some (.int p2), some (.ref p3), some (.int p4), some (.int p5), some (.int p6)]) (st' := [.int p5, .int p4, .ref p3, .int p2, .ref 5, .ref p1]) 4 rfl ?_
      refine l1_callV hQ mt_X0_arrives mt_X9_take rfl rfl (o := p1) (ci := 8) (As := [.ref 5, .int p2, .ref p3, .int p4, .int p5]) (rest := []) rfl rfl hp1 rfl rfl rfl (st1 := fun _ => []) (fun _ => rfl) (ok_X9_take hQ N c4 p1 5 p2 p3 p4 p5 hp1 rfl hp3) (fun _ c5 => ?_)
      refine l1_many mt_X0_arrives (pc' := 50) (L' := [some (.ref 36), some (.ref p1), some (.int p2), some (.ref p3), some (.int p4), some (.int p5), some (.int p6)]) (st' := [.int 1]) 1 rfl ?_
      exact l1_ret mt_X0_arrives rfl rfl rfl
  · refine l1_weak (m := [true, false, false, false, false, false, true]) (L' := [some (.ref 36), none, none, none, none, none, some (.int p6)]) rfl ?_
    exact ok_X0_arrives_36_23 hQ N p1 p2 p3 p4 p5 p6 hp1 hp3 c2
theorem ok_X0_arrives_36 {Q : hS → am_H → Prop} (hQ : l1_em kc Q) (N : Nat) (c : hS) (p1 : Nat) (p2 : Int32) (p3 : Nat) (p4 : Int32) (p5 : Int32) (p6 : Int32) (hp1 : kc p1 = 8) (hp3 : kc p3 = 1) : l1_T wI Q am_i_X0_arrives [.ref 36, .ref p1, .int p2, .ref p3, .int p4, .int p5, .int p6] c (f_X0_arrives N c p1 p2 p3 p4 p5 p6) := l1_of (en_X0_arrives_36 hQ N c p1 p2 p3 p4 p5 p6 hp1 hp3) ⟨rfl, rfl, rfl, rfl, rfl, rfl, rfl, trivial⟩
set_option maxRecDepth 100000 in
theorem en_X0_addTitle_34 {Q : hS → am_H → Prop} (hQ : l1_em kc Q) (N : Nat) (c : hS) (p1 : Nat) (p2 : Int32) (hp1 : kc p1 = 6) : l1_G (wN wV) Q am_i_X0_addTitle 0 [some (.ref 34), some (.ref p1), some (.int p2)] [] c (f_X0_addTitle N c p1 p2) := by
  rw [f_X0_addTitle]
  refine l1_many mt_X0_addTitle (pc' := 1) (L' := [some (.ref 34), some (.ref p1), some (.int p2)]) (st' := [.ref 34]) 1 rfl ?_
  refine l1_getR hQ mt_X0_addTitle rfl (o := 34) (ci := 0) (k := 0) (a := 0) (b := 1) rfl rfl rfl rfl rfl (q := 3) rfl ?_
  refine l1_many mt_X0_addTitle (pc' := 5) (L' := [some (.ref 34), some (.ref p1), some (.int p2)]) (st' := [.ref p1, .ref 3]) 1 rfl ?_
  refine l1_getR hQ mt_X0_addTitle rfl (o := p1) (ci := 6) (k := 0) (a := 2) (b := 2) hp1 rfl rfl rfl rfl (q := (p1 + 1)) rfl ?_
  refine l1_many mt_X0_addTitle (pc' := 10) (L' := [some (.ref 34), some (.ref p1), some (.int p2)]) (st' := [.ref p1, .int 0, .ref (p1 + 1), .ref 3]) 2 rfl ?_
  refine l1_getR hQ mt_X0_addTitle rfl (o := p1) (ci := 6) (k := 0) (a := 2) (b := 2) hp1 rfl rfl rfl rfl (q := (p1 + 1)) rfl ?_
  refine l1_callV hQ mt_X0_addTitle mt_X2_size rfl rfl (o := (p1 + 1)) (ci := 1) (As := []) (rest := [.int 0, .ref (p1 + 1), .ref 3]) rfl rfl (kc6_0 hp1) rfl rfl rfl (st1 := fun x1 => [.int x1, .int 0, .ref (p1 + 1), .ref 3]) (fun _ => rfl) (ok_X2_size hQ c (p1 + 1) (kc6_0 hp1)) (fun x1 c2 => ?_)
  refine l1_callV hQ mt_X0_addTitle mt_X2_addRow rfl rfl (o := 3) (ci := 1) (As := [.ref (p1 + 1), .int 0, .int x1]) (rest := []) rfl rfl rfl rfl rfl rfl (st1 := fun _ => []) (fun _ => rfl) (ok_X2_addRow hQ N c2 3 (p1 + 1) 0 x1 rfl (kc6_0 hp1)) (fun _ c3 => ?_)
  refine l1_many mt_X0_addTitle (pc' := bif am_cc .eq p2 0 then 39 else 23) (L' := [some (.ref 34), some (.ref p1), some (.int p2)]) (st' := []) 2 rfl ?_
  refine l1_bif rfl ?_ ?_
  · exact l1_ret mt_X0_addTitle rfl rfl rfl
  · refine l1_many mt_X0_addTitle (pc' := 24) (L' := [some (.ref 34), some (.ref p1), some (.int p2)]) (st' := [.ref p1]) 1 rfl ?_
    refine l1_getI hQ mt_X0_addTitle rfl (o := p1) (ci := 6) (k := 2) (a := 2) (b := 0) hp1 rfl rfl rfl rfl ?_
    refine l1_many mt_X0_addTitle (pc' := bif am_cc .eq (c3.1 p1 2) 0 then 39 else 30) (L' := [some (.ref 34), some (.ref p1), some (.int p2)]) (st' := []) 1 rfl ?_
    refine l1_bif rfl ?_ ?_
    · exact l1_ret mt_X0_addTitle rfl rfl rfl
    · refine l1_many mt_X0_addTitle (pc' := 31) (L' := [some (.ref 34), some (.ref p1), some (.int p2)]) (st' := [.ref 34]) 1 rfl ?_
      refine l1_getR hQ mt_X0_addTitle rfl (o := 34) (ci := 0) (k := 0) (a := 0) (b := 1) rfl rfl rfl rfl rfl (q := 3) rfl ?_
      refine l1_many mt_X0_addTitle (pc' := 36) (L' := [some (.ref 34), some (.ref p1), some (.int p2)]) (st' := [.int 47, .ref 3]) 1 rfl ?_
      refine l1_callV hQ mt_X0_addTitle mt_X2_add rfl rfl (o := 3) (ci := 1) (As := [.int 47]) (rest := []) rfl rfl rfl rfl rfl rfl (st1 := fun _ => []) (fun _ => rfl) (ok_X2_add hQ c3 3 47 rfl) (fun _ c4 => ?_)
      exact l1_ret mt_X0_addTitle rfl rfl rfl
theorem ok_X0_addTitle_34 {Q : hS → am_H → Prop} (hQ : l1_em kc Q) (N : Nat) (c : hS) (p1 : Nat) (p2 : Int32) (hp1 : kc p1 = 6) : l1_T wV Q am_i_X0_addTitle [.ref 34, .ref p1, .int p2] c (f_X0_addTitle N c p1 p2) := l1_of (en_X0_addTitle_34 hQ N c p1 p2 hp1) ⟨rfl, rfl, rfl, trivial⟩
set_option maxRecDepth 100000 in
theorem en_X0_addTitle_35 {Q : hS → am_H → Prop} (hQ : l1_em kc Q) (N : Nat) (c : hS) (p1 : Nat) (p2 : Int32) (hp1 : kc p1 = 6) : l1_G (wN wV) Q am_i_X0_addTitle 0 [some (.ref 35), some (.ref p1), some (.int p2)] [] c (f_X0_addTitle N c p1 p2) := by
  rw [f_X0_addTitle]
  refine l1_many mt_X0_addTitle (pc' := 1) (L' := [some (.ref 35), some (.ref p1), some (.int p2)]) (st' := [.ref 35]) 1 rfl ?_
  refine l1_getR hQ mt_X0_addTitle rfl (o := 35) (ci := 3) (k := 0) (a := 0) (b := 1) rfl rfl rfl rfl rfl (q := 3) rfl ?_
  refine l1_many mt_X0_addTitle (pc' := 5) (L' := [some (.ref 35), some (.ref p1), some (.int p2)]) (st' := [.ref p1, .ref 3]) 1 rfl ?_
  refine l1_getR hQ mt_X0_addTitle rfl (o := p1) (ci := 6) (k := 0) (a := 2) (b := 2) hp1 rfl rfl rfl rfl (q := (p1 + 1)) rfl ?_
  refine l1_many mt_X0_addTitle (pc' := 10) (L' := [some (.ref 35), some (.ref p1), some (.int p2)]) (st' := [.ref p1, .int 0, .ref (p1 + 1), .ref 3]) 2 rfl ?_
  refine l1_getR hQ mt_X0_addTitle rfl (o := p1) (ci := 6) (k := 0) (a := 2) (b := 2) hp1 rfl rfl rfl rfl (q := (p1 + 1)) rfl ?_
  refine l1_callV hQ mt_X0_addTitle mt_X2_size rfl rfl (o := (p1 + 1)) (ci := 1) (As := []) (rest := [.int 0, .ref (p1 + 1), .ref 3]) rfl rfl (kc6_0 hp1) rfl rfl rfl (st1 := fun x1 => [.int x1, .int 0, .ref (p1 + 1), .ref 3]) (fun _ => rfl) (ok_X2_size hQ c (p1 + 1) (kc6_0 hp1)) (fun x1 c2 => ?_)
  refine l1_callV hQ mt_X0_addTitle mt_X2_addRow rfl rfl (o := 3) (ci := 1) (As := [.ref (p1 + 1), .int 0, .int x1]) (rest := []) rfl rfl rfl rfl rfl rfl (st1 := fun _ => []) (fun _ => rfl) (ok_X2_addRow hQ N c2 3 (p1 + 1) 0 x1 rfl (kc6_0 hp1)) (fun _ c3 => ?_)
  refine l1_many mt_X0_addTitle (pc' := bif am_cc .eq p2 0 then 39 else 23) (L' := [some (.ref 35), some (.ref p1), some (.int p2)]) (st' := []) 2 rfl ?_
  refine l1_bif rfl ?_ ?_
  · exact l1_ret mt_X0_addTitle rfl rfl rfl
  · refine l1_many mt_X0_addTitle (pc' := 24) (L' := [some (.ref 35), some (.ref p1), some (.int p2)]) (st' := [.ref p1]) 1 rfl ?_
    refine l1_getI hQ mt_X0_addTitle rfl (o := p1) (ci := 6) (k := 2) (a := 2) (b := 0) hp1 rfl rfl rfl rfl ?_
    refine l1_many mt_X0_addTitle (pc' := bif am_cc .eq (c3.1 p1 2) 0 then 39 else 30) (L' := [some (.ref 35), some (.ref p1), some (.int p2)]) (st' := []) 1 rfl ?_
    refine l1_bif rfl ?_ ?_
    · exact l1_ret mt_X0_addTitle rfl rfl rfl
    · refine l1_many mt_X0_addTitle (pc' := 31) (L' := [some (.ref 35), some (.ref p1), some (.int p2)]) (st' := [.ref 35]) 1 rfl ?_
      refine l1_getR hQ mt_X0_addTitle rfl (o := 35) (ci := 3) (k := 0) (a := 0) (b := 1) rfl rfl rfl rfl rfl (q := 3) rfl ?_
      refine l1_many mt_X0_addTitle (pc' := 36) (L' := [some (.ref 35), some (.ref p1), some (.int p2)]) (st' := [.int 47, .ref 3]) 1 rfl ?_
      refine l1_callV hQ mt_X0_addTitle mt_X2_add rfl rfl (o := 3) (ci := 1) (As := [.int 47]) (rest := []) rfl rfl rfl rfl rfl rfl (st1 := fun _ => []) (fun _ => rfl) (ok_X2_add hQ c3 3 47 rfl) (fun _ c4 => ?_)
      exact l1_ret mt_X0_addTitle rfl rfl rfl
theorem ok_X0_addTitle_35 {Q : hS → am_H → Prop} (hQ : l1_em kc Q) (N : Nat) (c : hS) (p1 : Nat) (p2 : Int32) (hp1 : kc p1 = 6) : l1_T wV Q am_i_X0_addTitle [.ref 35, .ref p1, .int p2] c (f_X0_addTitle N c p1 p2) := l1_of (en_X0_addTitle_35 hQ N c p1 p2 hp1) ⟨rfl, rfl, rfl, trivial⟩
set_option maxRecDepth 100000 in
theorem en_X0_addTitle_36 {Q : hS → am_H → Prop} (hQ : l1_em kc Q) (N : Nat) (c : hS) (p1 : Nat) (p2 : Int32) (hp1 : kc p1 = 6) : l1_G (wN wV) Q am_i_X0_addTitle 0 [some (.ref 36), some (.ref p1), some (.int p2)] [] c (f_X0_addTitle N c p1 p2) := by
  rw [f_X0_addTitle]
  refine l1_many mt_X0_addTitle (pc' := 1) (L' := [some (.ref 36), some (.ref p1), some (.int p2)]) (st' := [.ref 36]) 1 rfl ?_
  refine l1_getR hQ mt_X0_addTitle rfl (o := 36) (ci := 4) (k := 0) (a := 0) (b := 1) rfl rfl rfl rfl rfl (q := 3) rfl ?_
  refine l1_many mt_X0_addTitle (pc' := 5) (L' := [some (.ref 36), some (.ref p1), some (.int p2)]) (st' := [.ref p1, .ref 3]) 1 rfl ?_
  refine l1_getR hQ mt_X0_addTitle rfl (o := p1) (ci := 6) (k := 0) (a := 2) (b := 2) hp1 rfl rfl rfl rfl (q := (p1 + 1)) rfl ?_
  refine l1_many mt_X0_addTitle (pc' := 10) (L' := [some (.ref 36), some (.ref p1), some (.int p2)]) (st' := [.ref p1, .int 0, .ref (p1 + 1), .ref 3]) 2 rfl ?_
  refine l1_getR hQ mt_X0_addTitle rfl (o := p1) (ci := 6) (k := 0) (a := 2) (b := 2) hp1 rfl rfl rfl rfl (q := (p1 + 1)) rfl ?_
  refine l1_callV hQ mt_X0_addTitle mt_X2_size rfl rfl (o := (p1 + 1)) (ci := 1) (As := []) (rest := [.int 0, .ref (p1 + 1), .ref 3]) rfl rfl (kc6_0 hp1) rfl rfl rfl (st1 := fun x1 => [.int x1, .int 0, .ref (p1 + 1), .ref 3]) (fun _ => rfl) (ok_X2_size hQ c (p1 + 1) (kc6_0 hp1)) (fun x1 c2 => ?_)
  refine l1_callV hQ mt_X0_addTitle mt_X2_addRow rfl rfl (o := 3) (ci := 1) (As := [.ref (p1 + 1), .int 0, .int x1]) (rest := []) rfl rfl rfl rfl rfl rfl (st1 := fun _ => []) (fun _ => rfl) (ok_X2_addRow hQ N c2 3 (p1 + 1) 0 x1 rfl (kc6_0 hp1)) (fun _ c3 => ?_)
  refine l1_many mt_X0_addTitle (pc' := bif am_cc .eq p2 0 then 39 else 23) (L' := [some (.ref 36), some (.ref p1), some (.int p2)]) (st' := []) 2 rfl ?_
  refine l1_bif rfl ?_ ?_
  · exact l1_ret mt_X0_addTitle rfl rfl rfl
  · refine l1_many mt_X0_addTitle (pc' := 24) (L' := [some (.ref 36), some (.ref p1), some (.int p2)]) (st' := [.ref p1]) 1 rfl ?_
    refine l1_getI hQ mt_X0_addTitle rfl (o := p1) (ci := 6) (k := 2) (a := 2) (b := 0) hp1 rfl rfl rfl rfl ?_
    refine l1_many mt_X0_addTitle (pc' := bif am_cc .eq (c3.1 p1 2) 0 then 39 else 30) (L' := [some (.ref 36), some (.ref p1), some (.int p2)]) (st' := []) 1 rfl ?_
    refine l1_bif rfl ?_ ?_
    · exact l1_ret mt_X0_addTitle rfl rfl rfl
    · refine l1_many mt_X0_addTitle (pc' := 31) (L' := [some (.ref 36), some (.ref p1), some (.int p2)]) (st' := [.ref 36]) 1 rfl ?_
      refine l1_getR hQ mt_X0_addTitle rfl (o := 36) (ci := 4) (k := 0) (a := 0) (b := 1) rfl rfl rfl rfl rfl (q := 3) rfl ?_
      refine l1_many mt_X0_addTitle (pc' := 36) (L' := [some (.ref 36), some (.ref p1), some (.int p2)]) (st' := [.int 47, .ref 3]) 1 rfl ?_
      refine l1_callV hQ mt_X0_addTitle mt_X2_add rfl rfl (o := 3) (ci := 1) (As := [.int 47]) (rest := []) rfl rfl rfl rfl rfl rfl (st1 := fun _ => []) (fun _ => rfl) (ok_X2_add hQ c3 3 47 rfl) (fun _ c4 => ?_)
      exact l1_ret mt_X0_addTitle rfl rfl rfl
theorem ok_X0_addTitle_36 {Q : hS → am_H → Prop} (hQ : l1_em kc Q) (N : Nat) (c : hS) (p1 : Nat) (p2 : Int32) (hp1 : kc p1 = 6) : l1_T wV Q am_i_X0_addTitle [.ref 36, .ref p1, .int p2] c (f_X0_addTitle N c p1 p2) := l1_of (en_X0_addTitle_36 hQ N c p1 p2 hp1) ⟨rfl, rfl, rfl, trivial⟩
set_option maxRecDepth 100000 in
theorem ok_X11_roundedUp_12 {Q : hS → am_H → Prop} (hQ : l1_em kc Q) (p0 : Int32) (p1 : Int32) : ∀ (c : hS) (w0 : Int32), l1_G (wN wI) Q am_i_X11_roundedUp 12 [some (.int p0), some (.int p1)] [.int w0] c (f_X11_roundedUp_12 p0 p1 c w0) := by
  intro c w0
  rw [f_X11_roundedUp_12]
  refine l1_many mt_X11_roundedUp (pc' := bif am_cc .ne w0 0 then 21 else 17) (L' := [some (.int p0), some (.int p1), some (.int w0)]) (st' := []) 3 rfl ?_
  refine l1_bin rfl ?_ ?_
  · refine l1_many mt_X11_roundedUp (pc' := 26) (L' := [some (.int p0), some (.int p1), some (.int w0)]) (st' := [.int p0]) 2 rfl ?_
    exact l1_ret mt_X11_roundedUp rfl rfl rfl
  · refine l1_many mt_X11_roundedUp (pc' := 26) (L' := [some (.int p0), some (.int p1), some (.int w0)]) (st' := [.int ((p0 - w0) + p1)]) 5 rfl ?_
    exact l1_ret mt_X11_roundedUp rfl rfl rfl
set_option maxRecDepth 100000 in
theorem en_X11_roundedUp {Q : hS → am_H → Prop} (hQ : l1_em kc Q) (c : hS) (p0 : Int32) (p1 : Int32) : l1_G (wN wI) Q am_i_X11_roundedUp 0 [some (.int p0), some (.int p1)] [] c (f_X11_roundedUp c p0 p1) := by
  rw [f_X11_roundedUp]
  refine l1_many mt_X11_roundedUp (pc' := bif am_cc .ge p1 1 then 9 else 5) (L' := [some (.int p0), some (.int p1)]) (st' := []) 3 rfl ?_
  refine l1_bif rfl ?_ ?_
  · refine l1_many mt_X11_roundedUp (pc' := 11) (L' := [some (.int p0), some (.int p1)]) (st' := [.int p1, .int p0]) 2 rfl ?_
    refine l1_rem mt_X11_roundedUp rfl ?_
    exact ok_X11_roundedUp_12 hQ p0 p1 c (j_rem p0 p1)
  · refine l1_many mt_X11_roundedUp (pc' := 12) (L' := [some (.int p0), some (.int p1)]) (st' := [.int 0]) 2 rfl ?_
    exact ok_X11_roundedUp_12 hQ p0 p1 c 0
theorem ok_X11_roundedUp {Q : hS → am_H → Prop} (hQ : l1_em kc Q) (c : hS) (p0 : Int32) (p1 : Int32) : l1_T wI Q am_i_X11_roundedUp [.int p0, .int p1] c (f_X11_roundedUp c p0 p1) := l1_of (en_X11_roundedUp hQ c p0 p1) ⟨rfl, rfl, trivial⟩
set_option maxRecDepth 100000 in
theorem ok_X1_isEmptyBlock_2 {Q : hS → am_H → Prop} (hQ : l1_em kc Q) (N : Nat) (p1 : Int32) : ∀ n : Nat, ∀ (c : hS) (v2 : Int32), l1_G (wN wI) Q am_i_X1_isEmptyBlock 2 [some (.ref 34), some (.int p1), some (.int v2)] [] c (f_X1_isEmptyBlock_2 N p1 n c v2) := by
  intro n
  induction n with
  | zero => intro c v2; exact l1_none
  | succ n ih =>
    intro c v2
    rw [f_X1_isEmptyBlock_2]
    refine l1_many mt_X1_isEmptyBlock (pc' := bif am_cc .ge v2 512 then 30 else 9) (L' := [some (.ref 34), some (.int p1), some (.int v2)]) (st' := []) 3 rfl ?_
    refine l1_bif rfl ?_ ?_
    · refine l1_many mt_X1_isEmptyBlock (pc' := 31) (L' := [some (.ref 34), some (.int p1), some (.int v2)]) (st' := [.int 1]) 1 rfl ?_
      exact l1_ret mt_X1_isEmptyBlock rfl rfl rfl
    · refine l1_many mt_X1_isEmptyBlock (pc' := 10) (L' := [some (.ref 34), some (.int p1), some (.int v2)]) (st' := [.ref 34]) 1 rfl ?_
      refine l1_getR hQ mt_X1_isEmptyBlock rfl (o := 34) (ci := 0) (k := 0) (a := 1) (b := 2) rfl rfl rfl rfl rfl (q := 3) rfl ?_
      refine l1_many mt_X1_isEmptyBlock (pc' := 16) (L' := [some (.ref 34), some (.int p1), some (.int v2)]) (st' := [.int (p1 + v2), .ref 3]) 3 rfl ?_
      refine l1_callV hQ mt_X1_isEmptyBlock mt_X2_get rfl rfl (o := 3) (ci := 1) (As := [.int (p1 + v2)]) (rest := []) rfl rfl rfl rfl rfl rfl (st1 := fun x1 => [.int x1]) (fun _ => rfl) (ok_X2_get hQ c 3 (p1 + v2) rfl) (fun x1 c2 => ?_)
      refine l1_many mt_X1_isEmptyBlock (pc' := bif am_cc .eq x1 0 then 24 else 22) (L' := [some (.ref 34), some (.int p1), some (.int v2)]) (st' := []) 1 rfl ?_
      refine l1_bif rfl ?_ ?_
      · refine l1_many mt_X1_isEmptyBlock (pc' := 2) (L' := [some (.ref 34), some (.int p1), some (.int (v2 + 1))]) (st' := []) 2 rfl ?_
        exact ih c2 (v2 + 1)
      · refine l1_many mt_X1_isEmptyBlock (pc' := 23) (L' := [some (.ref 34), some (.int p1), some (.int v2)]) (st' := [.int 0]) 1 rfl ?_
        exact l1_ret mt_X1_isEmptyBlock rfl rfl rfl
set_option maxRecDepth 100000 in
theorem en_X1_isEmptyBlock {Q : hS → am_H → Prop} (hQ : l1_em kc Q) (N : Nat) (c : hS) (p1 : Int32) : l1_G (wN wI) Q am_i_X1_isEmptyBlock 0 [some (.ref 34), some (.int p1)] [] c (f_X1_isEmptyBlock N c p1) := by
  rw [f_X1_isEmptyBlock]
  refine l1_many mt_X1_isEmptyBlock (pc' := 2) (L' := [some (.ref 34), some (.int p1), some (.int 0)]) (st' := []) 2 rfl ?_
  exact ok_X1_isEmptyBlock_2 hQ N p1 N c 0
theorem ok_X1_isEmptyBlock {Q : hS → am_H → Prop} (hQ : l1_em kc Q) (N : Nat) (c : hS) (p1 : Int32) : l1_T wI Q am_i_X1_isEmptyBlock [.ref 34, .int p1] c (f_X1_isEmptyBlock N c p1) := l1_of (en_X1_isEmptyBlock hQ N c p1) ⟨rfl, rfl, trivial⟩
set_option maxRecDepth 100000 in
theorem ok_X1_areDigits_39 {Q : hS → am_H → Prop} (hQ : l1_em kc Q) (N : Nat) (p1 : Int32) (p2 : Int32) (p3 : Int32) : ∀ (c : hS) (v4 : Int32), l1_G (wN wI) Q am_i_X1_areDigits 39 [some (.ref 34), none, none, some (.int p3), some (.int v4)] [] c (f_X1_areDigits_39 N p1 p2 p3 c v4) := by
  intro c v4
  rw [f_X1_areDigits_39]
  refine l1_many mt_X1_areDigits (pc' := 40) (L' := [some (.ref 34), none, none, some (.int p3), some (.int v4)]) (st' := [.ref 34]) 1 rfl ?_
  refine l1_getR hQ mt_X1_areDigits rfl (o := 34) (ci := 0) (k := 2) (a := 1) (b := 2) rfl rfl rfl rfl rfl (q := 9) rfl ?_
  refine l1_many mt_X1_areDigits (pc' := 46) (L' := [some (.ref 34), none, none, some (.int p3), some (.int v4)]) (st' := [.int v4, .int p3, .ref 9]) 2 rfl ?_
  refine l1_callV hQ mt_X1_areDigits mt_X6_tell rfl rfl (o := 9) (ci := 5) (As := [.int p3, .int v4]) (rest := []) rfl rfl rfl rfl rfl rfl (st1 := fun x1 => [.int x1]) (fun _ => rfl) (ok_X6_tell hQ c p3 v4) (fun x1 c2 => ?_)
  refine l1_ck (fun hz => ?_)
  exact l1_retZ mt_X1_areDigits rfl rfl rfl hz
set_option maxRecDepth 100000 in
theorem ok_X1_areDigits_3 {Q : hS → am_H → Prop} (hQ : l1_em kc Q) (N : Nat) (p1 : Int32) (p2 : Int32) (p3 : Int32) : ∀ n : Nat, ∀ (c : hS) (v4 : Int32), l1_G (wN wI) Q am_i_X1_areDigits 3 [some (.ref 34), some (.int p1), some (.int p2), some (.int p3), some (.int v4)] [] c (f_X1_areDigits_3 N p1 p2 p3 n c v4) := by
  intro n
  induction n with
  | zero => intro c v4; exact l1_none
  | succ n ih =>
    intro c v4
    rw [f_X1_areDigits_3]
    refine l1_many mt_X1_areDigits (pc' := bif am_cc .ge v4 (p1 + p2) then 56 else 11) (L' := [some (.ref 34), some (.int p1), some (.int p2), some (.int p3), some (.int v4)]) (st' := []) 5 rfl ?_
    refine l1_bif rfl ?_ ?_
    · refine l1_many mt_X1_areDigits (pc' := 57) (L' := [some (.ref 34), some (.int p1), some (.int p2), some (.int p3), some (.int v4)]) (st' := [.int 1]) 1 rfl ?_
      exact l1_ret mt_X1_areDigits rfl rfl rfl
    · refine l1_many mt_X1_areDigits (pc' := 12) (L' := [some (.ref 34), some (.int p1), some (.int p2), some (.int p3), some (.int v4)]) (st' := [.ref 34]) 1 rfl ?_
      refine l1_getR hQ mt_X1_areDigits rfl (o := 34) (ci := 0) (k := 0) (a := 1) (b := 2) rfl rfl rfl rfl rfl (q := 3) rfl ?_
      refine l1_many mt_X1_areDigits (pc' := 17) (L' := [some (.ref 34), some (.int p1), some (.int p2), some (.int p3), some (.int v4)]) (st' := [.int v4, .ref 3]) 1 rfl ?_
      refine l1_callV hQ mt_X1_areDigits mt_X2_get rfl rfl (o := 3) (ci := 1) (As := [.int v4]) (rest := []) rfl rfl rfl rfl rfl rfl (st1 := fun x1 => [.int x1]) (fun _ => rfl) (ok_X2_get hQ c 3 v4 rfl) (fun x1 c2 => ?_)
      refine l1_many mt_X1_areDigits (pc' := bif am_cc .lt x1 48 then 39 else 25) (L' := [some (.ref 34), some (.int p1), some (.int p2), some (.int p3), some (.int v4)]) (st' := []) 2 rfl ?_
      refine l1_bif rfl ?_ ?_
      · refine l1_weak (m := [true, false, false, true, true]) (L' := [some (.ref 34), none, none, some (.int p3), some (.int v4)]) rfl ?_
        exact ok_X1_areDigits_39 hQ N p1 p2 p3 c2 v4
      · refine l1_many mt_X1_areDigits (pc' := 26) (L' := [some (.ref 34), some (.int p1), some (.int p2), some (.int p3), some (.int v4)]) (st' := [.ref 34]) 1 rfl ?_
        refine l1_getR hQ mt_X1_areDigits rfl (o := 34) (ci := 0) (k := 0) (a := 1) (b := 2) rfl rfl rfl rfl rfl (q := 3) rfl ?_
        refine l1_many mt_X1_areDigits (pc' := 31) (L' := [some (.ref 34), some (.int p1), some (.int p2), some (.int p3), some (.int v4)]) (st' := [.int v4, .ref 3]) 1 rfl ?_
        refine l1_callV hQ mt_X1_areDigits mt_X2_get rfl rfl (o := 3) (ci := 1) (As := [.int v4]) (rest := []) rfl rfl rfl rfl rfl rfl (st1 := fun x3 => [.int x3]) (fun _ => rfl) (ok_X2_get hQ c2 3 v4 rfl) (fun x3 c4 => ?_)
        refine l1_many mt_X1_areDigits (pc' := bif am_cc .le x3 55 then 50 else 39) (L' := [some (.ref 34), some (.int p1), some (.int p2), some (.int p3), some (.int v4)]) (st' := []) 2 rfl ?_
        refine l1_bif rfl ?_ ?_
        · refine l1_many mt_X1_areDigits (pc' := 3) (L' := [some (.ref 34), some (.int p1), some (.int p2), some (.int p3), some (.int (v4 + 1))]) (st' := []) 2 rfl ?_
          exact ih c4 (v4 + 1)
        · refine l1_weak (m := [true, false, false, true, true]) (L' := [some (.ref 34), none, none, some (.int p3), some (.int v4)]) rfl ?_
          exact ok_X1_areDigits_39 hQ N p1 p2 p3 c4 v4
set_option maxRecDepth 100000 in
theorem en_X1_areDigits {Q : hS → am_H → Prop} (hQ : l1_em kc Q) (N : Nat) (c : hS) (p1 : Int32) (p2 : Int32) (p3 : Int32) : l1_G (wN wI) Q am_i_X1_areDigits 0 [some (.ref 34), some (.int p1), some (.int p2), some (.int p3)] [] c (f_X1_areDigits N c p1 p2 p3) := by
  rw [f_X1_areDigits]
  refine l1_many mt_X1_areDigits (pc' := 3) (L' := [some (.ref 34), some (.int p1), some (.int p2), some (.int p3), some (.int p1)]) (st' := []) 2 rfl ?_
  exact ok_X1_areDigits_3 hQ N p1 p2 p3 N c p1
theorem ok_X1_areDigits {Q : hS → am_H → Prop} (hQ : l1_em kc Q) (N : Nat) (c : hS) (p1 : Int32) (p2 : Int32) (p3 : Int32) : l1_T wI Q am_i_X1_areDigits [.ref 34, .int p1, .int p2, .int p3] c (f_X1_areDigits N c p1 p2 p3) := l1_of (en_X1_areDigits hQ N c p1 p2 p3) ⟨rfl, rfl, rfl, rfl, trivial⟩
set_option maxRecDepth 100000 in
theorem en_X1_isOctal {Q : hS → am_H → Prop} (hQ : l1_em kc Q) (N : Nat) (c : hS) (p1 : Int32) (p2 : Int32) : l1_G (wN wI) Q am_i_X1_isOctal 0 [some (.ref 34), some (.int p1), some (.int p2)] [] c (f_X1_isOctal N c p1 p2) := by
  rw [f_X1_isOctal]
  refine l1_many mt_X1_isOctal (pc' := 7) (L' := [some (.ref 34), some (.int p1), some (.int p2)]) (st' := [.int 6, .int (p2 - 1), .int p1, .ref 34]) 6 rfl ?_
  refine l1_callV hQ mt_X1_isOctal mt_X1_areDigits rfl rfl (o := 34) (ci := 0) (As := [.int p1, .int (p2 - 1), .int 6]) (rest := []) rfl rfl rfl rfl rfl rfl (st1 := fun x1 => [.int x1]) (fun _ => rfl) (ok_X1_areDigits hQ N c p1 (p2 - 1) 6) (fun x1 c2 => ?_)
  refine l1_many mt_X1_isOctal (pc' := bif am_cc .ne x1 0 then 15 else 13) (L' := [some (.ref 34), some (.int p1), some (.int p2)]) (st' := []) 1 rfl ?_
  refine l1_bin rfl ?_ ?_
  · refine l1_many mt_X1_isOctal (pc' := 14) (L' := [some (.ref 34), some (.int p1), some (.int p2)]) (st' := [.int 0]) 1 rfl ?_
    exact l1_ret mt_X1_isOctal rfl rfl rfl
  · refine l1_many mt_X1_isOctal (pc' := 16) (L' := [some (.ref 34), some (.int p1), some (.int p2)]) (st' := [.ref 34]) 1 rfl ?_
    refine l1_getR hQ mt_X1_isOctal rfl (o := 34) (ci := 0) (k := 0) (a := 1) (b := 2) rfl rfl rfl rfl rfl (q := 3) rfl ?_
    refine l1_many mt_X1_isOctal (pc' := 24) (L' := [some (.ref 34), some (.int p1), some (.int p2)]) (st' := [.int ((p1 + p2) - 1), .ref 3]) 5 rfl ?_
    refine l1_callV hQ mt_X1_isOctal mt_X2_get rfl rfl (o := 3) (ci := 1) (As := [.int ((p1 + p2) - 1)]) (rest := []) rfl rfl rfl rfl rfl rfl (st1 := fun x3 => [.int x3]) (fun _ => rfl) (ok_X2_get hQ c2 3 ((p1 + p2) - 1) rfl) (fun x3 c4 => ?_)
    refine l1_many mt_X1_isOctal (pc' := bif am_cc .eq x3 0 then 47 else 30) (L' := [some (.ref 34), some (.int p1), some (.int p2)]) (st' := []) 1 rfl ?_
    refine l1_bif rfl ?_ ?_
    · refine l1_many mt_X1_isOctal (pc' := 52) (L' := [some (.ref 34), some (.int p1), some (.int p2)]) (st' := [.int 1]) 2 rfl ?_
      exact l1_ret mt_X1_isOctal rfl rfl rfl
    · refine l1_many mt_X1_isOctal (pc' := 31) (L' := [some (.ref 34), some (.int p1), some (.int p2)]) (st' := [.ref 34]) 1 rfl ?_
      refine l1_getR hQ mt_X1_isOctal rfl (o := 34) (ci := 0) (k := 2) (a := 1) (b := 2) rfl rfl rfl rfl rfl (q := 9) rfl ?_
      refine l1_many mt_X1_isOctal (pc' := 41) (L' := [some (.ref 34), some (.int p1), some (.int p2)]) (st' := [.int ((p1 + p2) - 1), .int 6, .ref 9]) 6 rfl ?_
      refine l1_callV hQ mt_X1_isOctal mt_X6_tell rfl rfl (o := 9) (ci := 5) (As := [.int 6, .int ((p1 + p2) - 1)]) (rest := []) rfl rfl rfl rfl rfl rfl (st1 := fun x5 => [.int x5]) (fun _ => rfl) (ok_X6_tell hQ c4 6 ((p1 + p2) - 1)) (fun x5 c6 => ?_)
      refine l1_many mt_X1_isOctal (pc' := bif am_cc .eq x5 0 then 51 else 47) (L' := [some (.ref 34), some (.int p1), some (.int p2)]) (st' := []) 1 rfl ?_
      refine l1_bif rfl ?_ ?_
      · refine l1_many mt_X1_isOctal (pc' := 52) (L' := [some (.ref 34), some (.int p1), some (.int p2)]) (st' := [.int 0]) 1 rfl ?_
        exact l1_ret mt_X1_isOctal rfl rfl rfl
      · refine l1_many mt_X1_isOctal (pc' := 52) (L' := [some (.ref 34), some (.int p1), some (.int p2)]) (st' := [.int 1]) 2 rfl ?_
        exact l1_ret mt_X1_isOctal rfl rfl rfl
theorem ok_X1_isOctal {Q : hS → am_H → Prop} (hQ : l1_em kc Q) (N : Nat) (c : hS) (p1 : Int32) (p2 : Int32) : l1_T wI Q am_i_X1_isOctal [.ref 34, .int p1, .int p2] c (f_X1_isOctal N c p1 p2) := l1_of (en_X1_isOctal hQ N c p1 p2) ⟨rfl, rfl, rfl, trivial⟩
set_option maxRecDepth 100000 in
theorem ok_X1_octal_5 {Q : hS → am_H → Prop} (hQ : l1_em kc Q) (N : Nat) (p1 : Int32) (p2 : Int32) : ∀ n : Nat, ∀ (c : hS) (v3 : Int64) (v5 : Int32), l1_G (wN wL) Q am_i_X1_octal 5 [some (.ref 34), some (.int p1), some (.int p2), some (.long v3), none, some (.int v5)] [] c (f_X1_octal_5 N p1 p2 n c v3 v5) := by
  intro n
  induction n with
  | zero => intro c v3 v5; exact l1_none
  | succ n ih =>
    intro c v3 v5
    rw [f_X1_octal_5]
    refine l1_many mt_X1_octal (pc' := bif am_cc .ge v5 (p1 + p2) then 37 else 13) (L' := [some (.ref 34), some (.int p1), some (.int p2), some (.long v3), none, some (.int v5)]) (st' := []) 5 rfl ?_
    refine l1_bif rfl ?_ ?_
    · refine l1_many mt_X1_octal (pc' := 38) (L' := [some (.ref 34), some (.int p1), some (.int p2), some (.long v3), none, some (.int v5)]) (st' := [.long v3]) 1 rfl ?_
      exact l1_ret mt_X1_octal rfl rfl rfl
    · refine l1_many mt_X1_octal (pc' := 17) (L' := [some (.ref 34), some (.int p1), some (.int p2), some (.long v3), none, some (.int v5)]) (st' := [.ref 34, .long (j_lshl v3 3)]) 4 rfl ?_
      refine l1_getR hQ mt_X1_octal rfl (o := 34) (ci := 0) (k := 0) (a := 1) (b := 2) rfl rfl rfl rfl rfl (q := 3) rfl ?_
      refine l1_many mt_X1_octal (pc' := 22) (L' := [some (.ref 34), some (.int p1), some (.int p2), some (.long v3), none, some (.int v5)]) (st' := [.int v5, .ref 3, .long (j_lshl v3 3)]) 1 rfl ?_
      refine l1_callV hQ mt_X1_octal mt_X2_get rfl rfl (o := 3) (ci := 1) (As := [.int v5]) (rest := [.long (j_lshl v3 3)]) rfl rfl rfl rfl rfl rfl (st1 := fun x1 => [.int x1, .long (j_lshl v3 3)]) (fun _ => rfl) (ok_X2_get hQ c 3 v5 rfl) (fun x1 c2 => ?_)
      refine l1_many mt_X1_octal (pc' := 5) (L' := [some (.ref 34), some (.int p1), some (.int p2), some (.long ((j_lshl v3 3) ||| ((x1 &&& 7).toInt64))), none, some (.int (v5 + 1))]) (st' := []) 7 rfl ?_
      exact ih c2 ((j_lshl v3 3) ||| ((x1 &&& 7).toInt64)) (v5 + 1)
set_option maxRecDepth 100000 in
theorem en_X1_octal {Q : hS → am_H → Prop} (hQ : l1_em kc Q) (N : Nat) (c : hS) (p1 : Int32) (p2 : Int32) : l1_G (wN wL) Q am_i_X1_octal 0 [some (.ref 34), some (.int p1), some (.int p2)] [] c (f_X1_octal N c p1 p2) := by
  rw [f_X1_octal]
  refine l1_many mt_X1_octal (pc' := 5) (L' := [some (.ref 34), some (.int p1), some (.int p2), some (.long 0), none, some (.int p1)]) (st' := []) 4 rfl ?_
  exact ok_X1_octal_5 hQ N p1 p2 N c 0 p1
theorem ok_X1_octal {Q : hS → am_H → Prop} (hQ : l1_em kc Q) (N : Nat) (c : hS) (p1 : Int32) (p2 : Int32) : l1_T wL Q am_i_X1_octal [.ref 34, .int p1, .int p2] c (f_X1_octal N c p1 p2) := l1_of (en_X1_octal hQ N c p1 p2) ⟨rfl, rfl, rfl, trivial⟩
set_option maxRecDepth 100000 in
theorem ok_X1_isSorted_57 {Q : hS → am_H → Prop} (hQ : l1_em kc Q) (N : Nat) (p1 : Int32) : ∀ (c : hS) (w0 : Int32), l1_G (wN wI) Q am_i_X1_isSorted 57 [some (.ref 34), some (.int p1)] [.int w0] c (f_X1_isSorted_57 N p1 c w0) := by
  intro c w0
  rw [f_X1_isSorted_57]
  refine l1_many mt_X1_isSorted (pc' := 65) (L' := [some (.ref 34), some (.int p1), none, some (.int w0)]) (st' := [.int 11, .int (p1 + 124), .ref 34]) 6 rfl ?_
  refine l1_callV hQ mt_X1_isSorted mt_X1_octal rfl rfl (o := 34) (ci := 0) (As := [.int (p1 + 124), .int 11]) (rest := []) rfl rfl rfl rfl rfl rfl (st1 := fun x1 => [.long x1]) (fun _ => rfl) (ok_X1_octal hQ N c (p1 + 124) 11) (fun x1 c2 => ?_)
  refine l1_many mt_X1_isSorted (pc' := bif am_cc .le (j_cmp x1 w0.toInt64) 0 then 90 else 74) (L' := [some (.ref 34), some (.int p1), none, some (.int w0)]) (st' := []) 4 rfl ?_
  refine l1_bif rfl ?_ ?_
  · refine l1_many mt_X1_isSorted (pc' := 95) (L' := [some (.ref 34), some (.int p1), none, some (.int w0)]) (st' := [.int 1]) 2 rfl ?_
    exact l1_ret mt_X1_isSorted rfl rfl rfl
  · refine l1_many mt_X1_isSorted (pc' := 75) (L' := [some (.ref 34), some (.int p1), none, some (.int w0)]) (st' := [.ref 34]) 1 rfl ?_
    refine l1_getR hQ mt_X1_isSorted rfl (o := 34) (ci := 0) (k := 2) (a := 1) (b := 2) rfl rfl rfl rfl rfl (q := 9) rfl ?_
    refine l1_many mt_X1_isSorted (pc' := 84) (L' := [some (.ref 34), some (.int p1), none, some (.int w0)]) (st' := [.int (p1 + 124), .int 7, .ref 9]) 4 rfl ?_
    refine l1_callV hQ mt_X1_isSorted mt_X6_tell rfl rfl (o := 9) (ci := 5) (As := [.int 7, .int (p1 + 124)]) (rest := []) rfl rfl rfl rfl rfl rfl (st1 := fun x3 => [.int x3]) (fun _ => rfl) (ok_X6_tell hQ c2 7 (p1 + 124)) (fun x3 c4 => ?_)
    refine l1_many mt_X1_isSorted (pc' := bif am_cc .eq x3 0 then 94 else 90) (L' := [some (.ref 34), some (.int p1), none, some (.int w0)]) (st' := []) 1 rfl ?_
    refine l1_bif rfl ?_ ?_
    · refine l1_many mt_X1_isSorted (pc' := 95) (L' := [some (.ref 34), some (.int p1), none, some (.int w0)]) (st' := [.int 0]) 1 rfl ?_
      exact l1_ret mt_X1_isSorted rfl rfl rfl
    · refine l1_many mt_X1_isSorted (pc' := 95) (L' := [some (.ref 34), some (.int p1), none, some (.int w0)]) (st' := [.int 1]) 2 rfl ?_
      exact l1_ret mt_X1_isSorted rfl rfl rfl
set_option maxRecDepth 100000 in
theorem ok_X1_isSorted_44 {Q : hS → am_H → Prop} (hQ : l1_em kc Q) (N : Nat) (p1 : Int32) : ∀ (c : hS) (v2 : Int32), l1_G (wN wI) Q am_i_X1_isSorted 44 [some (.ref 34), some (.int p1), some (.int v2)] [] c (f_X1_isSorted_44 N p1 c v2) := by
  intro c v2
  rw [f_X1_isSorted_44]
  refine l1_many mt_X1_isSorted (pc' := bif am_cc .ne v2 53 then 54 else 50) (L' := [some (.ref 34), some (.int p1), some (.int v2)]) (st' := []) 3 rfl ?_
  refine l1_bin rfl ?_ ?_
  · refine l1_many mt_X1_isSorted (pc' := 57) (L' := [some (.ref 34), some (.int p1), some (.int v2)]) (st' := [.int 0]) 2 rfl ?_
    refine l1_weak (m := [true, true, false, false]) (L' := [some (.ref 34), some (.int p1)]) rfl ?_
    exact ok_X1_isSorted_57 hQ N p1 c 0
  · refine l1_many mt_X1_isSorted (pc' := 57) (L' := [some (.ref 34), some (.int p1), some (.int v2)]) (st' := [.int 400]) 1 rfl ?_
    refine l1_weak (m := [true, true, false, false]) (L' := [some (.ref 34), some (.int p1)]) rfl ?_
    exact ok_X1_isSorted_57 hQ N p1 c 400
set_option maxRecDepth 100000 in
theorem en_X1_isSorted {Q : hS → am_H → Prop} (hQ : l1_em kc Q) (N : Nat) (c : hS) (p1 : Int32) : l1_G (wN wI) Q am_i_X1_isSorted 0 [some (.ref 34), some (.int p1)] [] c (f_X1_isSorted N c p1) := by
  rw [f_X1_isSorted]
  refine l1_many mt_X1_isSorted (pc' := 1) (L' := [some (.ref 34), some (.int p1)]) (st' := [.ref 34]) 1 rfl ?_
  refine l1_getR hQ mt_X1_isSorted rfl (o := 34) (ci := 0) (k := 0) (a := 1) (b := 2) rfl rfl rfl rfl rfl (q := 3) rfl ?_
  refine l1_many mt_X1_isSorted (pc' := 9) (L' := [some (.ref 34), some (.int p1)]) (st' := [.int (p1 + 156), .ref 3]) 3 rfl ?_
  refine l1_callV hQ mt_X1_isSorted mt_X2_get rfl rfl (o := 3) (ci := 1) (As := [.int (p1 + 156)]) (rest := []) rfl rfl rfl rfl rfl rfl (st1 := fun x1 => [.int x1]) (fun _ => rfl) (ok_X2_get hQ c 3 (p1 + 156) rfl) (fun x1 c2 => ?_)
  refine l1_many mt_X1_isSorted (pc' := bif am_cc .eq x1 48 then 44 else 19) (L' := [some (.ref 34), some (.int p1), some (.int x1)]) (st' := []) 4 rfl ?_
  refine l1_bif rfl ?_ ?_
  · exact ok_X1_isSorted_44 hQ N p1 c2 x1
  · refine l1_many mt_X1_isSorted (pc' := bif am_cc .eq x1 0 then 44 else 23) (L' := [some (.ref 34), some (.int p1), some (.int x1)]) (st' := []) 2 rfl ?_
    refine l1_bif rfl ?_ ?_
    · exact ok_X1_isSorted_44 hQ N p1 c2 x1
    · refine l1_many mt_X1_isSorted (pc' := bif am_cc .eq x1 53 then 44 else 29) (L' := [some (.ref 34), some (.int p1), some (.int x1)]) (st' := []) 3 rfl ?_
      refine l1_bif rfl ?_ ?_
      · exact ok_X1_isSorted_44 hQ N p1 c2 x1
      · refine l1_many mt_X1_isSorted (pc' := 30) (L' := [some (.ref 34), some (.int p1), some (.int x1)]) (st' := [.ref 34]) 1 rfl ?_
        refine l1_getR hQ mt_X1_isSorted rfl (o := 34) (ci := 0) (k := 2) (a := 1) (b := 2) rfl rfl rfl rfl rfl (q := 9) rfl ?_
        refine l1_many mt_X1_isSorted (pc' := 40) (L' := [some (.ref 34), some (.int p1), some (.int x1)]) (st' := [.int (p1 + 156), .int 8, .ref 9]) 4 rfl ?_
        refine l1_callV hQ mt_X1_isSorted mt_X6_tell rfl rfl (o := 9) (ci := 5) (As := [.int 8, .int (p1 + 156)]) (rest := []) rfl rfl rfl rfl rfl rfl (st1 := fun x3 => [.int x3]) (fun _ => rfl) (ok_X6_tell hQ c2 8 (p1 + 156)) (fun x3 c4 => ?_)
        refine l1_ck (fun hz => ?_)
        exact l1_retZ mt_X1_isSorted rfl rfl rfl hz
theorem ok_X1_isSorted {Q : hS → am_H → Prop} (hQ : l1_em kc Q) (N : Nat) (c : hS) (p1 : Int32) : l1_T wI Q am_i_X1_isSorted [.ref 34, .int p1] c (f_X1_isSorted N c p1) := l1_of (en_X1_isSorted hQ N c p1) ⟨rfl, rfl, trivial⟩
set_option maxRecDepth 100000 in
theorem ok_X1_sumOf_31 {Q : hS → am_H → Prop} (hQ : l1_em kc Q) (N : Nat) (p1 : Int32) {k4 : hS → Int32 → Int32 → Option (Int32 × hS)} (hk4 : ∀ c v2 v3, l1_G (wN wI) Q am_i_X1_sumOf 4 [some (.ref 34), some (.int p1), some (.int v2), some (.int v3)] [] c (k4 c v2 v3)) : ∀ (c : hS) (v3 : Int32) (w0 : Int32), l1_G (wN wI) Q am_i_X1_sumOf 31 [some (.ref 34), some (.int p1), none, some (.int v3)] [.int w0] c (f_X1_sumOf_31 N p1 k4 c v3 w0) := by
  intro c v3 w0
  rw [f_X1_sumOf_31]
  refine l1_many mt_X1_sumOf (pc' := 32) (L' := [some (.ref 34), some (.int p1), none, some (.int v3)]) (st' := [.ref 34, .int w0]) 1 rfl ?_
  refine l1_getR hQ mt_X1_sumOf rfl (o := 34) (ci := 0) (k := 0) (a := 1) (b := 2) rfl rfl rfl rfl rfl (q := 3) rfl ?_
  refine l1_many mt_X1_sumOf (pc' := 38) (L' := [some (.ref 34), some (.int p1), none, some (.int v3)]) (st' := [.int (p1 + v3), .ref 3, .int w0]) 3 rfl ?_
  refine l1_callV hQ mt_X1_sumOf mt_X2_get rfl rfl (o := 3) (ci := 1) (As := [.int (p1 + v3)]) (rest := [.int w0]) rfl rfl rfl rfl rfl rfl (st1 := fun x1 => [.int x1, .int w0]) (fun _ => rfl) (ok_X2_get hQ c 3 (p1 + v3) rfl) (fun x1 c2 => ?_)
  refine l1_many mt_X1_sumOf (pc' := 4) (L' := [some (.ref 34), some (.int p1), some (.int (w0 + x1)), some (.int (v3 + 1))]) (st' := []) 4 rfl ?_
  exact hk4 c2 (w0 + x1) (v3 + 1)
set_option maxRecDepth 100000 in
theorem ok_X1_sumOf_4 {Q : hS → am_H → Prop} (hQ : l1_em kc Q) (N : Nat) (p1 : Int32) : ∀ n : Nat, ∀ (c : hS) (v2 : Int32) (v3 : Int32), l1_G (wN wI) Q am_i_X1_sumOf 4 [some (.ref 34), some (.int p1), some (.int v2), some (.int v3)] [] c (f_X1_sumOf_4 N p1 n c v2 v3) := by
  intro n
  induction n with
  | zero => intro c v2 v3; exact l1_none
  | succ n ih =>
    intro c v2 v3
    rw [f_X1_sumOf_4]
    refine l1_many mt_X1_sumOf (pc' := bif am_cc .ge v3 512 then 49 else 11) (L' := [some (.ref 34), some (.int p1), some (.int v2), some (.int v3)]) (st' := []) 3 rfl ?_
    refine l1_bif rfl ?_ ?_
    · refine l1_many mt_X1_sumOf (pc' := 50) (L' := [some (.ref 34), some (.int p1), some (.int v2), some (.int v3)]) (st' := [.int v2]) 1 rfl ?_
      exact l1_ret mt_X1_sumOf rfl rfl rfl
    · refine l1_many mt_X1_sumOf (pc' := bif am_cc .lt v3 148 then 31 else 19) (L' := [some (.ref 34), some (.int p1), some (.int v2), some (.int v3)]) (st' := [.int v2]) 4 rfl ?_
      refine l1_bif rfl ?_ ?_
      · refine l1_weak (m := [true, true, false, true]) (L' := [some (.ref 34), some (.int p1), none, some (.int v3)]) rfl ?_
        exact ok_X1_sumOf_31 hQ N p1 ih c v3 v2
      · refine l1_many mt_X1_sumOf (pc' := bif am_cc .ge v3 156 then 31 else 26) (L' := [some (.ref 34), some (.int p1), some (.int v2), some (.int v3)]) (st' := [.int v2]) 3 rfl ?_
        refine l1_bif rfl ?_ ?_
        · refine l1_weak (m := [true, true, false, true]) (L' := [some (.ref 34), some (.int p1), none, some (.int v3)]) rfl ?_
          exact ok_X1_sumOf_31 hQ N p1 ih c v3 v2
        · refine l1_many mt_X1_sumOf (pc' := 4) (L' := [some (.ref 34), some (.int p1), some (.int (v2 + 32)), some (.int (v3 + 1))]) (st' := []) 6 rfl ?_
          exact ih c (v2 + 32) (v3 + 1)
set_option maxRecDepth 100000 in
theorem en_X1_sumOf {Q : hS → am_H → Prop} (hQ : l1_em kc Q) (N : Nat) (c : hS) (p1 : Int32) : l1_G (wN wI) Q am_i_X1_sumOf 0 [some (.ref 34), some (.int p1)] [] c (f_X1_sumOf N c p1) := by
  rw [f_X1_sumOf]
  refine l1_many mt_X1_sumOf (pc' := 4) (L' := [some (.ref 34), some (.int p1), some (.int 0), some (.int 0)]) (st' := []) 4 rfl ?_
  exact ok_X1_sumOf_4 hQ N p1 N c 0 0
theorem ok_X1_sumOf {Q : hS → am_H → Prop} (hQ : l1_em kc Q) (N : Nat) (c : hS) (p1 : Int32) : l1_T wI Q am_i_X1_sumOf [.ref 34, .int p1] c (f_X1_sumOf N c p1) := l1_of (en_X1_sumOf hQ N c p1) ⟨rfl, rfl, trivial⟩
set_option maxRecDepth 100000 in
theorem en_X1_isSummed {Q : hS → am_H → Prop} (hQ : l1_em kc Q) (N : Nat) (c : hS) (p1 : Int32) : l1_G (wN wI) Q am_i_X1_isSummed 0 [some (.ref 34), some (.int p1)] [] c (f_X1_isSummed N c p1) := by
  rw [f_X1_isSummed]
  refine l1_many mt_X1_isSummed (pc' := 9) (L' := [some (.ref 34), some (.int p1)]) (st' := [.int 3, .int 6, .int (p1 + 148), .ref 34]) 6 rfl ?_
  refine l1_callV hQ mt_X1_isSummed mt_X1_areDigits rfl rfl (o := 34) (ci := 0) (As := [.int (p1 + 148), .int 6, .int 3]) (rest := []) rfl rfl rfl rfl rfl rfl (st1 := fun x1 => [.int x1]) (fun _ => rfl) (ok_X1_areDigits hQ N c (p1 + 148) 6 3) (fun x1 c2 => ?_)
  refine l1_many mt_X1_isSummed (pc' := bif am_cc .ne x1 0 then 17 else 15) (L' := [some (.ref 34), some (.int p1)]) (st' := []) 1 rfl ?_
  refine l1_bin rfl ?_ ?_
  · refine l1_many mt_X1_isSummed (pc' := 16) (L' := [some (.ref 34), some (.int p1)]) (st' := [.int 0]) 1 rfl ?_
    exact l1_ret mt_X1_isSummed rfl rfl rfl
  · refine l1_many mt_X1_isSummed (pc' := 18) (L' := [some (.ref 34), some (.int p1)]) (st' := [.ref 34]) 1 rfl ?_
    refine l1_getR hQ mt_X1_isSummed rfl (o := 34) (ci := 0) (k := 0) (a := 1) (b := 2) rfl rfl rfl rfl rfl (q := 3) rfl ?_
    refine l1_many mt_X1_isSummed (pc' := 29) (L' := [some (.ref 34), some (.int p1)]) (st' := [.int ((p1 + 148) + 6), .ref 3]) 5 rfl ?_
    refine l1_callV hQ mt_X1_isSummed mt_X2_get rfl rfl (o := 3) (ci := 1) (As := [.int ((p1 + 148) + 6)]) (rest := []) rfl rfl rfl rfl rfl rfl (st1 := fun x3 => [.int x3]) (fun _ => rfl) (ok_X2_get hQ c2 3 ((p1 + 148) + 6) rfl) (fun x3 c4 => ?_)
    refine l1_many mt_X1_isSummed (pc' := bif am_cc .eq x3 0 then 52 else 35) (L' := [some (.ref 34), some (.int p1)]) (st' := []) 1 rfl ?_
    refine l1_bif rfl ?_ ?_
    · refine l1_many mt_X1_isSummed (pc' := 53) (L' := [some (.ref 34), some (.int p1)]) (st' := [.ref 34]) 1 rfl ?_
      refine l1_getR hQ mt_X1_isSummed rfl (o := 34) (ci := 0) (k := 0) (a := 1) (b := 2) rfl rfl rfl rfl rfl (q := 3) rfl ?_
      refine l1_many mt_X1_isSummed (pc' := 64) (L' := [some (.ref 34), some (.int p1)]) (st' := [.int ((p1 + 148) + 7), .ref 3]) 5 rfl ?_
      refine l1_callV hQ mt_X1_isSummed mt_X2_get rfl rfl (o := 3) (ci := 1) (As := [.int ((p1 + 148) + 7)]) (rest := []) rfl rfl rfl rfl rfl rfl (st1 := fun x5 => [.int x5]) (fun _ => rfl) (ok_X2_get hQ c4 3 ((p1 + 148) + 7) rfl) (fun x5 c6 => ?_)
      refine l1_many mt_X1_isSummed (pc' := bif am_cc .eq x5 32 then 89 else 72) (L' := [some (.ref 34), some (.int p1)]) (st' := []) 2 rfl ?_
      refine l1_bif rfl ?_ ?_
      · refine l1_many mt_X1_isSummed (pc' := 97) (L' := [some (.ref 34), some (.int p1)]) (st' := [.int 6, .int (p1 + 148), .ref 34]) 5 rfl ?_
        refine l1_callV hQ mt_X1_isSummed mt_X1_octal rfl rfl (o := 34) (ci := 0) (As := [.int (p1 + 148), .int 6]) (rest := []) rfl rfl rfl rfl rfl rfl (st1 := fun x7 => [.long x7]) (fun _ => rfl) (ok_X1_octal hQ N c6 (p1 + 148) 6) (fun x7 c8 => ?_)
        refine l1_many mt_X1_isSummed (pc' := 102) (L' := [some (.ref 34), some (.int p1)]) (st' := [.int p1, .ref 34, .long x7]) 2 rfl ?_
        refine l1_callV hQ mt_X1_isSummed mt_X1_sumOf rfl rfl (o := 34) (ci := 0) (As := [.int p1]) (rest := [.long x7]) rfl rfl rfl rfl rfl rfl (st1 := fun x9 => [.int x9, .long x7]) (fun _ => rfl) (ok_X1_sumOf hQ N c8 p1) (fun x9 c10 => ?_)
        refine l1_many mt_X1_isSummed (pc' := bif am_cc .eq (j_cmp x7 x9.toInt64) 0 then 126 else 110) (L' := [some (.ref 34), some (.int p1)]) (st' := []) 3 rfl ?_
        refine l1_bif rfl ?_ ?_
        · refine l1_many mt_X1_isSummed (pc' := 131) (L' := [some (.ref 34), some (.int p1)]) (st' := [.int 1]) 2 rfl ?_
          exact l1_ret mt_X1_isSummed rfl rfl rfl
        · refine l1_many mt_X1_isSummed (pc' := 111) (L' := [some (.ref 34), some (.int p1)]) (st' := [.ref 34]) 1 rfl ?_
          refine l1_getR hQ mt_X1_isSummed rfl (o := 34) (ci := 0) (k := 2) (a := 1) (b := 2) rfl rfl rfl rfl rfl (q := 9) rfl ?_
          refine l1_many mt_X1_isSummed (pc' := 120) (L' := [some (.ref 34), some (.int p1)]) (st' := [.int (p1 + 148), .int 4, .ref 9]) 4 rfl ?_
          refine l1_callV hQ mt_X1_isSummed mt_X6_tell rfl rfl (o := 9) (ci := 5) (As := [.int 4, .int (p1 + 148)]) (rest := []) rfl rfl rfl rfl rfl rfl (st1 := fun x11 => [.int x11]) (fun _ => rfl) (ok_X6_tell hQ c10 4 (p1 + 148)) (fun x11 c12 => ?_)
          refine l1_many mt_X1_isSummed (pc' := bif am_cc .eq x11 0 then 130 else 126) (L' := [some (.ref 34), some (.int p1)]) (st' := []) 1 rfl ?_
          refine l1_bif rfl ?_ ?_
          · refine l1_many mt_X1_isSummed (pc' := 131) (L' := [some (.ref 34), some (.int p1)]) (st' := [.int 0]) 1 rfl ?_
            exact l1_ret mt_X1_isSummed rfl rfl rfl
          · refine l1_many mt_X1_isSummed (pc' := 131) (L' := [some (.ref 34), some (.int p1)]) (st' := [.int 1]) 2 rfl ?_
            exact l1_ret mt_X1_isSummed rfl rfl rfl
      · refine l1_many mt_X1_isSummed (pc' := 73) (L' := [some (.ref 34), some (.int p1)]) (st' := [.ref 34]) 1 rfl ?_
        refine l1_getR hQ mt_X1_isSummed rfl (o := 34) (ci := 0) (k := 2) (a := 1) (b := 2) rfl rfl rfl rfl rfl (q := 9) rfl ?_
        refine l1_many mt_X1_isSummed (pc' := 85) (L' := [some (.ref 34), some (.int p1)]) (st' := [.int ((p1 + 148) + 7), .int 3, .ref 9]) 6 rfl ?_
        refine l1_callV hQ mt_X1_isSummed mt_X6_tell rfl rfl (o := 9) (ci := 5) (As := [.int 3, .int ((p1 + 148) + 7)]) (rest := []) rfl rfl rfl rfl rfl rfl (st1 := fun x13 => [.int x13]) (fun _ => rfl) (ok_X6_tell hQ c6 3 ((p1 + 148) + 7)) (fun x13 c14 => ?_)
        refine l1_ck (fun hz => ?_)
        exact l1_retZ mt_X1_isSummed rfl rfl rfl hz
    · refine l1_many mt_X1_isSummed (pc' := 36) (L' := [some (.ref 34), some (.int p1)]) (st' := [.ref 34]) 1 rfl ?_
      refine l1_getR hQ mt_X1_isSummed rfl (o := 34) (ci := 0) (k := 2) (a := 1) (b := 2) rfl rfl rfl rfl rfl (q := 9) rfl ?_
      refine l1_many mt_X1_isSummed (pc' := 48) (L' := [some (.ref 34), some (.int p1)]) (st' := [.int ((p1 + 148) + 6), .int 3, .ref 9]) 6 rfl ?_
      refine l1_callV hQ mt_X1_isSummed mt_X6_tell rfl rfl (o := 9) (ci := 5) (As := [.int 3, .int ((p1 + 148) + 6)]) (rest := []) rfl rfl rfl rfl rfl rfl (st1 := fun x15 => [.int x15]) (fun _ => rfl) (ok_X6_tell hQ c4 3 ((p1 + 148) + 6)) (fun x15 c16 => ?_)
      refine l1_ck (fun hz => ?_)
      exact l1_retZ mt_X1_isSummed rfl rfl rfl hz
theorem ok_X1_isSummed {Q : hS → am_H → Prop} (hQ : l1_em kc Q) (N : Nat) (c : hS) (p1 : Int32) : l1_T wI Q am_i_X1_isSummed [.ref 34, .int p1] c (f_X1_isSummed N c p1) := l1_of (en_X1_isSummed hQ N c p1) ⟨rfl, rfl, trivial⟩
set_option maxRecDepth 100000 in
theorem en_X1_isHead {Q : hS → am_H → Prop} (hQ : l1_em kc Q) (N : Nat) (c : hS) (p1 : Int32) : l1_G (wN wI) Q am_i_X1_isHead 0 [some (.ref 34), some (.int p1)] [] c (f_X1_isHead N c p1) := by
  rw [f_X1_isHead]
  refine l1_many mt_X1_isHead (pc' := 2) (L' := [some (.ref 34), some (.int p1)]) (st' := [.int p1, .ref 34]) 2 rfl ?_
  refine l1_callV hQ mt_X1_isHead mt_X1_isSummed rfl rfl (o := 34) (ci := 0) (As := [.int p1]) (rest := []) rfl rfl rfl rfl rfl rfl (st1 := fun x1 => [.int x1]) (fun _ => rfl) (ok_X1_isSummed hQ N c p1) (fun x1 c2 => ?_)
  refine l1_many mt_X1_isHead (pc' := bif am_cc .eq x1 0 then 102 else 8) (L' := [some (.ref 34), some (.int p1)]) (st' := []) 1 rfl ?_
  refine l1_bif rfl ?_ ?_
  · refine l1_many mt_X1_isHead (pc' := 103) (L' := [some (.ref 34), some (.int p1)]) (st' := [.int 0]) 1 rfl ?_
    exact l1_ret mt_X1_isHead rfl rfl rfl
  · refine l1_many mt_X1_isHead (pc' := 18) (L' := [some (.ref 34), some (.int p1)]) (st' := [.int 5, .ref 1000000001, .int (p1 + 257), .ref 34]) 6 rfl ?_
    refine l1_callV hQ mt_X1_isHead mt_X0_isMarked rfl rfl (o := 34) (ci := 0) (As := [.int (p1 + 257), .ref 1000000001, .int 5]) (rest := []) rfl rfl rfl rfl rfl rfl (st1 := fun x3 => [.int x3]) (fun _ => rfl) (ok_X0_isMarked_34 hQ N c2 (p1 + 257) sa1 5 oa1) (fun x3 c4 => ?_)
    refine l1_many mt_X1_isHead (pc' := bif am_cc .eq x3 0 then 102 else 24) (L' := [some (.ref 34), some (.int p1)]) (st' := []) 1 rfl ?_
    refine l1_bif rfl ?_ ?_
    · refine l1_many mt_X1_isHead (pc' := 103) (L' := [some (.ref 34), some (.int p1)]) (st' := [.int 0]) 1 rfl ?_
      exact l1_ret mt_X1_isHead rfl rfl rfl
    · refine l1_many mt_X1_isHead (pc' := 31) (L' := [some (.ref 34), some (.int p1)]) (st' := [.int 8, .int (p1 + 100), .ref 34]) 5 rfl ?_
      refine l1_callV hQ mt_X1_isHead mt_X1_isOctal rfl rfl (o := 34) (ci := 0) (As := [.int (p1 + 100), .int 8]) (rest := []) rfl rfl rfl rfl rfl rfl (st1 := fun x5 => [.int x5]) (fun _ => rfl) (ok_X1_isOctal hQ N c4 (p1 + 100) 8) (fun x5 c6 => ?_)
      refine l1_many mt_X1_isHead (pc' := bif am_cc .eq x5 0 then 102 else 37) (L' := [some (.ref 34), some (.int p1)]) (st' := []) 1 rfl ?_
      refine l1_bif rfl ?_ ?_
      · refine l1_many mt_X1_isHead (pc' := 103) (L' := [some (.ref 34), some (.int p1)]) (st' := [.int 0]) 1 rfl ?_
        exact l1_ret mt_X1_isHead rfl rfl rfl
      · refine l1_many mt_X1_isHead (pc' := 44) (L' := [some (.ref 34), some (.int p1)]) (st' := [.int 8, .int (p1 + 108), .ref 34]) 5 rfl ?_
        refine l1_callV hQ mt_X1_isHead mt_X1_isOctal rfl rfl (o := 34) (ci := 0) (As := [.int (p1 + 108), .int 8]) (rest := []) rfl rfl rfl rfl rfl rfl (st1 := fun x7 => [.int x7]) (fun _ => rfl) (ok_X1_isOctal hQ N c6 (p1 + 108) 8) (fun x7 c8 => ?_)
        refine l1_many mt_X1_isHead (pc' := bif am_cc .eq x7 0 then 102 else 50) (L' := [some (.ref 34), some (.int p1)]) (st' := []) 1 rfl ?_
        refine l1_bif rfl ?_ ?_
        · refine l1_many mt_X1_isHead (pc' := 103) (L' := [some (.ref 34), some (.int p1)]) (st' := [.int 0]) 1 rfl ?_
          exact l1_ret mt_X1_isHead rfl rfl rfl
        · refine l1_many mt_X1_isHead (pc' := 57) (L' := [some (.ref 34), some (.int p1)]) (st' := [.int 8, .int (p1 + 116), .ref 34]) 5 rfl ?_
          refine l1_callV hQ mt_X1_isHead mt_X1_isOctal rfl rfl (o := 34) (ci := 0) (As := [.int (p1 + 116), .int 8]) (rest := []) rfl rfl rfl rfl rfl rfl (st1 := fun x9 => [.int x9]) (fun _ => rfl) (ok_X1_isOctal hQ N c8 (p1 + 116) 8) (fun x9 c10 => ?_)
          refine l1_many mt_X1_isHead (pc' := bif am_cc .eq x9 0 then 102 else 63) (L' := [some (.ref 34), some (.int p1)]) (st' := []) 1 rfl ?_
          refine l1_bif rfl ?_ ?_
          · refine l1_many mt_X1_isHead (pc' := 103) (L' := [some (.ref 34), some (.int p1)]) (st' := [.int 0]) 1 rfl ?_
            exact l1_ret mt_X1_isHead rfl rfl rfl
          · refine l1_many mt_X1_isHead (pc' := 70) (L' := [some (.ref 34), some (.int p1)]) (st' := [.int 12, .int (p1 + 124), .ref 34]) 5 rfl ?_
            refine l1_callV hQ mt_X1_isHead mt_X1_isOctal rfl rfl (o := 34) (ci := 0) (As := [.int (p1 + 124), .int 12]) (rest := []) rfl rfl rfl rfl rfl rfl (st1 := fun x11 => [.int x11]) (fun _ => rfl) (ok_X1_isOctal hQ N c10 (p1 + 124) 12) (fun x11 c12 => ?_)
            refine l1_many mt_X1_isHead (pc' := bif am_cc .eq x11 0 then 102 else 76) (L' := [some (.ref 34), some (.int p1)]) (st' := []) 1 rfl ?_
            refine l1_bif rfl ?_ ?_
            · refine l1_many mt_X1_isHead (pc' := 103) (L' := [some (.ref 34), some (.int p1)]) (st' := [.int 0]) 1 rfl ?_
              exact l1_ret mt_X1_isHead rfl rfl rfl
            · refine l1_many mt_X1_isHead (pc' := 84) (L' := [some (.ref 34), some (.int p1)]) (st' := [.int 12, .int (p1 + 136), .ref 34]) 5 rfl ?_
              refine l1_callV hQ mt_X1_isHead mt_X1_isOctal rfl rfl (o := 34) (ci := 0) (As := [.int (p1 + 136), .int 12]) (rest := []) rfl rfl rfl rfl rfl rfl (st1 := fun x13 => [.int x13]) (fun _ => rfl) (ok_X1_isOctal hQ N c12 (p1 + 136) 12) (fun x13 c14 => ?_)
              refine l1_many mt_X1_isHead (pc' := bif am_cc .eq x13 0 then 102 else 90) (L' := [some (.ref 34), some (.int p1)]) (st' := []) 1 rfl ?_
              refine l1_bif rfl ?_ ?_
              · refine l1_many mt_X1_isHead (pc' := 103) (L' := [some (.ref 34), some (.int p1)]) (st' := [.int 0]) 1 rfl ?_
                exact l1_ret mt_X1_isHead rfl rfl rfl
              · refine l1_many mt_X1_isHead (pc' := 92) (L' := [some (.ref 34), some (.int p1)]) (st' := [.int p1, .ref 34]) 2 rfl ?_
                refine l1_callV hQ mt_X1_isHead mt_X1_isSorted rfl rfl (o := 34) (ci := 0) (As := [.int p1]) (rest := []) rfl rfl rfl rfl rfl rfl (st1 := fun x15 => [.int x15]) (fun _ => rfl) (ok_X1_isSorted hQ N c14 p1) (fun x15 c16 => ?_)
                refine l1_many mt_X1_isHead (pc' := bif am_cc .eq x15 0 then 102 else 98) (L' := [some (.ref 34), some (.int p1)]) (st' := []) 1 rfl ?_
                refine l1_bif rfl ?_ ?_
                · refine l1_many mt_X1_isHead (pc' := 103) (L' := [some (.ref 34), some (.int p1)]) (st' := [.int 0]) 1 rfl ?_
                  exact l1_ret mt_X1_isHead rfl rfl rfl
                · refine l1_many mt_X1_isHead (pc' := 103) (L' := [some (.ref 34), some (.int p1)]) (st' := [.int 1]) 2 rfl ?_
                  exact l1_ret mt_X1_isHead rfl rfl rfl
theorem ok_X1_isHead {Q : hS → am_H → Prop} (hQ : l1_em kc Q) (N : Nat) (c : hS) (p1 : Int32) : l1_T wI Q am_i_X1_isHead [.ref 34, .int p1] c (f_X1_isHead N c p1) := l1_of (en_X1_isHead hQ N c p1) ⟨rfl, rfl, trivial⟩
set_option maxRecDepth 100000 in
theorem ok_X1_addToPath_2 {Q : hS → am_H → Prop} (hQ : l1_em kc Q) (N : Nat) (p1 : Int32) (p2 : Int32) : ∀ n : Nat, ∀ (c : hS) (v3 : Int32), l1_G (wN wV) Q am_i_X1_addToPath 2 [some (.ref 34), some (.int p1), some (.int p2), some (.int v3)] [] c (f_X1_addToPath_2 N p1 p2 n c v3) := by
  intro n
  induction n with
  | zero => intro c v3; exact l1_none
  | succ n ih =>
    intro c v3
    rw [f_X1_addToPath_2]
    refine l1_many mt_X1_addToPath (pc' := bif am_cc .ge v3 (p1 + p2) then 41 else 9) (L' := [some (.ref 34), some (.int p1), some (.int p2), some (.int v3)]) (st' := []) 5 rfl ?_
    refine l1_bif rfl ?_ ?_
    · exact l1_ret mt_X1_addToPath rfl rfl rfl
    · refine l1_many mt_X1_addToPath (pc' := 10) (L' := [some (.ref 34), some (.int p1), some (.int p2), some (.int v3)]) (st' := [.ref 34]) 1 rfl ?_
      refine l1_getR hQ mt_X1_addToPath rfl (o := 34) (ci := 0) (k := 0) (a := 1) (b := 2) rfl rfl rfl rfl rfl (q := 3) rfl ?_
      refine l1_many mt_X1_addToPath (pc' := 14) (L' := [some (.ref 34), some (.int p1), some (.int p2), some (.int v3)]) (st' := [.int v3, .ref 3]) 1 rfl ?_
      refine l1_callV hQ mt_X1_addToPath mt_X2_get rfl rfl (o := 3) (ci := 1) (As := [.int v3]) (rest := []) rfl rfl rfl rfl rfl rfl (st1 := fun x1 => [.int x1]) (fun _ => rfl) (ok_X2_get hQ c 3 v3 rfl) (fun x1 c2 => ?_)
      refine l1_many mt_X1_addToPath (pc' := bif am_cc .eq x1 0 then 41 else 20) (L' := [some (.ref 34), some (.int p1), some (.int p2), some (.int v3)]) (st' := []) 1 rfl ?_
      refine l1_bif rfl ?_ ?_
      · exact l1_ret mt_X1_addToPath rfl rfl rfl
      · refine l1_many mt_X1_addToPath (pc' := 21) (L' := [some (.ref 34), some (.int p1), some (.int p2), some (.int v3)]) (st' := [.ref 34]) 1 rfl ?_
        refine l1_getR hQ mt_X1_addToPath rfl (o := 34) (ci := 0) (k := 1) (a := 1) (b := 2) rfl rfl rfl rfl rfl (q := 5) rfl ?_
        refine l1_many mt_X1_addToPath (pc' := 25) (L' := [some (.ref 34), some (.int p1), some (.int p2), some (.int v3)]) (st' := [.ref 34, .ref 5]) 1 rfl ?_
        refine l1_getR hQ mt_X1_addToPath rfl (o := 34) (ci := 0) (k := 0) (a := 1) (b := 2) rfl rfl rfl rfl rfl (q := 3) rfl ?_
        refine l1_many mt_X1_addToPath (pc' := 29) (L' := [some (.ref 34), some (.int p1), some (.int p2), some (.int v3)]) (st' := [.int v3, .ref 3, .ref 5]) 1 rfl ?_
        refine l1_callV hQ mt_X1_addToPath mt_X2_get rfl rfl (o := 3) (ci := 1) (As := [.int v3]) (rest := [.ref 5]) rfl rfl rfl rfl rfl rfl (st1 := fun x3 => [.int x3, .ref 5]) (fun _ => rfl) (ok_X2_get hQ c2 3 v3 rfl) (fun x3 c4 => ?_)
        refine l1_callV hQ mt_X1_addToPath mt_X2_add rfl rfl (o := 5) (ci := 1) (As := [.int x3]) (rest := []) rfl rfl rfl rfl rfl rfl (st1 := fun _ => []) (fun _ => rfl) (ok_X2_add hQ c4 5 x3 rfl) (fun _ c5 => ?_)
        refine l1_many mt_X1_addToPath (pc' := 2) (L' := [some (.ref 34), some (.int p1), some (.int p2), some (.int (v3 + 1))]) (st' := []) 2 rfl ?_
        exact ih c5 (v3 + 1)
set_option maxRecDepth 100000 in
theorem en_X1_addToPath {Q : hS → am_H → Prop} (hQ : l1_em kc Q) (N : Nat) (c : hS) (p1 : Int32) (p2 : Int32) : l1_G (wN wV) Q am_i_X1_addToPath 0 [some (.ref 34), some (.int p1), some (.int p2)] [] c (f_X1_addToPath N c p1 p2) := by
  rw [f_X1_addToPath]
  refine l1_many mt_X1_addToPath (pc' := 2) (L' := [some (.ref 34), some (.int p1), some (.int p2), some (.int p1)]) (st' := []) 2 rfl ?_
  exact ok_X1_addToPath_2 hQ N p1 p2 N c p1
theorem ok_X1_addToPath {Q : hS → am_H → Prop} (hQ : l1_em kc Q) (N : Nat) (c : hS) (p1 : Int32) (p2 : Int32) : l1_T wV Q am_i_X1_addToPath [.ref 34, .int p1, .int p2] c (f_X1_addToPath N c p1 p2) := l1_of (en_X1_addToPath hQ N c p1 p2) ⟨rfl, rfl, rfl, trivial⟩
