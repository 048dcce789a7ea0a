/-! THAT THE MACHINE FOLLOWS THEM, printed by gen_l1.py -/
set_option maxRecDepth 100000 in
theorem ok_X1_spell_39 {Q : hS → am_H → Prop} (hQ : l1_em kc Q) (N : Nat) (p1 : Int32) (p2 : Int32) : ∀ (c : hS), l1_G (wN wV) Q am_i_X1_spell 39 [some (.ref 34), some (.int p1), some (.int p2)] [] c (f_X1_spell_39 N p1 p2 c) := by
  intro c
  rw [f_X1_spell_39]
  refine l1_many mt_X1_spell (pc' := 43) (L' := [some (.ref 34), some (.int p1), some (.int p2)]) (st' := [.int 100, .int p1, .ref 34]) 3 rfl ?_
  refine l1_callV hQ mt_X1_spell mt_X1_addToPath rfl rfl (o := 34) (ci := 0) (As := [.int p1, .int 100]) (rest := []) rfl rfl rfl rfl rfl rfl (st1 := fun _ => []) (fun _ => rfl) (ok_X1_addToPath hQ N c p1 100) (fun _ c1 => ?_)
  refine l1_many mt_X1_spell (pc' := 47) (L' := [some (.ref 34), some (.int p1), some (.int p2)]) (st' := [.ref 34]) 1 rfl ?_
  refine l1_getR hQ mt_X1_spell rfl (o := 34) (ci := 0) (k := 1) (a := 1) (b := 2) rfl rfl rfl rfl rfl (q := 5) rfl ?_
  refine l1_callV hQ mt_X1_spell mt_X2_size rfl rfl (o := 5) (ci := 1) (As := []) (rest := []) rfl rfl rfl rfl rfl rfl (st1 := fun x2 => [.int x2]) (fun _ => rfl) (ok_X2_size hQ c1 5 rfl) (fun x2 c3 => ?_)
  refine l1_many mt_X1_spell (pc' := bif am_cc .eq p2 0 then 81 else 60) (L' := [some (.ref 34), some (.int p1), some (.int p2), some (.int (x2 - 1))]) (st' := []) 5 rfl ?_
  refine l1_bif rfl ?_ ?_
  · exact l1_ret mt_X1_spell rfl rfl rfl
  · refine l1_many mt_X1_spell (pc' := 61) (L' := [some (.ref 34), some (.int p1), some (.int p2), some (.int (x2 - 1))]) (st' := [.ref 34]) 1 rfl ?_
    refine l1_getR hQ mt_X1_spell rfl (o := 34) (ci := 0) (k := 1) (a := 1) (b := 2) rfl rfl rfl rfl rfl (q := 5) rfl ?_
    refine l1_many mt_X1_spell (pc' := 65) (L' := [some (.ref 34), some (.int p1), some (.int p2), some (.int (x2 - 1))]) (st' := [.int (x2 - 1), .ref 5]) 1 rfl ?_
    refine l1_callV hQ mt_X1_spell mt_X2_get rfl rfl (o := 5) (ci := 1) (As := [.int (x2 - 1)]) (rest := []) rfl rfl rfl rfl rfl rfl (st1 := fun x4 => [.int x4]) (fun _ => rfl) (ok_X2_get hQ c3 5 (x2 - 1) rfl) (fun x4 c5 => ?_)
    refine l1_many mt_X1_spell (pc' := bif am_cc .ne x4 47 then 81 else 73) (L' := [some (.ref 34), some (.int p1), some (.int p2), some (.int (x2 - 1))]) (st' := []) 2 rfl ?_
    refine l1_bin rfl ?_ ?_
    · refine l1_many mt_X1_spell (pc' := 74) (L' := [some (.ref 34), some (.int p1), some (.int p2), some (.int (x2 - 1))]) (st' := [.ref 34]) 1 rfl ?_
      refine l1_getR hQ mt_X1_spell rfl (o := 34) (ci := 0) (k := 1) (a := 1) (b := 2) rfl rfl rfl rfl rfl (q := 5) rfl ?_
      refine l1_many mt_X1_spell (pc' := 78) (L' := [some (.ref 34), some (.int p1), some (.int p2), some (.int (x2 - 1))]) (st' := [.int (x2 - 1), .ref 5]) 1 rfl ?_
      refine l1_callV hQ mt_X1_spell mt_X2_cutTo rfl rfl (o := 5) (ci := 1) (As := [.int (x2 - 1)]) (rest := []) rfl rfl rfl rfl rfl rfl (st1 := fun _ => []) (fun _ => rfl) (ok_X2_cutTo hQ c5 5 (x2 - 1) rfl) (fun _ c6 => ?_)
      exact l1_ret mt_X1_spell rfl rfl rfl
    · exact l1_ret mt_X1_spell rfl rfl rfl
set_option maxRecDepth 100000 in
theorem en_X1_spell {Q : hS → am_H → Prop} (hQ : l1_em kc Q) (N : Nat) (c : hS) (p1 : Int32) (p2 : Int32) : l1_G (wN wV) Q am_i_X1_spell 0 [some (.ref 34), some (.int p1), some (.int p2)] [] c (f_X1_spell N c p1 p2) := by
  rw [f_X1_spell]
  refine l1_many mt_X1_spell (pc' := 1) (L' := [some (.ref 34), some (.int p1), some (.int p2)]) (st' := [.ref 34]) 1 rfl ?_
  refine l1_getR hQ mt_X1_spell rfl (o := 34) (ci := 0) (k := 1) (a := 1) (b := 2) rfl rfl rfl rfl rfl (q := 5) rfl ?_
  refine l1_many mt_X1_spell (pc' := 5) (L' := [some (.ref 34), some (.int p1), some (.int p2)]) (st' := [.int 0, .ref 5]) 1 rfl ?_
  refine l1_callV hQ mt_X1_spell mt_X2_cutTo rfl rfl (o := 5) (ci := 1) (As := [.int 0]) (rest := []) rfl rfl rfl rfl rfl rfl (st1 := fun _ => []) (fun _ => rfl) (ok_X2_cutTo hQ c 5 0 rfl) (fun _ c1 => ?_)
  refine l1_many mt_X1_spell (pc' := 17) (L' := [some (.ref 34), some (.int p1), some (.int p2)]) (st' := [.int 155, .int (p1 + 345), .ref 34]) 5 rfl ?_
  refine l1_callV hQ mt_X1_spell mt_X1_addToPath rfl rfl (o := 34) (ci := 0) (As := [.int (p1 + 345), .int 155]) (rest := []) rfl rfl rfl rfl rfl rfl (st1 := fun _ => []) (fun _ => rfl) (ok_X1_addToPath hQ N c1 (p1 + 345) 155) (fun _ c2 => ?_)
  refine l1_many mt_X1_spell (pc' := 21) (L' := [some (.ref 34), some (.int p1), some (.int p2)]) (st' := [.ref 34]) 1 rfl ?_
  refine l1_getR hQ mt_X1_spell rfl (o := 34) (ci := 0) (k := 1) (a := 1) (b := 2) rfl rfl rfl rfl rfl (q := 5) rfl ?_
  refine l1_callV hQ mt_X1_spell mt_X2_size rfl rfl (o := 5) (ci := 1) (As := []) (rest := []) rfl rfl rfl rfl rfl rfl (st1 := fun x3 => [.int x3]) (fun _ => rfl) (ok_X2_size hQ c2 5 rfl) (fun x3 c4 => ?_)
  refine l1_many mt_X1_spell (pc' := bif am_cc .le x3 0 then 39 else 30) (L' := [some (.ref 34), some (.int p1), some (.int p2)]) (st' := []) 1 rfl ?_
  refine l1_bif rfl ?_ ?_
  · exact ok_X1_spell_39 hQ N p1 p2 c4
  · refine l1_many mt_X1_spell (pc' := 31) (L' := [some (.ref 34), some (.int p1), some (.int p2)]) (st' := [.ref 34]) 1 rfl ?_
    refine l1_getR hQ mt_X1_spell rfl (o := 34) (ci := 0) (k := 1) (a := 1) (b := 2) rfl rfl rfl rfl rfl (q := 5) rfl ?_
    refine l1_many mt_X1_spell (pc' := 36) (L' := [some (.ref 34), some (.int p1), some (.int p2)]) (st' := [.int 47, .ref 5]) 1 rfl ?_
    refine l1_callV hQ mt_X1_spell mt_X2_add rfl rfl (o := 5) (ci := 1) (As := [.int 47]) (rest := []) rfl rfl rfl rfl rfl rfl (st1 := fun _ => []) (fun _ => rfl) (ok_X2_add hQ c4 5 47 rfl) (fun _ c5 => ?_)
    exact ok_X1_spell_39 hQ N p1 p2 c5
theorem ok_X1_spell {Q : hS → am_H → Prop} (hQ : l1_em kc Q) (N : Nat) (c : hS) (p1 : Int32) (p2 : Int32) : l1_T wV Q am_i_X1_spell [.ref 34, .int p1, .int p2] c (f_X1_spell N c p1 p2) := l1_of (en_X1_spell hQ N c p1 p2) ⟨rfl, rfl, rfl, trivial⟩
set_option maxRecDepth 100000 in
theorem ok_X1_takeIn_92 {Q : hS → am_H → Prop} (hQ : l1_em kc Q) (N : Nat) (p1 : Nat) (hp1 : kc p1 = 8) {k4 : hS → Int32 → Int32 → Option (Int32 × hS)} (hk4 : ∀ c v2 v3, l1_G (wN wI) Q am_i_X1_takeIn 4 [some (.ref 34), some (.ref p1), some (.int v2), some (.int v3)] [] c (k4 c v2 v3)) : ∀ (c : hS) (v2 : Int32) (v3 : Int32) (w0 : Int32), l1_G (wN wI) Q am_i_X1_takeIn 92 [some (.ref 34), some (.ref p1), some (.int v2), some (.int v3)] [.int w0] c (f_X1_takeIn_92 N p1 k4 c v2 v3 w0) := by
  intro c v2 v3 w0
  rw [f_X1_takeIn_92]
  refine l1_many mt_X1_takeIn (pc' := 108) (L' := [some (.ref 34), some (.ref p1), some (.int v2), some (.int v3), some (.int w0), some (.int (v2 + 512))]) (st' := [.int 11, .int (v2 + 124), .ref 34]) 10 rfl ?_
  refine l1_callV hQ mt_X1_takeIn mt_X1_octal rfl rfl (o := 34) (ci := 0) (As := [.int (v2 + 124), .int 11]) (rest := []) rfl rfl rfl rfl rfl rfl (st1 := fun x1 => [.long x1]) (fun _ => rfl) (ok_X1_octal hQ N c (v2 + 124) 11) (fun x1 c2 => ?_)
  refine l1_many mt_X1_takeIn (pc' := 121) (L' := [some (.ref 34), some (.ref p1), some (.int v2), some (.int v3), some (.int w0), some (.int (v2 + 512)), some (.int x1.toInt32)]) (st' := [.int 512, .int x1.toInt32, .int (v2 + 512)]) 5 rfl ?_
  refine l1_callS mt_X1_takeIn mt_X11_roundedUp rfl rfl (As := [.int x1.toInt32, .int 512]) (rest := [.int (v2 + 512)]) rfl rfl rfl (st1 := fun x3 => [.int x3, .int (v2 + 512)]) (fun _ => rfl) (ok_X11_roundedUp hQ c2 x1.toInt32 512) (fun x3 c4 => ?_)
  refine l1_many mt_X1_takeIn (pc' := 131) (L' := [some (.ref 34), some (.ref p1), some (.int v2), some (.int v3), some (.int w0), some (.int (v2 + 512)), some (.int x1.toInt32), some (.int ((v2 + 512) + x3))]) (st' := [.int w0, .int v2, .ref 34]) 5 rfl ?_
  refine l1_callV hQ mt_X1_takeIn mt_X1_spell rfl rfl (o := 34) (ci := 0) (As := [.int v2, .int w0]) (rest := []) rfl rfl rfl rfl rfl rfl (st1 := fun _ => []) (fun _ => rfl) (ok_X1_spell hQ N c4 v2 w0) (fun _ c5 => ?_)
  refine l1_many mt_X1_takeIn (pc' := 136) (L' := [some (.ref 34), some (.ref p1), some (.int v2), some (.int v3), some (.int w0), some (.int (v2 + 512)), some (.int x1.toInt32), some (.int ((v2 + 512) + x3))]) (st' := [.int v2, .ref 34]) 2 rfl ?_
  refine l1_callV hQ mt_X1_takeIn mt_X0_isNamed rfl rfl (o := 34) (ci := 0) (As := [.int v2]) (rest := []) rfl rfl rfl rfl rfl rfl (st1 := fun x6 => [.int x6]) (fun _ => rfl) (ok_X0_isNamed_34 hQ N c5 v2) (fun x6 c7 => ?_)
  refine l1_many mt_X1_takeIn (pc' := bif am_cc .eq x6 0 then 173 else 142) (L' := [some (.ref 34), some (.ref p1), some (.int v2), some (.int v3), some (.int w0), some (.int (v2 + 512)), some (.int x1.toInt32), some (.int ((v2 + 512) + x3))]) (st' := []) 1 rfl ?_
  refine l1_bif rfl ?_ ?_
  · refine l1_many mt_X1_takeIn (pc' := 174) (L' := [some (.ref 34), some (.ref p1), some (.int v2), some (.int v3), some (.int w0), some (.int (v2 + 512)), some (.int x1.toInt32), some (.int ((v2 + 512) + x3))]) (st' := [.int 0]) 1 rfl ?_
    exact l1_ret mt_X1_takeIn rfl rfl rfl
  · refine l1_many mt_X1_takeIn (pc' := 145) (L' := [some (.ref 34), some (.ref p1), some (.int v2), some (.int v3), some (.int w0), some (.int (v2 + 512)), some (.int x1.toInt32), some (.int ((v2 + 512) + x3))]) (st' := [.int ((v2 + 512) + x3), .ref 34]) 2 rfl ?_
    refine l1_callV hQ mt_X1_takeIn mt_X0_reaches rfl rfl (o := 34) (ci := 0) (As := [.int ((v2 + 512) + x3)]) (rest := []) rfl rfl rfl rfl rfl rfl (st1 := fun x8 => [.int x8]) (fun _ => rfl) (ok_X0_reaches_34 hQ c7 ((v2 + 512) + x3)) (fun x8 c9 => ?_)
    refine l1_many mt_X1_takeIn (pc' := bif am_cc .eq x8 0 then 173 else 151) (L' := [some (.ref 34), some (.ref p1), some (.int v2), some (.int v3), some (.int w0), some (.int (v2 + 512)), some (.int x1.toInt32), some (.int ((v2 + 512) + x3))]) (st' := []) 1 rfl ?_
    refine l1_bif rfl ?_ ?_
    · refine l1_many mt_X1_takeIn (pc' := 174) (L' := [some (.ref 34), some (.ref p1), some (.int v2), some (.int v3), some (.int w0), some (.int (v2 + 512)), some (.int x1.toInt32), some (.int ((v2 + 512) + x3))]) (st' := [.int 0]) 1 rfl ?_
      exact l1_ret mt_X1_takeIn rfl rfl rfl
    · refine l1_many mt_X1_takeIn (pc' := 156) (L' := [some (.ref 34), some (.ref p1), some (.int v2), some (.int v3), some (.int w0), some (.int (v2 + 512)), some (.int x1.toInt32), some (.int ((v2 + 512) + x3))]) (st' := [.ref 34, .int w0, .ref p1, .ref 34]) 4 rfl ?_
      refine l1_getR hQ mt_X1_takeIn rfl (o := 34) (ci := 0) (k := 0) (a := 1) (b := 2) rfl rfl rfl rfl rfl (q := 3) rfl ?_
      refine l1_many mt_X1_takeIn (pc' := 167) (L' := [some (.ref 34), some (.ref p1), some (.int v2), some (.int v3), some (.int w0), some (.int (v2 + 512)), some (.int x1.toInt32), some (.int ((v2 + 512) + x3))]) (st' := [.int v2, .int ((v2 + 512) + x1.toInt32), .int (v2 + 512), .ref 3, .int w0, .ref p1, .ref 34]) 5 rfl ?_
      refine l1_callV hQ mt_X1_takeIn mt_X0_arrives rfl rfl (o := 34) (ci := 0) (As := [.ref p1, .int w0, .ref 3, .int (v2 + 512), .int ((v2 + 512) + x1.toInt32), .int v2]) (rest := []) rfl rfl rfl rfl rfl rfl (st1 := fun x10 => [.int x10]) (fun _ => rfl) (ok_X0_arrives_34 hQ N c9 p1 w0 3 (v2 + 512) ((v2 + 512) + x1.toInt32) v2 hp1 rfl) (fun x10 c11 => ?_)
      refine l1_many mt_X1_takeIn (pc' := bif am_cc .ne x10 0 then 175 else 173) (L' := [some (.ref 34), some (.ref p1), some (.int v2), some (.int v3), some (.int w0), some (.int (v2 + 512)), some (.int x1.toInt32), some (.int ((v2 + 512) + x3))]) (st' := []) 1 rfl ?_
      refine l1_bin rfl ?_ ?_
      · refine l1_many mt_X1_takeIn (pc' := 174) (L' := [some (.ref 34), some (.ref p1), some (.int v2), some (.int v3), some (.int w0), some (.int (v2 + 512)), some (.int x1.toInt32), some (.int ((v2 + 512) + x3))]) (st' := [.int 0]) 1 rfl ?_
        exact l1_ret mt_X1_takeIn rfl rfl rfl
      · refine l1_many mt_X1_takeIn (pc' := 4) (L' := [some (.ref 34), some (.ref p1), some (.int ((v2 + 512) + x3)), some (.int (v3 + 1)), some (.int w0), some (.int (v2 + 512)), some (.int x1.toInt32), some (.int ((v2 + 512) + x3))]) (st' := []) 4 rfl ?_
        refine l1_weak (m := [true, true, true, true, false, false, false, false]) (L' := [some (.ref 34), some (.ref p1), some (.int ((v2 + 512) + x3)), some (.int (v3 + 1))]) rfl ?_
        exact hk4 c11 ((v2 + 512) + x3) (v3 + 1)
set_option maxRecDepth 100000 in
theorem ok_X1_takeIn_184 {Q : hS → am_H → Prop} (hQ : l1_em kc Q) (N : Nat) (p1 : Nat) (hp1 : kc p1 = 8) : ∀ (c : hS), l1_G (wN wI) Q am_i_X1_takeIn 184 [some (.ref 34)] [] c (f_X1_takeIn_184 N p1 c) := by
  intro c
  rw [f_X1_takeIn_184]
  refine l1_many mt_X1_takeIn (pc' := 185) (L' := [some (.ref 34)]) (st' := [.ref 34]) 1 rfl ?_
  refine l1_getR hQ mt_X1_takeIn rfl (o := 34) (ci := 0) (k := 2) (a := 1) (b := 2) rfl rfl rfl rfl rfl (q := 9) rfl ?_
  refine l1_many mt_X1_takeIn (pc' := 190) (L' := [some (.ref 34)]) (st' := [.ref 34, .int 1, .ref 9]) 2 rfl ?_
  refine l1_getR hQ mt_X1_takeIn rfl (o := 34) (ci := 0) (k := 0) (a := 1) (b := 2) rfl rfl rfl rfl rfl (q := 3) rfl ?_
  refine l1_callV hQ mt_X1_takeIn mt_X2_size rfl rfl (o := 3) (ci := 1) (As := []) (rest := [.int 1, .ref 9]) rfl rfl rfl rfl rfl rfl (st1 := fun x1 => [.int x1, .int 1, .ref 9]) (fun _ => rfl) (ok_X2_size hQ c 3 rfl) (fun x1 c2 => ?_)
  refine l1_callV hQ mt_X1_takeIn mt_X6_tell rfl rfl (o := 9) (ci := 5) (As := [.int 1, .int x1]) (rest := []) rfl rfl rfl rfl rfl rfl (st1 := fun x3 => [.int x3]) (fun _ => rfl) (ok_X6_tell hQ c2 1 x1) (fun x3 c4 => ?_)
  refine l1_ck (fun hz => ?_)
  exact l1_retZ mt_X1_takeIn rfl rfl rfl hz
set_option maxRecDepth 100000 in
theorem ok_X1_takeIn_4 {Q : hS → am_H → Prop} (hQ : l1_em kc Q) (N : Nat) (p1 : Nat) (hp1 : kc p1 = 8) : ∀ n : Nat, ∀ (c : hS) (v2 : Int32) (v3 : Int32), l1_G (wN wI) Q am_i_X1_takeIn 4 [some (.ref 34), some (.ref p1), some (.int v2), some (.int v3)] [] c (f_X1_takeIn_4 N p1 n c v2 v3) := by
  intro n
  induction n with
  | zero => intro c v2 v3; exact l1_none
  | succ n ih =>
    intro c v2 v3
    rw [f_X1_takeIn_4]
    refine l1_many mt_X1_takeIn (pc' := bif am_cc .ge v3 20000 then 184 else 11) (L' := [some (.ref 34), some (.ref p1), some (.int v2), some (.int v3)]) (st' := []) 3 rfl ?_
    refine l1_bif rfl ?_ ?_
    · refine l1_weak (m := [true, false, false, false, false, false, false, false]) (L' := [some (.ref 34)]) rfl ?_
      exact ok_X1_takeIn_184 hQ N p1 hp1 c
    · refine l1_many mt_X1_takeIn (pc' := 17) (L' := [some (.ref 34), some (.ref p1), some (.int v2), some (.int v3)]) (st' := [.ref 34, .int (v2 + 512)]) 4 rfl ?_
      refine l1_getR hQ mt_X1_takeIn rfl (o := 34) (ci := 0) (k := 0) (a := 1) (b := 2) rfl rfl rfl rfl rfl (q := 3) rfl ?_
      refine l1_callV hQ mt_X1_takeIn mt_X2_size rfl rfl (o := 3) (ci := 1) (As := []) (rest := [.int (v2 + 512)]) rfl rfl rfl rfl rfl rfl (st1 := fun x1 => [.int x1, .int (v2 + 512)]) (fun _ => rfl) (ok_X2_size hQ c 3 rfl) (fun x1 c2 => ?_)
      refine l1_many mt_X1_takeIn (pc' := bif am_cc .gt (v2 + 512) x1 then 184 else 26) (L' := [some (.ref 34), some (.ref p1), some (.int v2), some (.int v3)]) (st' := []) 1 rfl ?_
      refine l1_bif rfl ?_ ?_
      · refine l1_weak (m := [true, false, false, false, false, false, false, false]) (L' := [some (.ref 34)]) rfl ?_
        exact ok_X1_takeIn_184 hQ N p1 hp1 c2
      · refine l1_many mt_X1_takeIn (pc' := 28) (L' := [some (.ref 34), some (.ref p1), some (.int v2), some (.int v3)]) (st' := [.int v2, .ref 34]) 2 rfl ?_
        refine l1_callV hQ mt_X1_takeIn mt_X1_isEmptyBlock rfl rfl (o := 34) (ci := 0) (As := [.int v2]) (rest := []) rfl rfl rfl rfl rfl rfl (st1 := fun x3 => [.int x3]) (fun _ => rfl) (ok_X1_isEmptyBlock hQ N c2 v2) (fun x3 c4 => ?_)
        refine l1_many mt_X1_takeIn (pc' := bif am_cc .eq x3 0 then 60 else 34) (L' := [some (.ref 34), some (.ref p1), some (.int v2), some (.int v3)]) (st' := []) 1 rfl ?_
        refine l1_bif rfl ?_ ?_
        · refine l1_many mt_X1_takeIn (pc' := 62) (L' := [some (.ref 34), some (.ref p1), some (.int v2), some (.int v3)]) (st' := [.int v2, .ref 34]) 2 rfl ?_
          refine l1_callV hQ mt_X1_takeIn mt_X1_isHead rfl rfl (o := 34) (ci := 0) (As := [.int v2]) (rest := []) rfl rfl rfl rfl rfl rfl (st1 := fun x5 => [.int x5]) (fun _ => rfl) (ok_X1_isHead hQ N c4 v2) (fun x5 c6 => ?_)
          refine l1_many mt_X1_takeIn (pc' := bif am_cc .ne x5 0 then 70 else 68) (L' := [some (.ref 34), some (.ref p1), some (.int v2), some (.int v3)]) (st' := []) 1 rfl ?_
          refine l1_bin rfl ?_ ?_
          · refine l1_many mt_X1_takeIn (pc' := 69) (L' := [some (.ref 34), some (.ref p1), some (.int v2), some (.int v3)]) (st' := [.int 0]) 1 rfl ?_
            exact l1_ret mt_X1_takeIn rfl rfl rfl
          · refine l1_many mt_X1_takeIn (pc' := 71) (L' := [some (.ref 34), some (.ref p1), some (.int v2), some (.int v3)]) (st' := [.ref 34]) 1 rfl ?_
            refine l1_getR hQ mt_X1_takeIn rfl (o := 34) (ci := 0) (k := 0) (a := 1) (b := 2) rfl rfl rfl rfl rfl (q := 3) rfl ?_
            refine l1_many mt_X1_takeIn (pc' := 79) (L' := [some (.ref 34), some (.ref p1), some (.int v2), some (.int v3)]) (st' := [.int (v2 + 156), .ref 3]) 3 rfl ?_
            refine l1_callV hQ mt_X1_takeIn mt_X2_get rfl rfl (o := 3) (ci := 1) (As := [.int (v2 + 156)]) (rest := []) rfl rfl rfl rfl rfl rfl (st1 := fun x7 => [.int x7]) (fun _ => rfl) (ok_X2_get hQ c6 3 (v2 + 156) rfl) (fun x7 c8 => ?_)
            refine l1_many mt_X1_takeIn (pc' := bif am_cc .ne x7 53 then 91 else 87) (L' := [some (.ref 34), some (.ref p1), some (.int v2), some (.int v3)]) (st' := []) 2 rfl ?_
            refine l1_bin rfl ?_ ?_
            · refine l1_many mt_X1_takeIn (pc' := 92) (L' := [some (.ref 34), some (.ref p1), some (.int v2), some (.int v3)]) (st' := [.int 1]) 2 rfl ?_
              exact ok_X1_takeIn_92 hQ N p1 hp1 ih c8 v2 v3 1
            · refine l1_many mt_X1_takeIn (pc' := 92) (L' := [some (.ref 34), some (.ref p1), some (.int v2), some (.int v3)]) (st' := [.int 0]) 1 rfl ?_
              exact ok_X1_takeIn_92 hQ N p1 hp1 ih c8 v2 v3 0
        · refine l1_many mt_X1_takeIn (pc' := 40) (L' := [some (.ref 34), some (.ref p1), some (.int v2), some (.int v3)]) (st' := [.int (v2 + 1024), .ref 34]) 4 rfl ?_
          refine l1_callV hQ mt_X1_takeIn mt_X0_reaches rfl rfl (o := 34) (ci := 0) (As := [.int (v2 + 1024)]) (rest := []) rfl rfl rfl rfl rfl rfl (st1 := fun x9 => [.int x9]) (fun _ => rfl) (ok_X0_reaches_34 hQ c4 (v2 + 1024)) (fun x9 c10 => ?_)
          refine l1_many mt_X1_takeIn (pc' := bif am_cc .eq x9 0 then 58 else 46) (L' := [some (.ref 34), some (.ref p1), some (.int v2), some (.int v3)]) (st' := []) 1 rfl ?_
          refine l1_bif rfl ?_ ?_
          · refine l1_many mt_X1_takeIn (pc' := 59) (L' := [some (.ref 34), some (.ref p1), some (.int v2), some (.int v3)]) (st' := [.int 0]) 1 rfl ?_
            exact l1_ret mt_X1_takeIn rfl rfl rfl
          · refine l1_many mt_X1_takeIn (pc' := 48) (L' := [some (.ref 34), some (.ref p1), some (.int v2), some (.int v3)]) (st' := [.int v2, .ref 34]) 2 rfl ?_
            refine l1_callV hQ mt_X1_takeIn mt_X0_isZeroFrom rfl rfl (o := 34) (ci := 0) (As := [.int v2]) (rest := []) rfl rfl rfl rfl rfl rfl (st1 := fun x11 => [.int x11]) (fun _ => rfl) (ok_X0_isZeroFrom_34 hQ N c10 v2) (fun x11 c12 => ?_)
            refine l1_many mt_X1_takeIn (pc' := bif am_cc .eq x11 0 then 58 else 54) (L' := [some (.ref 34), some (.ref p1), some (.int v2), some (.int v3)]) (st' := []) 1 rfl ?_
            refine l1_bif rfl ?_ ?_
            · refine l1_many mt_X1_takeIn (pc' := 59) (L' := [some (.ref 34), some (.ref p1), some (.int v2), some (.int v3)]) (st' := [.int 0]) 1 rfl ?_
              exact l1_ret mt_X1_takeIn rfl rfl rfl
            · refine l1_many mt_X1_takeIn (pc' := 59) (L' := [some (.ref 34), some (.ref p1), some (.int v2), some (.int v3)]) (st' := [.int 1]) 2 rfl ?_
              exact l1_ret mt_X1_takeIn rfl rfl rfl
set_option maxRecDepth 100000 in
theorem en_X1_takeIn {Q : hS → am_H → Prop} (hQ : l1_em kc Q) (N : Nat) (c : hS) (p1 : Nat) (hp1 : kc p1 = 8) : l1_G (wN wI) Q am_i_X1_takeIn 0 [some (.ref 34), some (.ref p1)] [] c (f_X1_takeIn N c p1) := by
  rw [f_X1_takeIn]
  refine l1_many mt_X1_takeIn (pc' := 4) (L' := [some (.ref 34), some (.ref p1), some (.int 0), some (.int 0)]) (st' := []) 4 rfl ?_
  exact ok_X1_takeIn_4 hQ N p1 hp1 N c 0 0
theorem ok_X1_takeIn {Q : hS → am_H → Prop} (hQ : l1_em kc Q) (N : Nat) (c : hS) (p1 : Nat) (hp1 : kc p1 = 8) : l1_T wI Q am_i_X1_takeIn [.ref 34, .ref p1] c (f_X1_takeIn N c p1) := l1_of (en_X1_takeIn hQ N c p1 hp1) ⟨rfl, rfl, trivial⟩
set_option maxRecDepth 100000 in
theorem ok_X1_addOctal_4 {Q : hS → am_H → Prop} (hQ : l1_em kc Q) (N : Nat) (p1 : Int32) (p2 : Int32) : ∀ n : Nat, ∀ (c : hS) (v3 : Int32), l1_G (wN wV) Q am_i_X1_addOctal 4 [some (.ref 34), some (.int p1), none, some (.int v3)] [] c (f_X1_addOctal_4 N p1 p2 n c v3) := by
  intro n
  induction n with
  | zero => intro c v3; exact l1_none
  | succ n ih =>
    intro c v3
    rw [f_X1_addOctal_4]
    refine l1_many mt_X1_addOctal (pc' := bif am_cc .lt v3 0 then 32 else 8) (L' := [some (.ref 34), some (.int p1), none, some (.int v3)]) (st' := []) 2 rfl ?_
    refine l1_bif rfl ?_ ?_
    · exact l1_ret mt_X1_addOctal rfl rfl rfl
    · refine l1_many mt_X1_addOctal (pc' := 9) (L' := [some (.ref 34), some (.int p1), none, some (.int v3)]) (st' := [.ref 34]) 1 rfl ?_
      refine l1_getR hQ mt_X1_addOctal rfl (o := 34) (ci := 0) (k := 0) (a := 1) (b := 2) rfl rfl rfl rfl rfl (q := 3) rfl ?_
      refine l1_many mt_X1_addOctal (pc' := 23) (L' := [some (.ref 34), some (.int p1), none, some (.int v3)]) (st' := [.int (48 + ((j_ushr p1 (3 * v3)) &&& 7)), .ref 3]) 9 rfl ?_
      refine l1_callV hQ mt_X1_addOctal mt_X2_add rfl rfl (o := 3) (ci := 1) (As := [.int (48 + ((j_ushr p1 (3 * v3)) &&& 7))]) (rest := []) rfl rfl rfl rfl rfl rfl (st1 := fun _ => []) (fun _ => rfl) (ok_X2_add hQ c 3 (48 + ((j_ushr p1 (3 * v3)) &&& 7)) rfl) (fun _ c1 => ?_)
      refine l1_many mt_X1_addOctal (pc' := 4) (L' := [some (.ref 34), some (.int p1), none, some (.int (v3 + (-1)))]) (st' := []) 2 rfl ?_
      exact ih c1 (v3 + (-1))
set_option maxRecDepth 100000 in
theorem en_X1_addOctal {Q : hS → am_H → Prop} (hQ : l1_em kc Q) (N : Nat) (c : hS) (p1 : Int32) (p2 : Int32) : l1_G (wN wV) Q am_i_X1_addOctal 0 [some (.ref 34), some (.int p1), some (.int p2)] [] c (f_X1_addOctal N c p1 p2) := by
  rw [f_X1_addOctal]
  refine l1_many mt_X1_addOctal (pc' := 4) (L' := [some (.ref 34), some (.int p1), some (.int p2), some (.int (p2 - 1))]) (st' := []) 4 rfl ?_
  refine l1_weak (m := [true, true, false, true]) (L' := [some (.ref 34), some (.int p1), none, some (.int (p2 - 1))]) rfl ?_
  exact ok_X1_addOctal_4 hQ N p1 p2 N c (p2 - 1)
theorem ok_X1_addOctal {Q : hS → am_H → Prop} (hQ : l1_em kc Q) (N : Nat) (c : hS) (p1 : Int32) (p2 : Int32) : l1_T wV Q am_i_X1_addOctal [.ref 34, .int p1, .int p2] c (f_X1_addOctal N c p1 p2) := l1_of (en_X1_addOctal hQ N c p1 p2) ⟨rfl, rfl, rfl, trivial⟩
set_option maxRecDepth 100000 in
theorem en_X2_set {Q : hS → am_H → Prop} (hQ : l1_em kc Q) (c : hS) (b : Nat) (p1 : Int32) (p2 : Int32) (hb : kc b = 1) : l1_G (wN wV) Q am_i_X2_set 0 [some (.ref b), some (.int p1), some (.int p2)] [] c (f_X2_set c b p1 p2) := by
  rw [f_X2_set]
  refine l1_many mt_X2_set (pc' := bif am_cc .lt p1 0 then 32 else 4) (L' := [some (.ref b), some (.int p1), some (.int p2)]) (st' := []) 2 rfl ?_
  refine l1_bif rfl ?_ ?_
  · exact l1_ret mt_X2_set rfl rfl rfl
  · refine l1_many mt_X2_set (pc' := 6) (L' := [some (.ref b), some (.int p1), some (.int p2)]) (st' := [.ref b, .int p1]) 2 rfl ?_
    refine l1_getI hQ mt_X2_set rfl (o := b) (ci := 1) (k := 1) (a := 0) (b := 0) hb rfl rfl rfl rfl ?_
    refine l1_many mt_X2_set (pc' := bif am_cc .ge p1 (c.1 b 1) then 32 else 12) (L' := [some (.ref b), some (.int p1), some (.int p2)]) (st' := []) 1 rfl ?_
    refine l1_bif rfl ?_ ?_
    · exact l1_ret mt_X2_set rfl rfl rfl
    · refine l1_many mt_X2_set (pc' := 14) (L' := [some (.ref b), some (.int p1), some (.int p2)]) (st' := [.ref b, .int p1]) 2 rfl ?_
      refine l1_getR hQ mt_X2_set rfl (o := b) (ci := 1) (k := 0) (a := 0) (b := 1) hb rfl rfl rfl rfl (q := (b + 1)) rfl ?_
      refine l1_len hQ mt_X2_set rfl (o := (b + 1)) (ci := 20) (kc1_1 hb) rfl rfl ?_
      refine l1_many mt_X2_set (pc' := bif am_cc .ge p1 (Int32.ofNat (ln (b + 1))) then 32 else 21) (L' := [some (.ref b), some (.int p1), some (.int p2)]) (st' := []) 1 rfl ?_
      refine l1_bif rfl ?_ ?_
      · exact l1_ret mt_X2_set rfl rfl rfl
      · refine l1_many mt_X2_set (pc' := 22) (L' := [some (.ref b), some (.int p1), some (.int p2)]) (st' := [.ref b]) 1 rfl ?_
        refine l1_getR hQ mt_X2_set rfl (o := b) (ci := 1) (k := 0) (a := 0) (b := 1) hb rfl rfl rfl rfl (q := (b + 1)) rfl ?_
        refine l1_many mt_X2_set (pc' := 31) (L' := [some (.ref b), some (.int p1), some (.int p2)]) (st' := [.int (p2 &&& 255), .int p1, .ref (b + 1)]) 4 rfl ?_
        refine l1_ck (fun hx => ?_)
        refine l1_ast hQ mt_X2_set rfl (o := (b + 1)) (kc1_1 hb) hx (fun c1 => ?_)
        exact l1_ret mt_X2_set rfl rfl rfl
theorem ok_X2_set {Q : hS → am_H → Prop} (hQ : l1_em kc Q) (c : hS) (b : Nat) (p1 : Int32) (p2 : Int32) (hb : kc b = 1) : l1_T wV Q am_i_X2_set [.ref b, .int p1, .int p2] c (f_X2_set c b p1 p2) := l1_of (en_X2_set hQ c b p1 p2 hb) ⟨rfl, rfl, rfl, trivial⟩
set_option maxRecDepth 100000 in
theorem ok_X1_setSum_8 {Q : hS → am_H → Prop} (hQ : l1_em kc Q) (N : Nat) (p1 : Int32) : ∀ n : Nat, ∀ (c : hS) (v2 : Int32) (v3 : Int32), l1_G (wN wV) Q am_i_X1_setSum 8 [some (.ref 34), some (.int p1), some (.int v2), some (.int v3)] [] c (f_X1_setSum_8 N p1 n c v2 v3) := by
  intro n
  induction n with
  | zero => intro c v2 v3; exact l1_none
  | succ n ih =>
    intro c v2 v3
    rw [f_X1_setSum_8]
    refine l1_many mt_X1_setSum (pc' := bif am_cc .ge v3 6 then 47 else 14) (L' := [some (.ref 34), some (.int p1), some (.int v2), some (.int v3)]) (st' := []) 3 rfl ?_
    refine l1_bif rfl ?_ ?_
    · exact l1_ret mt_X1_setSum rfl rfl rfl
    · refine l1_many mt_X1_setSum (pc' := 15) (L' := [some (.ref 34), some (.int p1), some (.int v2), some (.int v3)]) (st' := [.ref 34]) 1 rfl ?_
      refine l1_getR hQ mt_X1_setSum rfl (o := 34) (ci := 0) (k := 0) (a := 1) (b := 2) rfl rfl rfl rfl rfl (q := 3) rfl ?_
      refine l1_many mt_X1_setSum (pc' := 38) (L' := [some (.ref 34), some (.int p1), some (.int v2), some (.int v3)]) (st' := [.int (48 + ((j_ushr v2 (3 * (5 - v3))) &&& 7)), .int ((p1 + 148) + v3), .ref 3]) 16 rfl ?_
      refine l1_callV hQ mt_X1_setSum mt_X2_set rfl rfl (o := 3) (ci := 1) (As := [.int ((p1 + 148) + v3), .int (48 + ((j_ushr v2 (3 * (5 - v3))) &&& 7))]) (rest := []) rfl rfl rfl rfl rfl rfl (st1 := fun _ => []) (fun _ => rfl) (ok_X2_set hQ c 3 ((p1 + 148) + v3) (48 + ((j_ushr v2 (3 * (5 - v3))) &&& 7)) rfl) (fun _ c1 => ?_)
      refine l1_many mt_X1_setSum (pc' := 8) (L' := [some (.ref 34), some (.int p1), some (.int v2), some (.int (v3 + 1))]) (st' := []) 2 rfl ?_
      exact ih c1 v2 (v3 + 1)
set_option maxRecDepth 100000 in
theorem en_X1_setSum {Q : hS → am_H → Prop} (hQ : l1_em kc Q) (N : Nat) (c : hS) (p1 : Int32) : l1_G (wN wV) Q am_i_X1_setSum 0 [some (.ref 34), some (.int p1)] [] c (f_X1_setSum N c p1) := by
  rw [f_X1_setSum]
  refine l1_many mt_X1_setSum (pc' := 2) (L' := [some (.ref 34), some (.int p1)]) (st' := [.int p1, .ref 34]) 2 rfl ?_
  refine l1_callV hQ mt_X1_setSum mt_X1_sumOf rfl rfl (o := 34) (ci := 0) (As := [.int p1]) (rest := []) rfl rfl rfl rfl rfl rfl (st1 := fun x1 => [.int x1]) (fun _ => rfl) (ok_X1_sumOf hQ N c p1) (fun x1 c2 => ?_)
  refine l1_many mt_X1_setSum (pc' := 8) (L' := [some (.ref 34), some (.int p1), some (.int x1), some (.int 0)]) (st' := []) 3 rfl ?_
  exact ok_X1_setSum_8 hQ N p1 N c2 x1 0
theorem ok_X1_setSum {Q : hS → am_H → Prop} (hQ : l1_em kc Q) (N : Nat) (c : hS) (p1 : Int32) : l1_T wV Q am_i_X1_setSum [.ref 34, .int p1] c (f_X1_setSum N c p1) := l1_of (en_X1_setSum hQ N c p1) ⟨rfl, rfl, trivial⟩
set_option maxRecDepth 100000 in
theorem ok_X2_addMark_2 {Q : hS → am_H → Prop} (hQ : l1_em kc Q) (N : Nat) (b : Nat) (p1 : List Int32) (hb : kc b = 1) {q1 : Nat} (hp1 : l1_OA q1 p1) : ∀ n : Nat, ∀ (c : hS) (v2 : Int32), l1_G (wN wV) Q am_i_X2_addMark 2 [some (.ref b), some (.ref q1), some (.int v2)] [] c (f_X2_addMark_2 N b p1 n c v2) := by
  intro n
  induction n with
  | zero => intro c v2; exact l1_none
  | succ n ih =>
    intro c v2
    rw [f_X2_addMark_2]
    refine l1_many mt_X2_addMark (pc' := 4) (L' := [some (.ref b), some (.ref q1), some (.int v2)]) (st' := [.ref q1, .int v2]) 2 rfl ?_
    refine l1_slen hQ mt_X2_addMark rfl hp1 ?_
    refine l1_many mt_X2_addMark (pc' := bif am_cc .ge v2 (Int32.ofNat p1.length) then 21 else 8) (L' := [some (.ref b), some (.ref q1), some (.int v2)]) (st' := []) 1 rfl ?_
    refine l1_bif rfl ?_ ?_
    · exact l1_ret mt_X2_addMark rfl rfl rfl
    · refine l1_many mt_X2_addMark (pc' := 11) (L' := [some (.ref b), some (.ref q1), some (.int v2)]) (st' := [.int v2, .ref q1, .ref b]) 3 rfl ?_
      refine l1_ck (fun hx => ?_)
      refine l1_sald hQ mt_X2_addMark rfl hp1 hx ?_
      refine l1_callV hQ mt_X2_addMark mt_X2_add rfl rfl (o := b) (ci := 1) (As := [.int (p1.getD v2.toNatClampNeg 0)]) (rest := []) rfl rfl hb rfl rfl rfl (st1 := fun _ => []) (fun _ => rfl) (ok_X2_add hQ c b (p1.getD v2.toNatClampNeg 0) hb) (fun _ c1 => ?_)
      refine l1_many mt_X2_addMark (pc' := 2) (L' := [some (.ref b), some (.ref q1), some (.int (v2 + 1))]) (st' := []) 2 rfl ?_
      exact ih c1 (v2 + 1)
set_option maxRecDepth 100000 in
theorem en_X2_addMark {Q : hS → am_H → Prop} (hQ : l1_em kc Q) (N : Nat) (c : hS) (b : Nat) (p1 : List Int32) (hb : kc b = 1) {q1 : Nat} (hp1 : l1_OA q1 p1) : l1_G (wN wV) Q am_i_X2_addMark 0 [some (.ref b), some (.ref q1)] [] c (f_X2_addMark N c b p1) := by
  rw [f_X2_addMark]
  refine l1_many mt_X2_addMark (pc' := 2) (L' := [some (.ref b), some (.ref q1), some (.int 0)]) (st' := []) 2 rfl ?_
  exact ok_X2_addMark_2 hQ N b p1 hb hp1 N c 0
theorem ok_X2_addMark {Q : hS → am_H → Prop} (hQ : l1_em kc Q) (N : Nat) (c : hS) (b : Nat) (p1 : List Int32) (hb : kc b = 1) {q1 : Nat} (hp1 : l1_OA q1 p1) : l1_T wV Q am_i_X2_addMark [.ref b, .ref q1] c (f_X2_addMark N c b p1) := l1_of (en_X2_addMark hQ N c b p1 hb hp1) ⟨rfl, rfl, trivial⟩
set_option maxRecDepth 100000 in
theorem ok_X2_addText_2 {Q : hS → am_H → Prop} (hQ : l1_em kc Q) (N : Nat) (b : Nat) (p1 : List Int32) (hb : kc b = 1) {q1 : Nat} (hp1 : l1_OT q1 p1) : ∀ n : Nat, ∀ (c : hS) (v2 : Int32), l1_G (wN wV) Q am_i_X2_addText 2 [some (.ref b), some (.ref q1), some (.int v2)] [] c (f_X2_addText_2 N b p1 n c v2) := by
  intro n
  induction n with
  | zero => intro c v2; exact l1_none
  | succ n ih =>
    intro c v2
    rw [f_X2_addText_2]
    refine l1_many mt_X2_addText (pc' := 4) (L' := [some (.ref b), some (.ref q1), some (.int v2)]) (st' := [.ref q1, .int v2]) 2 rfl ?_
    refine l1_tlen mt_X2_addText rfl rfl rfl hp1 rfl ?_
    refine l1_many mt_X2_addText (pc' := bif am_cc .ge v2 (Int32.ofNat p1.length) then 25 else 10) (L' := [some (.ref b), some (.ref q1), some (.int v2)]) (st' := []) 1 rfl ?_
    refine l1_bif rfl ?_ ?_
    · exact l1_ret mt_X2_addText rfl rfl rfl
    · refine l1_many mt_X2_addText (pc' := 13) (L' := [some (.ref b), some (.ref q1), some (.int v2)]) (st' := [.int v2, .ref q1, .ref b]) 3 rfl ?_
      refine l1_ck (fun hx => ?_)
      refine l1_tch mt_X2_addText rfl rfl rfl hp1 hx rfl ?_
      refine l1_callV hQ mt_X2_addText mt_X2_add rfl rfl (o := b) (ci := 1) (As := [.int (p1.getD v2.toNatClampNeg 0)]) (rest := []) rfl rfl hb rfl rfl rfl (st1 := fun _ => []) (fun _ => rfl) (ok_X2_add hQ c b (p1.getD v2.toNatClampNeg 0) hb) (fun _ c1 => ?_)
      refine l1_many mt_X2_addText (pc' := 2) (L' := [some (.ref b), some (.ref q1), some (.int (v2 + 1))]) (st' := []) 2 rfl ?_
      exact ih c1 (v2 + 1)
set_option maxRecDepth 100000 in
theorem en_X2_addText {Q : hS → am_H → Prop} (hQ : l1_em kc Q) (N : Nat) (c : hS) (b : Nat) (p1 : List Int32) (hb : kc b = 1) {q1 : Nat} (hp1 : l1_OT q1 p1) : l1_G (wN wV) Q am_i_X2_addText 0 [some (.ref b), some (.ref q1)] [] c (f_X2_addText N c b p1) := by
  rw [f_X2_addText]
  refine l1_many mt_X2_addText (pc' := 2) (L' := [some (.ref b), some (.ref q1), some (.int 0)]) (st' := []) 2 rfl ?_
  exact ok_X2_addText_2 hQ N b p1 hb hp1 N c 0
theorem ok_X2_addText {Q : hS → am_H → Prop} (hQ : l1_em kc Q) (N : Nat) (c : hS) (b : Nat) (p1 : List Int32) (hb : kc b = 1) {q1 : Nat} (hp1 : l1_OT q1 p1) : l1_T wV Q am_i_X2_addText [.ref b, .ref q1] c (f_X2_addText N c b p1) := l1_of (en_X2_addText hQ N c b p1 hb hp1) ⟨rfl, rfl, trivial⟩
set_option maxRecDepth 100000 in
theorem ok_X2_addZeros_2 {Q : hS → am_H → Prop} (hQ : l1_em kc Q) (N : Nat) (b : Nat) (p1 : Int32) (hb : kc b = 1) : ∀ n : Nat, ∀ (c : hS) (v2 : Int32), l1_G (wN wV) Q am_i_X2_addZeros 2 [some (.ref b), some (.int p1), some (.int v2)] [] c (f_X2_addZeros_2 N b p1 n c v2) := by
  intro n
  induction n with
  | zero => intro c v2; exact l1_none
  | succ n ih =>
    intro c v2
    rw [f_X2_addZeros_2]
    refine l1_many mt_X2_addZeros (pc' := bif am_cc .ge v2 p1 then 18 else 7) (L' := [some (.ref b), some (.int p1), some (.int v2)]) (st' := []) 3 rfl ?_
    refine l1_bif rfl ?_ ?_
    · exact l1_ret mt_X2_addZeros rfl rfl rfl
    · refine l1_many mt_X2_addZeros (pc' := 9) (L' := [some (.ref b), some (.int p1), some (.int v2)]) (st' := [.int 0, .ref b]) 2 rfl ?_
      refine l1_callV hQ mt_X2_addZeros mt_X2_add rfl rfl (o := b) (ci := 1) (As := [.int 0]) (rest := []) rfl rfl hb rfl rfl rfl (st1 := fun _ => []) (fun _ => rfl) (ok_X2_add hQ c b 0 hb) (fun _ c1 => ?_)
      refine l1_many mt_X2_addZeros (pc' := 2) (L' := [some (.ref b), some (.int p1), some (.int (v2 + 1))]) (st' := []) 2 rfl ?_
      exact ih c1 (v2 + 1)
set_option maxRecDepth 100000 in
theorem en_X2_addZeros {Q : hS → am_H → Prop} (hQ : l1_em kc Q) (N : Nat) (c : hS) (b : Nat) (p1 : Int32) (hb : kc b = 1) : l1_G (wN wV) Q am_i_X2_addZeros 0 [some (.ref b), some (.int p1)] [] c (f_X2_addZeros N c b p1) := by
  rw [f_X2_addZeros]
  refine l1_many mt_X2_addZeros (pc' := 2) (L' := [some (.ref b), some (.int p1), some (.int 0)]) (st' := []) 2 rfl ?_
  exact ok_X2_addZeros_2 hQ N b p1 hb N c 0
theorem ok_X2_addZeros {Q : hS → am_H → Prop} (hQ : l1_em kc Q) (N : Nat) (c : hS) (b : Nat) (p1 : Int32) (hb : kc b = 1) : l1_T wV Q am_i_X2_addZeros [.ref b, .int p1] c (f_X2_addZeros N c b p1) := l1_of (en_X2_addZeros hQ N c b p1 hb) ⟨rfl, rfl, trivial⟩
set_option maxRecDepth 100000 in
theorem ok_X1_addHead_176 {Q : hS → am_H → Prop} (hQ : l1_em kc Q) (N : Nat) (p1 : Nat) (hp1 : kc p1 = 6) : ∀ (c : hS) (v2 : Int32) (w0 : Int32), l1_G (wN wV) Q am_i_X1_addHead 176 [some (.ref 34), none, some (.int v2)] [.int w0, .ref 3] c (f_X1_addHead_176 N p1 c v2 w0) := by
  intro c v2 w0
  rw [f_X1_addHead_176]
  refine l1_callV hQ mt_X1_addHead mt_X2_add rfl rfl (o := 3) (ci := 1) (As := [.int w0]) (rest := []) rfl rfl rfl rfl rfl rfl (st1 := fun _ => []) (fun _ => rfl) (ok_X2_add hQ c 3 w0 rfl) (fun _ c1 => ?_)
  refine l1_many mt_X1_addHead (pc' := 180) (L' := [some (.ref 34), none, some (.int v2)]) (st' := [.ref 34]) 1 rfl ?_
  refine l1_getR hQ mt_X1_addHead rfl (o := 34) (ci := 0) (k := 0) (a := 1) (b := 2) rfl rfl rfl rfl rfl (q := 3) rfl ?_
  refine l1_many mt_X1_addHead (pc' := 189) (L' := [some (.ref 34), none, some (.int v2)]) (st' := [.ref 34, .int (v2 + 257), .ref 3]) 4 rfl ?_
  refine l1_getR hQ mt_X1_addHead rfl (o := 34) (ci := 0) (k := 0) (a := 1) (b := 2) rfl rfl rfl rfl rfl (q := 3) rfl ?_
  refine l1_callV hQ mt_X1_addHead mt_X2_size rfl rfl (o := 3) (ci := 1) (As := []) (rest := [.int (v2 + 257), .ref 3]) rfl rfl rfl rfl rfl rfl (st1 := fun x2 => [.int x2, .int (v2 + 257), .ref 3]) (fun _ => rfl) (ok_X2_size hQ c1 3 rfl) (fun x2 c3 => ?_)
  refine l1_many mt_X1_addHead (pc' := 196) (L' := [some (.ref 34), none, some (.int v2)]) (st' := [.int ((v2 + 257) - x2), .ref 3]) 1 rfl ?_
  refine l1_callV hQ mt_X1_addHead mt_X2_addZeros rfl rfl (o := 3) (ci := 1) (As := [.int ((v2 + 257) - x2)]) (rest := []) rfl rfl rfl rfl rfl rfl (st1 := fun _ => []) (fun _ => rfl) (ok_X2_addZeros hQ N c3 3 ((v2 + 257) - x2) rfl) (fun _ c4 => ?_)
  refine l1_many mt_X1_addHead (pc' := 200) (L' := [some (.ref 34), none, some (.int v2)]) (st' := [.ref 34]) 1 rfl ?_
  refine l1_getR hQ mt_X1_addHead rfl (o := 34) (ci := 0) (k := 0) (a := 1) (b := 2) rfl rfl rfl rfl rfl (q := 3) rfl ?_
  refine l1_many mt_X1_addHead (pc' := 206) (L' := [some (.ref 34), none, some (.int v2)]) (st' := [.ref 1000000001, .ref 3]) 1 rfl ?_
  refine l1_callV hQ mt_X1_addHead mt_X2_addMark rfl rfl (o := 3) (ci := 1) (As := [.ref 1000000001]) (rest := []) rfl rfl rfl rfl rfl rfl (st1 := fun _ => []) (fun _ => rfl) (ok_X2_addMark hQ N c4 3 sa1 rfl oa1) (fun _ c5 => ?_)
  refine l1_many mt_X1_addHead (pc' := 210) (L' := [some (.ref 34), none, some (.int v2)]) (st' := [.ref 34]) 1 rfl ?_
  refine l1_getR hQ mt_X1_addHead rfl (o := 34) (ci := 0) (k := 0) (a := 1) (b := 2) rfl rfl rfl rfl rfl (q := 3) rfl ?_
  refine l1_many mt_X1_addHead (pc' := 219) (L' := [some (.ref 34), none, some (.int v2)]) (st' := [.ref 34, .int (v2 + 329), .ref 3]) 4 rfl ?_
  refine l1_getR hQ mt_X1_addHead rfl (o := 34) (ci := 0) (k := 0) (a := 1) (b := 2) rfl rfl rfl rfl rfl (q := 3) rfl ?_
  refine l1_callV hQ mt_X1_addHead mt_X2_size rfl rfl (o := 3) (ci := 1) (As := []) (rest := [.int (v2 + 329), .ref 3]) rfl rfl rfl rfl rfl rfl (st1 := fun x6 => [.int x6, .int (v2 + 329), .ref 3]) (fun _ => rfl) (ok_X2_size hQ c5 3 rfl) (fun x6 c7 => ?_)
  refine l1_many mt_X1_addHead (pc' := 226) (L' := [some (.ref 34), none, some (.int v2)]) (st' := [.int ((v2 + 329) - x6), .ref 3]) 1 rfl ?_
  refine l1_callV hQ mt_X1_addHead mt_X2_addZeros rfl rfl (o := 3) (ci := 1) (As := [.int ((v2 + 329) - x6)]) (rest := []) rfl rfl rfl rfl rfl rfl (st1 := fun _ => []) (fun _ => rfl) (ok_X2_addZeros hQ N c7 3 ((v2 + 329) - x6) rfl) (fun _ c8 => ?_)
  refine l1_many mt_X1_addHead (pc' := 230) (L' := [some (.ref 34), none, some (.int v2)]) (st' := [.ref 34]) 1 rfl ?_
  refine l1_getR hQ mt_X1_addHead rfl (o := 34) (ci := 0) (k := 0) (a := 1) (b := 2) rfl rfl rfl rfl rfl (q := 3) rfl ?_
  refine l1_many mt_X1_addHead (pc' := 235) (L' := [some (.ref 34), none, some (.int v2)]) (st' := [.ref 1000000117, .ref 3]) 1 rfl ?_
  refine l1_callV hQ mt_X1_addHead mt_X2_addText rfl rfl (o := 3) (ci := 1) (As := [.ref 1000000117]) (rest := []) rfl rfl rfl rfl rfl rfl (st1 := fun _ => []) (fun _ => rfl) (ok_X2_addText hQ N c8 3 tx17 rfl ot17) (fun _ c9 => ?_)
  refine l1_many mt_X1_addHead (pc' := 239) (L' := [some (.ref 34), none, some (.int v2)]) (st' := [.ref 34]) 1 rfl ?_
  refine l1_getR hQ mt_X1_addHead rfl (o := 34) (ci := 0) (k := 0) (a := 1) (b := 2) rfl rfl rfl rfl rfl (q := 3) rfl ?_
  refine l1_many mt_X1_addHead (pc' := 243) (L' := [some (.ref 34), none, some (.int v2)]) (st' := [.int 0, .ref 3]) 1 rfl ?_
  refine l1_callV hQ mt_X1_addHead mt_X2_add rfl rfl (o := 3) (ci := 1) (As := [.int 0]) (rest := []) rfl rfl rfl rfl rfl rfl (st1 := fun _ => []) (fun _ => rfl) (ok_X2_add hQ c9 3 0 rfl) (fun _ c10 => ?_)
  refine l1_many mt_X1_addHead (pc' := 247) (L' := [some (.ref 34), none, some (.int v2)]) (st' := [.ref 34]) 1 rfl ?_
  refine l1_getR hQ mt_X1_addHead rfl (o := 34) (ci := 0) (k := 0) (a := 1) (b := 2) rfl rfl rfl rfl rfl (q := 3) rfl ?_
  refine l1_many mt_X1_addHead (pc' := 252) (L' := [some (.ref 34), none, some (.int v2)]) (st' := [.ref 1000000117, .ref 3]) 1 rfl ?_
  refine l1_callV hQ mt_X1_addHead mt_X2_addText rfl rfl (o := 3) (ci := 1) (As := [.ref 1000000117]) (rest := []) rfl rfl rfl rfl rfl rfl (st1 := fun _ => []) (fun _ => rfl) (ok_X2_addText hQ N c10 3 tx17 rfl ot17) (fun _ c11 => ?_)
  refine l1_many mt_X1_addHead (pc' := 256) (L' := [some (.ref 34), none, some (.int v2)]) (st' := [.ref 34]) 1 rfl ?_
  refine l1_getR hQ mt_X1_addHead rfl (o := 34) (ci := 0) (k := 0) (a := 1) (b := 2) rfl rfl rfl rfl rfl (q := 3) rfl ?_
  refine l1_many mt_X1_addHead (pc' := 265) (L' := [some (.ref 34), none, some (.int v2)]) (st' := [.ref 34, .int (v2 + 512), .ref 3]) 4 rfl ?_
  refine l1_getR hQ mt_X1_addHead rfl (o := 34) (ci := 0) (k := 0) (a := 1) (b := 2) rfl rfl rfl rfl rfl (q := 3) rfl ?_
  refine l1_callV hQ mt_X1_addHead mt_X2_size rfl rfl (o := 3) (ci := 1) (As := []) (rest := [.int (v2 + 512), .ref 3]) rfl rfl rfl rfl rfl rfl (st1 := fun x12 => [.int x12, .int (v2 + 512), .ref 3]) (fun _ => rfl) (ok_X2_size hQ c11 3 rfl) (fun x12 c13 => ?_)
  refine l1_many mt_X1_addHead (pc' := 272) (L' := [some (.ref 34), none, some (.int v2)]) (st' := [.int ((v2 + 512) - x12), .ref 3]) 1 rfl ?_
  refine l1_callV hQ mt_X1_addHead mt_X2_addZeros rfl rfl (o := 3) (ci := 1) (As := [.int ((v2 + 512) - x12)]) (rest := []) rfl rfl rfl rfl rfl rfl (st1 := fun _ => []) (fun _ => rfl) (ok_X2_addZeros hQ N c13 3 ((v2 + 512) - x12) rfl) (fun _ c14 => ?_)
  refine l1_many mt_X1_addHead (pc' := 277) (L' := [some (.ref 34), none, some (.int v2)]) (st' := [.int v2, .ref 34]) 2 rfl ?_
  refine l1_callV hQ mt_X1_addHead mt_X1_setSum rfl rfl (o := 34) (ci := 0) (As := [.int v2]) (rest := []) rfl rfl rfl rfl rfl rfl (st1 := fun _ => []) (fun _ => rfl) (ok_X1_setSum hQ N c14 v2) (fun _ c15 => ?_)
  exact l1_ret mt_X1_addHead rfl rfl rfl
set_option maxRecDepth 100000 in
theorem ok_X1_addHead_51 {Q : hS → am_H → Prop} (hQ : l1_em kc Q) (N : Nat) (p1 : Nat) (hp1 : kc p1 = 6) : ∀ (c : hS) (v2 : Int32) (w0 : List Int32) (qw0 : Nat) (hw0 : l1_OT qw0 w0), l1_G (wN wV) Q am_i_X1_addHead 51 [some (.ref 34), some (.ref p1), some (.int v2)] [.ref qw0, .ref 3] c (f_X1_addHead_51 N p1 c v2 w0) := by
  intro c v2 w0 qw0 hw0
  rw [f_X1_addHead_51]
  refine l1_callV hQ mt_X1_addHead mt_X2_addText rfl rfl (o := 3) (ci := 1) (As := [.ref qw0]) (rest := []) rfl rfl rfl rfl rfl rfl (st1 := fun _ => []) (fun _ => rfl) (ok_X2_addText hQ N c 3 w0 rfl hw0) (fun _ c1 => ?_)
  refine l1_many mt_X1_addHead (pc' := 55) (L' := [some (.ref 34), some (.ref p1), some (.int v2)]) (st' := [.ref 34]) 1 rfl ?_
  refine l1_getR hQ mt_X1_addHead rfl (o := 34) (ci := 0) (k := 0) (a := 1) (b := 2) rfl rfl rfl rfl rfl (q := 3) rfl ?_
  refine l1_many mt_X1_addHead (pc' := 59) (L' := [some (.ref 34), some (.ref p1), some (.int v2)]) (st' := [.int 0, .ref 3]) 1 rfl ?_
  refine l1_callV hQ mt_X1_addHead mt_X2_add rfl rfl (o := 3) (ci := 1) (As := [.int 0]) (rest := []) rfl rfl rfl rfl rfl rfl (st1 := fun _ => []) (fun _ => rfl) (ok_X2_add hQ c1 3 0 rfl) (fun _ c2 => ?_)
  refine l1_many mt_X1_addHead (pc' := 63) (L' := [some (.ref 34), some (.ref p1), some (.int v2)]) (st' := [.ref 34]) 1 rfl ?_
  refine l1_getR hQ mt_X1_addHead rfl (o := 34) (ci := 0) (k := 0) (a := 1) (b := 2) rfl rfl rfl rfl rfl (q := 3) rfl ?_
  refine l1_many mt_X1_addHead (pc' := 68) (L' := [some (.ref 34), some (.ref p1), some (.int v2)]) (st' := [.ref 1000000117, .ref 3]) 1 rfl ?_
  refine l1_callV hQ mt_X1_addHead mt_X2_addText rfl rfl (o := 3) (ci := 1) (As := [.ref 1000000117]) (rest := []) rfl rfl rfl rfl rfl rfl (st1 := fun _ => []) (fun _ => rfl) (ok_X2_addText hQ N c2 3 tx17 rfl ot17) (fun _ c3 => ?_)
  refine l1_many mt_X1_addHead (pc' := 72) (L' := [some (.ref 34), some (.ref p1), some (.int v2)]) (st' := [.ref 34]) 1 rfl ?_
  refine l1_getR hQ mt_X1_addHead rfl (o := 34) (ci := 0) (k := 0) (a := 1) (b := 2) rfl rfl rfl rfl rfl (q := 3) rfl ?_
  refine l1_many mt_X1_addHead (pc' := 76) (L' := [some (.ref 34), some (.ref p1), some (.int v2)]) (st' := [.int 0, .ref 3]) 1 rfl ?_
  refine l1_callV hQ mt_X1_addHead mt_X2_add rfl rfl (o := 3) (ci := 1) (As := [.int 0]) (rest := []) rfl rfl rfl rfl rfl rfl (st1 := fun _ => []) (fun _ => rfl) (ok_X2_add hQ c3 3 0 rfl) (fun _ c4 => ?_)
  refine l1_many mt_X1_addHead (pc' := 80) (L' := [some (.ref 34), some (.ref p1), some (.int v2)]) (st' := [.ref 34]) 1 rfl ?_
  refine l1_getR hQ mt_X1_addHead rfl (o := 34) (ci := 0) (k := 0) (a := 1) (b := 2) rfl rfl rfl rfl rfl (q := 3) rfl ?_
  refine l1_many mt_X1_addHead (pc' := 85) (L' := [some (.ref 34), some (.ref p1), some (.int v2)]) (st' := [.ref 1000000117, .ref 3]) 1 rfl ?_
  refine l1_callV hQ mt_X1_addHead mt_X2_addText rfl rfl (o := 3) (ci := 1) (As := [.ref 1000000117]) (rest := []) rfl rfl rfl rfl rfl rfl (st1 := fun _ => []) (fun _ => rfl) (ok_X2_addText hQ N c4 3 tx17 rfl ot17) (fun _ c5 => ?_)
  refine l1_many mt_X1_addHead (pc' := 89) (L' := [some (.ref 34), some (.ref p1), some (.int v2)]) (st' := [.ref 34]) 1 rfl ?_
  refine l1_getR hQ mt_X1_addHead rfl (o := 34) (ci := 0) (k := 0) (a := 1) (b := 2) rfl rfl rfl rfl rfl (q := 3) rfl ?_
  refine l1_many mt_X1_addHead (pc' := 93) (L' := [some (.ref 34), some (.ref p1), some (.int v2)]) (st' := [.int 0, .ref 3]) 1 rfl ?_
  refine l1_callV hQ mt_X1_addHead mt_X2_add rfl rfl (o := 3) (ci := 1) (As := [.int 0]) (rest := []) rfl rfl rfl rfl rfl rfl (st1 := fun _ => []) (fun _ => rfl) (ok_X2_add hQ c5 3 0 rfl) (fun _ c6 => ?_)
  refine l1_many mt_X1_addHead (pc' := 98) (L' := [some (.ref 34), some (.ref p1), some (.int v2)]) (st' := [.ref p1, .ref 34]) 2 rfl ?_
  refine l1_getR hQ mt_X1_addHead rfl (o := p1) (ci := 6) (k := 1) (a := 2) (b := 2) hp1 rfl rfl rfl rfl (q := (p1 + 3)) rfl ?_
  refine l1_callV hQ mt_X1_addHead mt_X2_size rfl rfl (o := (p1 + 3)) (ci := 1) (As := []) (rest := [.ref 34]) rfl rfl (kc6_1 hp1) rfl rfl rfl (st1 := fun x7 => [.int x7, .ref 34]) (fun _ => rfl) (ok_X2_size hQ c6 (p1 + 3) (kc6_1 hp1)) (fun x7 c8 => ?_)
  refine l1_many mt_X1_addHead (pc' := 106) (L' := [some (.ref 34), some (.ref p1), some (.int v2)]) (st' := [.int 11, .int x7, .ref 34]) 1 rfl ?_
  refine l1_callV hQ mt_X1_addHead mt_X1_addOctal rfl rfl (o := 34) (ci := 0) (As := [.int x7, .int 11]) (rest := []) rfl rfl rfl rfl rfl rfl (st1 := fun _ => []) (fun _ => rfl) (ok_X1_addOctal hQ N c8 x7 11) (fun _ c9 => ?_)
  refine l1_many mt_X1_addHead (pc' := 110) (L' := [some (.ref 34), some (.ref p1), some (.int v2)]) (st' := [.ref 34]) 1 rfl ?_
  refine l1_getR hQ mt_X1_addHead rfl (o := 34) (ci := 0) (k := 0) (a := 1) (b := 2) rfl rfl rfl rfl rfl (q := 3) rfl ?_
  refine l1_many mt_X1_addHead (pc' := 114) (L' := [some (.ref 34), some (.ref p1), some (.int v2)]) (st' := [.int 0, .ref 3]) 1 rfl ?_
  refine l1_callV hQ mt_X1_addHead mt_X2_add rfl rfl (o := 3) (ci := 1) (As := [.int 0]) (rest := []) rfl rfl rfl rfl rfl rfl (st1 := fun _ => []) (fun _ => rfl) (ok_X2_add hQ c9 3 0 rfl) (fun _ c10 => ?_)
  refine l1_many mt_X1_addHead (pc' := 121) (L' := [some (.ref 34), some (.ref p1), some (.int v2)]) (st' := [.int 11, .int 0, .ref 34]) 3 rfl ?_
  refine l1_callV hQ mt_X1_addHead mt_X1_addOctal rfl rfl (o := 34) (ci := 0) (As := [.int 0, .int 11]) (rest := []) rfl rfl rfl rfl rfl rfl (st1 := fun _ => []) (fun _ => rfl) (ok_X1_addOctal hQ N c10 0 11) (fun _ c11 => ?_)
  refine l1_many mt_X1_addHead (pc' := 125) (L' := [some (.ref 34), some (.ref p1), some (.int v2)]) (st' := [.ref 34]) 1 rfl ?_
  refine l1_getR hQ mt_X1_addHead rfl (o := 34) (ci := 0) (k := 0) (a := 1) (b := 2) rfl rfl rfl rfl rfl (q := 3) rfl ?_
  refine l1_many mt_X1_addHead (pc' := 129) (L' := [some (.ref 34), some (.ref p1), some (.int v2)]) (st' := [.int 0, .ref 3]) 1 rfl ?_
  refine l1_callV hQ mt_X1_addHead mt_X2_add rfl rfl (o := 3) (ci := 1) (As := [.int 0]) (rest := []) rfl rfl rfl rfl rfl rfl (st1 := fun _ => []) (fun _ => rfl) (ok_X2_add hQ c11 3 0 rfl) (fun _ c12 => ?_)
  refine l1_many mt_X1_addHead (pc' := 133) (L' := [some (.ref 34), some (.ref p1), some (.int v2)]) (st' := [.ref 34]) 1 rfl ?_
  refine l1_getR hQ mt_X1_addHead rfl (o := 34) (ci := 0) (k := 0) (a := 1) (b := 2) rfl rfl rfl rfl rfl (q := 3) rfl ?_
  refine l1_many mt_X1_addHead (pc' := 138) (L' := [some (.ref 34), some (.ref p1), some (.int v2)]) (st' := [.ref 1000000118, .ref 3]) 1 rfl ?_
  refine l1_callV hQ mt_X1_addHead mt_X2_addText rfl rfl (o := 3) (ci := 1) (As := [.ref 1000000118]) (rest := []) rfl rfl rfl rfl rfl rfl (st1 := fun _ => []) (fun _ => rfl) (ok_X2_addText hQ N c12 3 tx18 rfl ot18) (fun _ c13 => ?_)
  refine l1_many mt_X1_addHead (pc' := 142) (L' := [some (.ref 34), some (.ref p1), some (.int v2)]) (st' := [.ref 34]) 1 rfl ?_
  refine l1_getR hQ mt_X1_addHead rfl (o := 34) (ci := 0) (k := 0) (a := 1) (b := 2) rfl rfl rfl rfl rfl (q := 3) rfl ?_
  refine l1_many mt_X1_addHead (pc' := 146) (L' := [some (.ref 34), some (.ref p1), some (.int v2)]) (st' := [.int 0, .ref 3]) 1 rfl ?_
  refine l1_callV hQ mt_X1_addHead mt_X2_add rfl rfl (o := 3) (ci := 1) (As := [.int 0]) (rest := []) rfl rfl rfl rfl rfl rfl (st1 := fun _ => []) (fun _ => rfl) (ok_X2_add hQ c13 3 0 rfl) (fun _ c14 => ?_)
  refine l1_many mt_X1_addHead (pc' := 150) (L' := [some (.ref 34), some (.ref p1), some (.int v2)]) (st' := [.ref 34]) 1 rfl ?_
  refine l1_getR hQ mt_X1_addHead rfl (o := 34) (ci := 0) (k := 0) (a := 1) (b := 2) rfl rfl rfl rfl rfl (q := 3) rfl ?_
  refine l1_many mt_X1_addHead (pc' := 155) (L' := [some (.ref 34), some (.ref p1), some (.int v2)]) (st' := [.int 32, .ref 3]) 1 rfl ?_
  refine l1_callV hQ mt_X1_addHead mt_X2_add rfl rfl (o := 3) (ci := 1) (As := [.int 32]) (rest := []) rfl rfl rfl rfl rfl rfl (st1 := fun _ => []) (fun _ => rfl) (ok_X2_add hQ c14 3 32 rfl) (fun _ c15 => ?_)
  refine l1_many mt_X1_addHead (pc' := 159) (L' := [some (.ref 34), some (.ref p1), some (.int v2)]) (st' := [.ref 34]) 1 rfl ?_
  refine l1_getR hQ mt_X1_addHead rfl (o := 34) (ci := 0) (k := 0) (a := 1) (b := 2) rfl rfl rfl rfl rfl (q := 3) rfl ?_
  refine l1_many mt_X1_addHead (pc' := 163) (L' := [some (.ref 34), some (.ref p1), some (.int v2)]) (st' := [.ref p1, .ref 3]) 1 rfl ?_
  refine l1_getI hQ mt_X1_addHead rfl (o := p1) (ci := 6) (k := 2) (a := 2) (b := 0) hp1 rfl rfl rfl rfl ?_
  refine l1_many mt_X1_addHead (pc' := bif am_cc .eq (c15.1 p1 2) 0 then 174 else 169) (L' := [some (.ref 34), some (.ref p1), some (.int v2)]) (st' := [.ref 3]) 1 rfl ?_
  refine l1_bif rfl ?_ ?_
  · refine l1_many mt_X1_addHead (pc' := 176) (L' := [some (.ref 34), some (.ref p1), some (.int v2)]) (st' := [.int 48, .ref 3]) 1 rfl ?_
    refine l1_weak (m := [true, false, true]) (L' := [some (.ref 34), none, some (.int v2)]) rfl ?_
    exact ok_X1_addHead_176 hQ N p1 hp1 c15 v2 48
  · refine l1_many mt_X1_addHead (pc' := 176) (L' := [some (.ref 34), some (.ref p1), some (.int v2)]) (st' := [.int 53, .ref 3]) 2 rfl ?_
    refine l1_weak (m := [true, false, true]) (L' := [some (.ref 34), none, some (.int v2)]) rfl ?_
    exact ok_X1_addHead_176 hQ N p1 hp1 c15 v2 53
set_option maxRecDepth 100000 in
theorem en_X1_addHead {Q : hS → am_H → Prop} (hQ : l1_em kc Q) (N : Nat) (c : hS) (p1 : Nat) (hp1 : kc p1 = 6) : l1_G (wN wV) Q am_i_X1_addHead 0 [some (.ref 34), some (.ref p1)] [] c (f_X1_addHead N c p1) := by
  rw [f_X1_addHead]
  refine l1_many mt_X1_addHead (pc' := 1) (L' := [some (.ref 34), some (.ref p1)]) (st' := [.ref 34]) 1 rfl ?_
  refine l1_getR hQ mt_X1_addHead rfl (o := 34) (ci := 0) (k := 0) (a := 1) (b := 2) rfl rfl rfl rfl rfl (q := 3) rfl ?_
  refine l1_callV hQ mt_X1_addHead mt_X2_size rfl rfl (o := 3) (ci := 1) (As := []) (rest := []) rfl rfl rfl rfl rfl rfl (st1 := fun x1 => [.int x1]) (fun _ => rfl) (ok_X2_size hQ c 3 rfl) (fun x1 c2 => ?_)
  refine l1_many mt_X1_addHead (pc' := 11) (L' := [some (.ref 34), some (.ref p1), some (.int x1)]) (st' := [.int 1, .ref p1, .ref 34]) 4 rfl ?_
  refine l1_callV hQ mt_X1_addHead mt_X0_addTitle rfl rfl (o := 34) (ci := 0) (As := [.ref p1, .int 1]) (rest := []) rfl rfl rfl rfl rfl rfl (st1 := fun _ => []) (fun _ => rfl) (ok_X0_addTitle_34 hQ N c2 p1 1 hp1) (fun _ c3 => ?_)
  refine l1_many mt_X1_addHead (pc' := 15) (L' := [some (.ref 34), some (.ref p1), some (.int x1)]) (st' := [.ref 34]) 1 rfl ?_
  refine l1_getR hQ mt_X1_addHead rfl (o := 34) (ci := 0) (k := 0) (a := 1) (b := 2) rfl rfl rfl rfl rfl (q := 3) rfl ?_
  refine l1_many mt_X1_addHead (pc' := 23) (L' := [some (.ref 34), some (.ref p1), some (.int x1)]) (st' := [.ref 34, .int (x1 + 100), .ref 3]) 4 rfl ?_
  refine l1_getR hQ mt_X1_addHead rfl (o := 34) (ci := 0) (k := 0) (a := 1) (b := 2) rfl rfl rfl rfl rfl (q := 3) rfl ?_
  refine l1_callV hQ mt_X1_addHead mt_X2_size rfl rfl (o := 3) (ci := 1) (As := []) (rest := [.int (x1 + 100), .ref 3]) rfl rfl rfl rfl rfl rfl (st1 := fun x4 => [.int x4, .int (x1 + 100), .ref 3]) (fun _ => rfl) (ok_X2_size hQ c3 3 rfl) (fun x4 c5 => ?_)
  refine l1_many mt_X1_addHead (pc' := 30) (L' := [some (.ref 34), some (.ref p1), some (.int x1)]) (st' := [.int ((x1 + 100) - x4), .ref 3]) 1 rfl ?_
  refine l1_callV hQ mt_X1_addHead mt_X2_addZeros rfl rfl (o := 3) (ci := 1) (As := [.int ((x1 + 100) - x4)]) (rest := []) rfl rfl rfl rfl rfl rfl (st1 := fun _ => []) (fun _ => rfl) (ok_X2_addZeros hQ N c5 3 ((x1 + 100) - x4) rfl) (fun _ c6 => ?_)
  refine l1_many mt_X1_addHead (pc' := 34) (L' := [some (.ref 34), some (.ref p1), some (.int x1)]) (st' := [.ref 34]) 1 rfl ?_
  refine l1_getR hQ mt_X1_addHead rfl (o := 34) (ci := 0) (k := 0) (a := 1) (b := 2) rfl rfl rfl rfl rfl (q := 3) rfl ?_
  refine l1_many mt_X1_addHead (pc' := 38) (L' := [some (.ref 34), some (.ref p1), some (.int x1)]) (st' := [.ref p1, .ref 3]) 1 rfl ?_
  refine l1_getI hQ mt_X1_addHead rfl (o := p1) (ci := 6) (k := 2) (a := 2) (b := 0) hp1 rfl rfl rfl rfl ?_
  refine l1_many mt_X1_addHead (pc' := bif am_cc .eq (c6.1 p1 2) 0 then 49 else 44) (L' := [some (.ref 34), some (.ref p1), some (.int x1)]) (st' := [.ref 3]) 1 rfl ?_
  refine l1_bif rfl ?_ ?_
  · refine l1_many mt_X1_addHead (pc' := 51) (L' := [some (.ref 34), some (.ref p1), some (.int x1)]) (st' := [.ref 1000000116, .ref 3]) 1 rfl ?_
    exact ok_X1_addHead_51 hQ N p1 hp1 c6 x1 tx16 1000000116 ot16
  · refine l1_many mt_X1_addHead (pc' := 51) (L' := [some (.ref 34), some (.ref p1), some (.int x1)]) (st' := [.ref 1000000115, .ref 3]) 2 rfl ?_
    exact ok_X1_addHead_51 hQ N p1 hp1 c6 x1 tx15 1000000115 ot15
theorem ok_X1_addHead {Q : hS → am_H → Prop} (hQ : l1_em kc Q) (N : Nat) (c : hS) (p1 : Nat) (hp1 : kc p1 = 6) : l1_T wV Q am_i_X1_addHead [.ref 34, .ref p1] c (f_X1_addHead N c p1) := l1_of (en_X1_addHead hQ N c p1 hp1) ⟨rfl, rfl, trivial⟩
set_option maxRecDepth 100000 in
theorem en_X9_size {Q : hS → am_H → Prop} (hQ : l1_em kc Q) (c : hS) (s : Nat) (hs : kc s = 8) : l1_G (wN wI) Q am_i_X9_size 0 [some (.ref s)] [] c (f_X9_size c s) := by
  rw [f_X9_size]
  refine l1_many mt_X9_size (pc' := 1) (L' := [some (.ref s)]) (st' := [.ref s]) 1 rfl ?_
  refine l1_getI hQ mt_X9_size rfl (o := s) (ci := 8) (k := 1) (a := 0) (b := 0) hs rfl rfl rfl rfl ?_
  exact l1_ret mt_X9_size rfl rfl rfl
theorem ok_X9_size {Q : hS → am_H → Prop} (hQ : l1_em kc Q) (c : hS) (s : Nat) (hs : kc s = 8) : l1_T wI Q am_i_X9_size [.ref s] c (f_X9_size c s) := l1_of (en_X9_size hQ c s hs) ⟨rfl, trivial⟩
set_option maxRecDepth 100000 in
theorem ok_X1_layOut_2 {Q : hS → am_H → Prop} (hQ : l1_em kc Q) (N : Nat) (p1 : Nat) (p2 : Int32) (hp1 : kc p1 = 8) : ∀ n : Nat, ∀ (c : hS) (v3 : Int32), l1_G (wN wV) Q am_i_X1_layOut 2 [some (.ref 34), some (.ref p1), none, some (.int v3)] [] c (f_X1_layOut_2 N p1 p2 n c v3) := by
  intro n
  induction n with
  | zero => intro c v3; exact l1_none
  | succ n ih =>
    intro c v3
    rw [f_X1_layOut_2]
    refine l1_many mt_X1_layOut (pc' := 4) (L' := [some (.ref 34), some (.ref p1), none, some (.int v3)]) (st' := [.ref p1, .int v3]) 2 rfl ?_
    refine l1_callV hQ mt_X1_layOut mt_X9_size rfl rfl (o := p1) (ci := 8) (As := []) (rest := [.int v3]) rfl rfl hp1 rfl rfl rfl (st1 := fun x1 => [.int x1, .int v3]) (fun _ => rfl) (ok_X9_size hQ c p1 hp1) (fun x1 c2 => ?_)
    refine l1_many mt_X1_layOut (pc' := bif am_cc .ge v3 x1 then 77 else 10) (L' := [some (.ref 34), some (.ref p1), none, some (.int v3)]) (st' := []) 1 rfl ?_
    refine l1_bif rfl ?_ ?_
    · refine l1_many mt_X1_layOut (pc' := 78) (L' := [some (.ref 34), some (.ref p1), none, some (.int v3)]) (st' := [.ref 34]) 1 rfl ?_
      refine l1_getR hQ mt_X1_layOut rfl (o := 34) (ci := 0) (k := 0) (a := 1) (b := 2) rfl rfl rfl rfl rfl (q := 3) rfl ?_
      refine l1_many mt_X1_layOut (pc' := 84) (L' := [some (.ref 34), some (.ref p1), none, some (.int v3)]) (st' := [.int 1024, .ref 3]) 1 rfl ?_
      refine l1_callV hQ mt_X1_layOut mt_X2_addZeros rfl rfl (o := 3) (ci := 1) (As := [.int 1024]) (rest := []) rfl rfl rfl rfl rfl rfl (st1 := fun _ => []) (fun _ => rfl) (ok_X2_addZeros hQ N c2 3 1024 rfl) (fun _ c3 => ?_)
      exact l1_ret mt_X1_layOut rfl rfl rfl
    · refine l1_many mt_X1_layOut (pc' := 12) (L' := [some (.ref 34), some (.ref p1), none, some (.int v3)]) (st' := [.int v3, .ref p1]) 2 rfl ?_
      refine l1_callV hQ mt_X1_layOut mt_X9_member rfl rfl (o := p1) (ci := 8) (As := [.int v3]) (rest := []) rfl rfl hp1 rfl rfl rfl (st1 := fun x4 => l1_mv x4 :: []) (fun _ => rfl) (ok_X9_member hQ c2 p1 v3 hp1) (fun x4 c5 => ?_)
      refine l1_opt (x := x4) ?_ (fun y6 => ?_)
      · refine l1_many mt_X1_layOut (pc' := 2) (L' := [some (.ref 34), some (.ref p1), none, some (.int (v3 + 1)), some (.null)]) (st' := []) 5 rfl ?_
        refine l1_weak (m := [true, true, false, true, false, false]) (L' := [some (.ref 34), some (.ref p1), none, some (.int (v3 + 1))]) rfl ?_
        exact ih c5 (v3 + 1)
      · refine l1_ck (fun hy => ?_)
        have hy6 : kc y6 = 6 := Nat.eq_of_beq_eq_true hy
        refine l1_many mt_X1_layOut (pc' := 25) (L' := [some (.ref 34), some (.ref p1), none, some (.int v3), some (.ref y6)]) (st' := [.ref y6, .ref 34]) 5 rfl ?_
        refine l1_callV hQ mt_X1_layOut mt_X1_addHead rfl rfl (o := 34) (ci := 0) (As := [.ref y6]) (rest := []) rfl rfl rfl rfl rfl rfl (st1 := fun _ => []) (fun _ => rfl) (ok_X1_addHead hQ N c5 y6 hy6) (fun _ c7 => ?_)
        refine l1_many mt_X1_layOut (pc' := 30) (L' := [some (.ref 34), some (.ref p1), none, some (.int v3), some (.ref y6)]) (st' := [.ref y6]) 1 rfl ?_
        refine l1_getR hQ mt_X1_layOut rfl (o := y6) (ci := 6) (k := 1) (a := 2) (b := 2) hy6 rfl rfl rfl rfl (q := (y6 + 3)) rfl ?_
        refine l1_callV hQ mt_X1_layOut mt_X2_size rfl rfl (o := (y6 + 3)) (ci := 1) (As := []) (rest := []) rfl rfl (kc6_1 hy6) rfl rfl rfl (st1 := fun x8 => [.int x8]) (fun _ => rfl) (ok_X2_size hQ c7 (y6 + 3) (kc6_1 hy6)) (fun x8 c9 => ?_)
        refine l1_many mt_X1_layOut (pc' := 39) (L' := [some (.ref 34), some (.ref p1), none, some (.int v3), some (.ref y6), some (.int x8)]) (st' := [.ref 34]) 2 rfl ?_
        refine l1_getR hQ mt_X1_layOut rfl (o := 34) (ci := 0) (k := 0) (a := 1) (b := 2) rfl rfl rfl rfl rfl (q := 3) rfl ?_
        refine l1_many mt_X1_layOut (pc' := 44) (L' := [some (.ref 34), some (.ref p1), none, some (.int v3), some (.ref y6), some (.int x8)]) (st' := [.ref y6, .ref 3]) 1 rfl ?_
        refine l1_getR hQ mt_X1_layOut rfl (o := y6) (ci := 6) (k := 1) (a := 2) (b := 2) hy6 rfl rfl rfl rfl (q := (y6 + 3)) rfl ?_
        refine l1_many mt_X1_layOut (pc' := 50) (L' := [some (.ref 34), some (.ref p1), none, some (.int v3), some (.ref y6), some (.int x8)]) (st' := [.int x8, .int 0, .ref (y6 + 3), .ref 3]) 2 rfl ?_
        refine l1_callV hQ mt_X1_layOut mt_X2_addRow rfl rfl (o := 3) (ci := 1) (As := [.ref (y6 + 3), .int 0, .int x8]) (rest := []) rfl rfl rfl rfl rfl rfl (st1 := fun _ => []) (fun _ => rfl) (ok_X2_addRow hQ N c9 3 (y6 + 3) 0 x8 rfl (kc6_1 hy6)) (fun _ c10 => ?_)
        refine l1_many mt_X1_layOut (pc' := 54) (L' := [some (.ref 34), some (.ref p1), none, some (.int v3), some (.ref y6), some (.int x8)]) (st' := [.ref 34]) 1 rfl ?_
        refine l1_getR hQ mt_X1_layOut rfl (o := 34) (ci := 0) (k := 0) (a := 1) (b := 2) rfl rfl rfl rfl rfl (q := 3) rfl ?_
        refine l1_many mt_X1_layOut (pc' := 62) (L' := [some (.ref 34), some (.ref p1), none, some (.int v3), some (.ref y6), some (.int x8)]) (st' := [.int 512, .int x8, .ref 3]) 2 rfl ?_
        refine l1_callS mt_X1_layOut mt_X11_roundedUp rfl rfl (As := [.int x8, .int 512]) (rest := [.ref 3]) rfl rfl rfl (st1 := fun x11 => [.int x11, .ref 3]) (fun _ => rfl) (ok_X11_roundedUp hQ c10 x8 512) (fun x11 c12 => ?_)
        refine l1_many mt_X1_layOut (pc' := 68) (L' := [some (.ref 34), some (.ref p1), none, some (.int v3), some (.ref y6), some (.int x8)]) (st' := [.int (x11 - x8), .ref 3]) 2 rfl ?_
        refine l1_callV hQ mt_X1_layOut mt_X2_addZeros rfl rfl (o := 3) (ci := 1) (As := [.int (x11 - x8)]) (rest := []) rfl rfl rfl rfl rfl rfl (st1 := fun _ => []) (fun _ => rfl) (ok_X2_addZeros hQ N c12 3 (x11 - x8) rfl) (fun _ c13 => ?_)
        refine l1_many mt_X1_layOut (pc' := 2) (L' := [some (.ref 34), some (.ref p1), none, some (.int (v3 + 1)), some (.ref y6), some (.int x8)]) (st' := []) 2 rfl ?_
        refine l1_weak (m := [true, true, false, true, false, false]) (L' := [some (.ref 34), some (.ref p1), none, some (.int (v3 + 1))]) rfl ?_
        exact ih c13 (v3 + 1)
set_option maxRecDepth 100000 in
theorem en_X1_layOut {Q : hS → am_H → Prop} (hQ : l1_em kc Q) (N : Nat) (c : hS) (p1 : Nat) (p2 : Int32) (hp1 : kc p1 = 8) : l1_G (wN wV) Q am_i_X1_layOut 0 [some (.ref 34), some (.ref p1), some (.int p2)] [] c (f_X1_layOut N c p1 p2) := by
  rw [f_X1_layOut]
  refine l1_many mt_X1_layOut (pc' := 2) (L' := [some (.ref 34), some (.ref p1), some (.int p2), some (.int 0)]) (st' := []) 2 rfl ?_
  refine l1_weak (m := [true, true, false, true, false, false]) (L' := [some (.ref 34), some (.ref p1), none, some (.int 0)]) rfl ?_
  exact ok_X1_layOut_2 hQ N p1 p2 hp1 N c 0
theorem ok_X1_layOut {Q : hS → am_H → Prop} (hQ : l1_em kc Q) (N : Nat) (c : hS) (p1 : Nat) (p2 : Int32) (hp1 : kc p1 = 8) : l1_T wV Q am_i_X1_layOut [.ref 34, .ref p1, .int p2] c (f_X1_layOut N c p1 p2) := l1_of (en_X1_layOut hQ N c p1 p2 hp1) ⟨rfl, rfl, rfl, trivial⟩
set_option maxRecDepth 100000 in
theorem en_X2_has {Q : hS → am_H → Prop} (hQ : l1_em kc Q) (c : hS) (b : Nat) (p1 : Int32) (hb : kc b = 1) : l1_G (wN wI) Q am_i_X2_has 0 [some (.ref b), some (.int p1)] [] c (f_X2_has c b p1) := by
  rw [f_X2_has]
  refine l1_many mt_X2_has (pc' := bif am_cc .lt p1 0 then 16 else 4) (L' := [some (.ref b), some (.int p1)]) (st' := []) 2 rfl ?_
  refine l1_bif rfl ?_ ?_
  · refine l1_many mt_X2_has (pc' := 17) (L' := [some (.ref b), some (.int p1)]) (st' := [.int 0]) 1 rfl ?_
    exact l1_ret mt_X2_has rfl rfl rfl
  · refine l1_many mt_X2_has (pc' := 6) (L' := [some (.ref b), some (.int p1)]) (st' := [.ref b, .int p1]) 2 rfl ?_
    refine l1_getI hQ mt_X2_has rfl (o := b) (ci := 1) (k := 1) (a := 0) (b := 0) hb rfl rfl rfl rfl ?_
    refine l1_many mt_X2_has (pc' := bif am_cc .ge p1 (c.1 b 1) then 16 else 12) (L' := [some (.ref b), some (.int p1)]) (st' := []) 1 rfl ?_
    refine l1_bif rfl ?_ ?_
    · refine l1_many mt_X2_has (pc' := 17) (L' := [some (.ref b), some (.int p1)]) (st' := [.int 0]) 1 rfl ?_
      exact l1_ret mt_X2_has rfl rfl rfl
    · refine l1_many mt_X2_has (pc' := 17) (L' := [some (.ref b), some (.int p1)]) (st' := [.int 1]) 2 rfl ?_
      exact l1_ret mt_X2_has rfl rfl rfl
theorem ok_X2_has {Q : hS → am_H → Prop} (hQ : l1_em kc Q) (c : hS) (b : Nat) (p1 : Int32) (hb : kc b = 1) : l1_T wI Q am_i_X2_has [.ref b, .int p1] c (f_X2_has c b p1) := l1_of (en_X2_has hQ c b p1 hb) ⟨rfl, rfl, trivial⟩
set_option maxRecDepth 100000 in
theorem ok_X2_addBig_5 {Q : hS → am_H → Prop} (hQ : l1_em kc Q) (N : Nat) (b : Nat) (p1 : Int64) (p3 : Int32) (hb : kc b = 1) : ∀ n : Nat, ∀ (c : hS) (v4 : Int32), l1_G (wN wV) Q am_i_X2_addBig 5 [some (.ref b), some (.long p1), none, none, some (.int v4)] [] c (f_X2_addBig_5 N b p1 p3 n c v4) := by
  intro n
  induction n with
  | zero => intro c v4; exact l1_none
  | succ n ih =>
    intro c v4
    rw [f_X2_addBig_5]
    refine l1_many mt_X2_addBig (pc' := bif am_cc .lt v4 0 then 28 else 10) (L' := [some (.ref b), some (.long p1), none, none, some (.int v4)]) (st' := []) 2 rfl ?_
    refine l1_bif rfl ?_ ?_
    · exact l1_ret mt_X2_addBig rfl rfl rfl
    · refine l1_many mt_X2_addBig (pc' := 19) (L' := [some (.ref b), some (.long p1), none, none, some (.int v4)]) (st' := [.int ((j_lushr p1 (8 * v4)).toInt32), .ref b]) 7 rfl ?_
      refine l1_callV hQ mt_X2_addBig mt_X2_add rfl rfl (o := b) (ci := 1) (As := [.int ((j_lushr p1 (8 * v4)).toInt32)]) (rest := []) rfl rfl hb rfl rfl rfl (st1 := fun _ => []) (fun _ => rfl) (ok_X2_add hQ c b ((j_lushr p1 (8 * v4)).toInt32) hb) (fun _ c1 => ?_)
      refine l1_many mt_X2_addBig (pc' := 5) (L' := [some (.ref b), some (.long p1), none, none, some (.int (v4 + (-1)))]) (st' := []) 2 rfl ?_
      exact ih c1 (v4 + (-1))
set_option maxRecDepth 100000 in
theorem en_X2_addBig {Q : hS → am_H → Prop} (hQ : l1_em kc Q) (N : Nat) (c : hS) (b : Nat) (p1 : Int64) (p3 : Int32) (hb : kc b = 1) : l1_G (wN wV) Q am_i_X2_addBig 0 [some (.ref b), some (.long p1), none, some (.int p3)] [] c (f_X2_addBig N c b p1 p3) := by
  rw [f_X2_addBig]
  refine l1_many mt_X2_addBig (pc' := 5) (L' := [some (.ref b), some (.long p1), none, some (.int p3), some (.int (p3 - 1))]) (st' := []) 4 rfl ?_
  refine l1_weak (m := [true, true, false, false, true]) (L' := [some (.ref b), some (.long p1), none, none, some (.int (p3 - 1))]) rfl ?_
  exact ok_X2_addBig_5 hQ N b p1 p3 hb N c (p3 - 1)
theorem ok_X2_addBig {Q : hS → am_H → Prop} (hQ : l1_em kc Q) (N : Nat) (c : hS) (b : Nat) (p1 : Int64) (p3 : Int32) (hb : kc b = 1) : l1_T wV Q am_i_X2_addBig [.ref b, .long p1, .int p3] c (f_X2_addBig N c b p1 p3) := l1_of (en_X2_addBig hQ N c b p1 p3 hb) ⟨rfl, rfl, rfl, trivial⟩
set_option maxRecDepth 100000 in
theorem ok_X2_addLittle_3 {Q : hS → am_H → Prop} (hQ : l1_em kc Q) (N : Nat) (b : Nat) (p1 : Int64) (p3 : Int32) (hb : kc b = 1) : ∀ n : Nat, ∀ (c : hS) (v4 : Int32), l1_G (wN wV) Q am_i_X2_addLittle 3 [some (.ref b), some (.long p1), none, some (.int p3), some (.int v4)] [] c (f_X2_addLittle_3 N b p1 p3 n c v4) := by
  intro n
  induction n with
  | zero => intro c v4; exact l1_none
  | succ n ih =>
    intro c v4
    rw [f_X2_addLittle_3]
    refine l1_many mt_X2_addLittle (pc' := bif am_cc .ge v4 p3 then 27 else 9) (L' := [some (.ref b), some (.long p1), none, some (.int p3), some (.int v4)]) (st' := []) 3 rfl ?_
    refine l1_bif rfl ?_ ?_
    · exact l1_ret mt_X2_addLittle rfl rfl rfl
    · refine l1_many mt_X2_addLittle (pc' := 18) (L' := [some (.ref b), some (.long p1), none, some (.int p3), some (.int v4)]) (st' := [.int ((j_lushr p1 (8 * v4)).toInt32), .ref b]) 7 rfl ?_
      refine l1_callV hQ mt_X2_addLittle mt_X2_add rfl rfl (o := b) (ci := 1) (As := [.int ((j_lushr p1 (8 * v4)).toInt32)]) (rest := []) rfl rfl hb rfl rfl rfl (st1 := fun _ => []) (fun _ => rfl) (ok_X2_add hQ c b ((j_lushr p1 (8 * v4)).toInt32) hb) (fun _ c1 => ?_)
      refine l1_many mt_X2_addLittle (pc' := 3) (L' := [some (.ref b), some (.long p1), none, some (.int p3), some (.int (v4 + 1))]) (st' := []) 2 rfl ?_
      exact ih c1 (v4 + 1)
set_option maxRecDepth 100000 in
theorem en_X2_addLittle {Q : hS → am_H → Prop} (hQ : l1_em kc Q) (N : Nat) (c : hS) (b : Nat) (p1 : Int64) (p3 : Int32) (hb : kc b = 1) : l1_G (wN wV) Q am_i_X2_addLittle 0 [some (.ref b), some (.long p1), none, some (.int p3)] [] c (f_X2_addLittle N c b p1 p3) := by
  rw [f_X2_addLittle]
  refine l1_many mt_X2_addLittle (pc' := 3) (L' := [some (.ref b), some (.long p1), none, some (.int p3), some (.int 0)]) (st' := []) 2 rfl ?_
  exact ok_X2_addLittle_3 hQ N b p1 p3 hb N c 0
theorem ok_X2_addLittle {Q : hS → am_H → Prop} (hQ : l1_em kc Q) (N : Nat) (c : hS) (b : Nat) (p1 : Int64) (p3 : Int32) (hb : kc b = 1) : l1_T wV Q am_i_X2_addLittle [.ref b, .long p1, .int p3] c (f_X2_addLittle N c b p1 p3) := l1_of (en_X2_addLittle hQ N c b p1 p3 hb) ⟨rfl, rfl, rfl, trivial⟩
set_option maxRecDepth 100000 in
theorem ok_X2_little_7 {Q : hS → am_H → Prop} (hQ : l1_em kc Q) (N : Nat) (b : Nat) (p1 : Int32) (p2 : Int32) (hb : kc b = 1) : ∀ n : Nat, ∀ (c : hS) (v3 : Int64) (v5 : Int32), l1_G (wN wL) Q am_i_X2_little 7 [some (.ref b), some (.int p1), none, some (.long v3), none, some (.int v5)] [] c (f_X2_little_7 N b p1 p2 n c v3 v5) := by
  intro n
  induction n with
  | zero => intro c v3 v5; exact l1_none
  | succ n ih =>
    intro c v3 v5
    rw [f_X2_little_7]
    refine l1_many mt_X2_little (pc' := bif am_cc .lt v5 0 then 33 else 12) (L' := [some (.ref b), some (.int p1), none, some (.long v3), none, some (.int v5)]) (st' := []) 2 rfl ?_
    refine l1_bif rfl ?_ ?_
    · refine l1_many mt_X2_little (pc' := 34) (L' := [some (.ref b), some (.int p1), none, some (.long v3), none, some (.int v5)]) (st' := [.long v3]) 1 rfl ?_
      exact l1_ret mt_X2_little rfl rfl rfl
    · refine l1_many mt_X2_little (pc' := 21) (L' := [some (.ref b), some (.int p1), none, some (.long v3), none, some (.int v5)]) (st' := [.int (p1 + v5), .ref b, .long (j_lshl v3 8)]) 7 rfl ?_
      refine l1_callV hQ mt_X2_little mt_X2_get rfl rfl (o := b) (ci := 1) (As := [.int (p1 + v5)]) (rest := [.long (j_lshl v3 8)]) rfl rfl hb rfl rfl rfl (st1 := fun x1 => [.int x1, .long (j_lshl v3 8)]) (fun _ => rfl) (ok_X2_get hQ c b (p1 + v5) hb) (fun x1 c2 => ?_)
      refine l1_many mt_X2_little (pc' := 7) (L' := [some (.ref b), some (.int p1), none, some (.long ((j_lshl v3 8) ||| x1.toInt64)), none, some (.int (v5 + (-1)))]) (st' := []) 5 rfl ?_
      exact ih c2 ((j_lshl v3 8) ||| x1.toInt64) (v5 + (-1))
set_option maxRecDepth 100000 in
theorem en_X2_little {Q : hS → am_H → Prop} (hQ : l1_em kc Q) (N : Nat) (c : hS) (b : Nat) (p1 : Int32) (p2 : Int32) (hb : kc b = 1) : l1_G (wN wL) Q am_i_X2_little 0 [some (.ref b), some (.int p1), some (.int p2)] [] c (f_X2_little N c b p1 p2) := by
  rw [f_X2_little]
  refine l1_many mt_X2_little (pc' := 7) (L' := [some (.ref b), some (.int p1), some (.int p2), some (.long 0), none, some (.int (p2 - 1))]) (st' := []) 6 rfl ?_
  refine l1_weak (m := [true, true, false, true, false, true]) (L' := [some (.ref b), some (.int p1), none, some (.long 0), none, some (.int (p2 - 1))]) rfl ?_
  exact ok_X2_little_7 hQ N b p1 p2 hb N c 0 (p2 - 1)
theorem ok_X2_little {Q : hS → am_H → Prop} (hQ : l1_em kc Q) (N : Nat) (c : hS) (b : Nat) (p1 : Int32) (p2 : Int32) (hb : kc b = 1) : l1_T wL Q am_i_X2_little [.ref b, .int p1, .int p2] c (f_X2_little N c b p1 p2) := l1_of (en_X2_little hQ N c b p1 p2 hb) ⟨rfl, rfl, rfl, trivial⟩
set_option maxRecDepth 100000 in
theorem ok_X2_isText_15 {Q : hS → am_H → Prop} (hQ : l1_em kc Q) (N : Nat) (b : Nat) (p1 : List Int32) (hb : kc b = 1) {q1 : Nat} (hp1 : l1_OT q1 p1) : ∀ n : Nat, ∀ (c : hS) (v2 : Int32), l1_G (wN wI) Q am_i_X2_isText 15 [some (.ref b), some (.ref q1), some (.int v2)] [] c (f_X2_isText_15 N b p1 n c v2) := by
  intro n
  induction n with
  | zero => intro c v2; exact l1_none
  | succ n ih =>
    intro c v2
    rw [f_X2_isText_15]
    refine l1_many mt_X2_isText (pc' := 17) (L' := [some (.ref b), some (.ref q1), some (.int v2)]) (st' := [.ref q1, .int v2]) 2 rfl ?_
    refine l1_tlen mt_X2_isText rfl rfl rfl hp1 rfl ?_
    refine l1_many mt_X2_isText (pc' := bif am_cc .ge v2 (Int32.ofNat p1.length) then 44 else 23) (L' := [some (.ref b), some (.ref q1), some (.int v2)]) (st' := []) 1 rfl ?_
    refine l1_bif rfl ?_ ?_
    · refine l1_many mt_X2_isText (pc' := 45) (L' := [some (.ref b), some (.ref q1), some (.int v2)]) (st' := [.int 1]) 1 rfl ?_
      exact l1_ret mt_X2_isText rfl rfl rfl
    · refine l1_many mt_X2_isText (pc' := 25) (L' := [some (.ref b), some (.ref q1), some (.int v2)]) (st' := [.int v2, .ref b]) 2 rfl ?_
      refine l1_callV hQ mt_X2_isText mt_X2_get rfl rfl (o := b) (ci := 1) (As := [.int v2]) (rest := []) rfl rfl hb rfl rfl rfl (st1 := fun x1 => [.int x1]) (fun _ => rfl) (ok_X2_get hQ c b v2 hb) (fun x1 c2 => ?_)
      refine l1_many mt_X2_isText (pc' := 30) (L' := [some (.ref b), some (.ref q1), some (.int v2)]) (st' := [.int v2, .ref q1, .int x1]) 2 rfl ?_
      refine l1_ck (fun hx => ?_)
      refine l1_tch mt_X2_isText rfl rfl rfl hp1 hx rfl ?_
      refine l1_many mt_X2_isText (pc' := bif am_cc .eq x1 (p1.getD v2.toNatClampNeg 0) then 38 else 36) (L' := [some (.ref b), some (.ref q1), some (.int v2)]) (st' := []) 1 rfl ?_
      refine l1_bif rfl ?_ ?_
      · refine l1_many mt_X2_isText (pc' := 15) (L' := [some (.ref b), some (.ref q1), some (.int (v2 + 1))]) (st' := []) 2 rfl ?_
        exact ih c2 (v2 + 1)
      · refine l1_many mt_X2_isText (pc' := 37) (L' := [some (.ref b), some (.ref q1), some (.int v2)]) (st' := [.int 0]) 1 rfl ?_
        exact l1_ret mt_X2_isText rfl rfl rfl
set_option maxRecDepth 100000 in
theorem en_X2_isText {Q : hS → am_H → Prop} (hQ : l1_em kc Q) (N : Nat) (c : hS) (b : Nat) (p1 : List Int32) (hb : kc b = 1) {q1 : Nat} (hp1 : l1_OT q1 p1) : l1_G (wN wI) Q am_i_X2_isText 0 [some (.ref b), some (.ref q1)] [] c (f_X2_isText N c b p1) := by
  rw [f_X2_isText]
  refine l1_many mt_X2_isText (pc' := 1) (L' := [some (.ref b), some (.ref q1)]) (st' := [.ref b]) 1 rfl ?_
  refine l1_getI hQ mt_X2_isText rfl (o := b) (ci := 1) (k := 1) (a := 0) (b := 0) hb rfl rfl rfl rfl ?_
  refine l1_many mt_X2_isText (pc' := 5) (L' := [some (.ref b), some (.ref q1)]) (st' := [.ref q1, .int (c.1 b 1)]) 1 rfl ?_
  refine l1_tlen mt_X2_isText rfl rfl rfl hp1 rfl ?_
  refine l1_many mt_X2_isText (pc' := bif am_cc .eq (c.1 b 1) (Int32.ofNat p1.length) then 13 else 11) (L' := [some (.ref b), some (.ref q1)]) (st' := []) 1 rfl ?_
  refine l1_bif rfl ?_ ?_
  · refine l1_many mt_X2_isText (pc' := 15) (L' := [some (.ref b), some (.ref q1), some (.int 0)]) (st' := []) 2 rfl ?_
    exact ok_X2_isText_15 hQ N b p1 hb hp1 N c 0
  · refine l1_many mt_X2_isText (pc' := 12) (L' := [some (.ref b), some (.ref q1)]) (st' := [.int 0]) 1 rfl ?_
    exact l1_ret mt_X2_isText rfl rfl rfl
theorem ok_X2_isText {Q : hS → am_H → Prop} (hQ : l1_em kc Q) (N : Nat) (c : hS) (b : Nat) (p1 : List Int32) (hb : kc b = 1) {q1 : Nat} (hp1 : l1_OT q1 p1) : l1_T wI Q am_i_X2_isText [.ref b, .ref q1] c (f_X2_isText N c b p1) := l1_of (en_X2_isText hQ N c b p1 hb hp1) ⟨rfl, rfl, trivial⟩
set_option maxRecDepth 100000 in
theorem en_X3_longest {Q : hS → am_H → Prop} (hQ : l1_em kc Q) (c : hS) (d : Nat) (hd : kc d = 2) : l1_G (wN wI) Q am_i_X3_longest 0 [some (.ref d)] [] c (f_X3_longest c d) := by
  rw [f_X3_longest]
  refine l1_many mt_X3_longest (pc' := 1) (L' := [some (.ref d)]) (st' := [.ref d]) 1 rfl ?_
  refine l1_getI hQ mt_X3_longest rfl (o := d) (ci := 2) (k := 4) (a := 0) (b := 0) hd rfl rfl rfl rfl ?_
  exact l1_ret mt_X3_longest rfl rfl rfl
theorem ok_X3_longest {Q : hS → am_H → Prop} (hQ : l1_em kc Q) (c : hS) (d : Nat) (hd : kc d = 2) : l1_T wI Q am_i_X3_longest [.ref d] c (f_X3_longest c d) := l1_of (en_X3_longest hQ c d hd) ⟨rfl, trivial⟩
set_option maxRecDepth 100000 in
theorem en_X3_amount {Q : hS → am_H → Prop} (hQ : l1_em kc Q) (c : hS) (d : Nat) (p1 : Int32) (hd : kc d = 2) : l1_G (wN wI) Q am_i_X3_amount 0 [some (.ref d), some (.int p1)] [] c (f_X3_amount c d p1) := by
  rw [f_X3_amount]
  refine l1_many mt_X3_amount (pc' := bif am_cc .le p1 0 then 22 else 4) (L' := [some (.ref d), some (.int p1)]) (st' := []) 2 rfl ?_
  refine l1_bif rfl ?_ ?_
  · refine l1_many mt_X3_amount (pc' := 23) (L' := [some (.ref d), some (.int p1)]) (st' := [.int 0]) 1 rfl ?_
    exact l1_ret mt_X3_amount rfl rfl rfl
  · refine l1_many mt_X3_amount (pc' := 6) (L' := [some (.ref d), some (.int p1)]) (st' := [.ref d, .int p1]) 2 rfl ?_
    refine l1_getR hQ mt_X3_amount rfl (o := d) (ci := 2) (k := 0) (a := 0) (b := 1) hd rfl rfl rfl rfl (q := (d + 1)) rfl ?_
    refine l1_len hQ mt_X3_amount rfl (o := (d + 1)) (ci := 20) (kc2_0 hd) rfl rfl ?_
    refine l1_many mt_X3_amount (pc' := bif am_cc .ge p1 (Int32.ofNat (ln (d + 1))) then 22 else 13) (L' := [some (.ref d), some (.int p1)]) (st' := []) 1 rfl ?_
    refine l1_bif rfl ?_ ?_
    · refine l1_many mt_X3_amount (pc' := 23) (L' := [some (.ref d), some (.int p1)]) (st' := [.int 0]) 1 rfl ?_
      exact l1_ret mt_X3_amount rfl rfl rfl
    · refine l1_many mt_X3_amount (pc' := 14) (L' := [some (.ref d), some (.int p1)]) (st' := [.ref d]) 1 rfl ?_
      refine l1_getR hQ mt_X3_amount rfl (o := d) (ci := 2) (k := 0) (a := 0) (b := 1) hd rfl rfl rfl rfl (q := (d + 1)) rfl ?_
      refine l1_many mt_X3_amount (pc' := 18) (L' := [some (.ref d), some (.int p1)]) (st' := [.int p1, .ref (d + 1)]) 1 rfl ?_
      refine l1_ck (fun hx => ?_)
      refine l1_ald hQ mt_X3_amount rfl (o := (d + 1)) (kc2_0 hd) hx ?_
      refine l1_many mt_X3_amount (pc' := 23) (L' := [some (.ref d), some (.int p1)]) (st' := [.int (c.1 (d + 1) p1.toNatClampNeg)]) 1 rfl ?_
      exact l1_ret mt_X3_amount rfl rfl rfl
theorem ok_X3_amount {Q : hS → am_H → Prop} (hQ : l1_em kc Q) (c : hS) (d : Nat) (p1 : Int32) (hd : kc d = 2) : l1_T wI Q am_i_X3_amount [.ref d, .int p1] c (f_X3_amount c d p1) := l1_of (en_X3_amount hQ c d p1 hd) ⟨rfl, rfl, trivial⟩
set_option maxRecDepth 100000 in
theorem en_X3_symbol {Q : hS → am_H → Prop} (hQ : l1_em kc Q) (c : hS) (d : Nat) (p1 : Int32) (hd : kc d = 2) : l1_G (wN wI) Q am_i_X3_symbol 0 [some (.ref d), some (.int p1)] [] c (f_X3_symbol c d p1) := by
  rw [f_X3_symbol]
  refine l1_many mt_X3_symbol (pc' := bif am_cc .lt p1 0 then 30 else 4) (L' := [some (.ref d), some (.int p1)]) (st' := []) 2 rfl ?_
  refine l1_bif rfl ?_ ?_
  · refine l1_many mt_X3_symbol (pc' := 31) (L' := [some (.ref d), some (.int p1)]) (st' := [.int (-1)]) 1 rfl ?_
    exact l1_ret mt_X3_symbol rfl rfl rfl
  · refine l1_many mt_X3_symbol (pc' := 6) (L' := [some (.ref d), some (.int p1)]) (st' := [.ref d, .int p1]) 2 rfl ?_
    refine l1_getI hQ mt_X3_symbol rfl (o := d) (ci := 2) (k := 3) (a := 0) (b := 0) hd rfl rfl rfl rfl ?_
    refine l1_many mt_X3_symbol (pc' := bif am_cc .ge p1 (c.1 d 3) then 30 else 12) (L' := [some (.ref d), some (.int p1)]) (st' := []) 1 rfl ?_
    refine l1_bif rfl ?_ ?_
    · refine l1_many mt_X3_symbol (pc' := 31) (L' := [some (.ref d), some (.int p1)]) (st' := [.int (-1)]) 1 rfl ?_
      exact l1_ret mt_X3_symbol rfl rfl rfl
    · refine l1_many mt_X3_symbol (pc' := 14) (L' := [some (.ref d), some (.int p1)]) (st' := [.ref d, .int p1]) 2 rfl ?_
      refine l1_getR hQ mt_X3_symbol rfl (o := d) (ci := 2) (k := 2) (a := 0) (b := 1) hd rfl rfl rfl rfl (q := (d + 3)) rfl ?_
      refine l1_len hQ mt_X3_symbol rfl (o := (d + 3)) (ci := 20) (kc2_2 hd) rfl rfl ?_
      refine l1_many mt_X3_symbol (pc' := bif am_cc .ge p1 (Int32.ofNat (ln (d + 3))) then 30 else 21) (L' := [some (.ref d), some (.int p1)]) (st' := []) 1 rfl ?_
      refine l1_bif rfl ?_ ?_
      · refine l1_many mt_X3_symbol (pc' := 31) (L' := [some (.ref d), some (.int p1)]) (st' := [.int (-1)]) 1 rfl ?_
        exact l1_ret mt_X3_symbol rfl rfl rfl
      · refine l1_many mt_X3_symbol (pc' := 22) (L' := [some (.ref d), some (.int p1)]) (st' := [.ref d]) 1 rfl ?_
        refine l1_getR hQ mt_X3_symbol rfl (o := d) (ci := 2) (k := 2) (a := 0) (b := 1) hd rfl rfl rfl rfl (q := (d + 3)) rfl ?_
        refine l1_many mt_X3_symbol (pc' := 26) (L' := [some (.ref d), some (.int p1)]) (st' := [.int p1, .ref (d + 3)]) 1 rfl ?_
        refine l1_ck (fun hx => ?_)
        refine l1_ald hQ mt_X3_symbol rfl (o := (d + 3)) (kc2_2 hd) hx ?_
        refine l1_many mt_X3_symbol (pc' := 31) (L' := [some (.ref d), some (.int p1)]) (st' := [.int (c.1 (d + 3) p1.toNatClampNeg)]) 1 rfl ?_
        exact l1_ret mt_X3_symbol rfl rfl rfl
theorem ok_X3_symbol {Q : hS → am_H → Prop} (hQ : l1_em kc Q) (c : hS) (d : Nat) (p1 : Int32) (hd : kc d = 2) : l1_T wI Q am_i_X3_symbol [.ref d, .int p1] c (f_X3_symbol c d p1) := l1_of (en_X3_symbol hQ c d p1 hd) ⟨rfl, rfl, trivial⟩
set_option maxRecDepth 100000 in
theorem ok_X3_placeLengths_12 {Q : hS → am_H → Prop} (hQ : l1_em kc Q) (N : Nat) (d : Nat) (hd : kc d = 2) : ∀ n : Nat, ∀ (c : hS) (v1 : Int32), l1_G (wN wV) Q am_i_X3_placeLengths 12 [some (.ref d), some (.int v1)] [] c (f_X3_placeLengths_12 N d n c v1) := by
  intro n
  induction n with
  | zero => intro c v1; exact l1_none
  | succ n ih =>
    intro c v1
    rw [f_X3_placeLengths_12]
    refine l1_many mt_X3_placeLengths (pc' := 14) (L' := [some (.ref d), some (.int v1)]) (st' := [.ref d, .int v1]) 2 rfl ?_
    refine l1_getR hQ mt_X3_placeLengths rfl (o := d) (ci := 2) (k := 0) (a := 0) (b := 1) hd rfl rfl rfl rfl (q := (d + 1)) rfl ?_
    refine l1_len hQ mt_X3_placeLengths rfl (o := (d + 1)) (ci := 20) (kc2_0 hd) rfl rfl ?_
    refine l1_many mt_X3_placeLengths (pc' := bif am_cc .ge v1 (Int32.ofNat (ln (d + 1))) then 75 else 21) (L' := [some (.ref d), some (.int v1)]) (st' := []) 1 rfl ?_
    refine l1_bif rfl ?_ ?_
    · exact l1_ret mt_X3_placeLengths rfl rfl rfl
    · refine l1_many mt_X3_placeLengths (pc' := 23) (L' := [some (.ref d), some (.int v1)]) (st' := [.ref d, .int v1]) 2 rfl ?_
      refine l1_getR hQ mt_X3_placeLengths rfl (o := d) (ci := 2) (k := 1) (a := 0) (b := 1) hd rfl rfl rfl rfl (q := (d + 2)) rfl ?_
      refine l1_len hQ mt_X3_placeLengths rfl (o := (d + 2)) (ci := 20) (kc2_1 hd) rfl rfl ?_
      refine l1_many mt_X3_placeLengths (pc' := bif am_cc .ge v1 (Int32.ofNat (ln (d + 2))) then 75 else 30) (L' := [some (.ref d), some (.int v1)]) (st' := []) 1 rfl ?_
      refine l1_bif rfl ?_ ?_
      · exact l1_ret mt_X3_placeLengths rfl rfl rfl
      · refine l1_many mt_X3_placeLengths (pc' := 31) (L' := [some (.ref d), some (.int v1)]) (st' := [.ref d]) 1 rfl ?_
        refine l1_getR hQ mt_X3_placeLengths rfl (o := d) (ci := 2) (k := 1) (a := 0) (b := 1) hd rfl rfl rfl rfl (q := (d + 2)) rfl ?_
        refine l1_many mt_X3_placeLengths (pc' := 36) (L' := [some (.ref d), some (.int v1)]) (st' := [.ref d, .int v1, .ref (d + 2)]) 2 rfl ?_
        refine l1_getI hQ mt_X3_placeLengths rfl (o := d) (ci := 2) (k := 3) (a := 0) (b := 0) hd rfl rfl rfl rfl ?_
        refine l1_ck (fun hx => ?_)
        refine l1_ast hQ mt_X3_placeLengths rfl (o := (d + 2)) (kc2_1 hd) hx (fun c1 => ?_)
        refine l1_many mt_X3_placeLengths (pc' := 42) (L' := [some (.ref d), some (.int v1)]) (st' := [.ref d, .ref d]) 2 rfl ?_
        refine l1_getI hQ mt_X3_placeLengths rfl (o := d) (ci := 2) (k := 3) (a := 0) (b := 0) hd rfl rfl rfl rfl ?_
        refine l1_many mt_X3_placeLengths (pc' := 46) (L' := [some (.ref d), some (.int v1)]) (st' := [.ref d, .int (c1.1 d 3), .ref d]) 1 rfl ?_
        refine l1_getR hQ mt_X3_placeLengths rfl (o := d) (ci := 2) (k := 0) (a := 0) (b := 1) hd rfl rfl rfl rfl (q := (d + 1)) rfl ?_
        refine l1_many mt_X3_placeLengths (pc' := 50) (L' := [some (.ref d), some (.int v1)]) (st' := [.int v1, .ref (d + 1), .int (c1.1 d 3), .ref d]) 1 rfl ?_
        refine l1_ck (fun hx => ?_)
        refine l1_ald hQ mt_X3_placeLengths rfl (o := (d + 1)) (kc2_0 hd) hx ?_
        refine l1_many mt_X3_placeLengths (pc' := 52) (L' := [some (.ref d), some (.int v1)]) (st' := [.int ((c1.1 d 3) + (c1.1 (d + 1) v1.toNatClampNeg)), .ref d]) 1 rfl ?_
        refine l1_putI hQ mt_X3_placeLengths rfl (o := d) (ci := 2) (k := 3) (a := 0) hd rfl rfl rfl rfl rfl (fun c2 => ?_)
        refine l1_many mt_X3_placeLengths (pc' := 56) (L' := [some (.ref d), some (.int v1)]) (st' := [.ref d]) 1 rfl ?_
        refine l1_getR hQ mt_X3_placeLengths rfl (o := d) (ci := 2) (k := 0) (a := 0) (b := 1) hd rfl rfl rfl rfl (q := (d + 1)) rfl ?_
        refine l1_many mt_X3_placeLengths (pc' := 60) (L' := [some (.ref d), some (.int v1)]) (st' := [.int v1, .ref (d + 1)]) 1 rfl ?_
        refine l1_ck (fun hx => ?_)
        refine l1_ald hQ mt_X3_placeLengths rfl (o := (d + 1)) (kc2_0 hd) hx ?_
        refine l1_many mt_X3_placeLengths (pc' := bif am_cc .le (c2.1 (d + 1) v1.toNatClampNeg) 0 then 69 else 64) (L' := [some (.ref d), some (.int v1)]) (st' := []) 1 rfl ?_
        refine l1_bif rfl ?_ ?_
        · refine l1_many mt_X3_placeLengths (pc' := 12) (L' := [some (.ref d), some (.int (v1 + 1))]) (st' := []) 2 rfl ?_
          exact ih c2 (v1 + 1)
        · refine l1_many mt_X3_placeLengths (pc' := 66) (L' := [some (.ref d), some (.int v1)]) (st' := [.int v1, .ref d]) 2 rfl ?_
          refine l1_putI hQ mt_X3_placeLengths rfl (o := d) (ci := 2) (k := 4) (a := 0) hd rfl rfl rfl rfl rfl (fun c3 => ?_)
          refine l1_many mt_X3_placeLengths (pc' := 12) (L' := [some (.ref d), some (.int (v1 + 1))]) (st' := []) 2 rfl ?_
          exact ih c3 (v1 + 1)
set_option maxRecDepth 100000 in
theorem en_X3_placeLengths {Q : hS → am_H → Prop} (hQ : l1_em kc Q) (N : Nat) (c : hS) (d : Nat) (hd : kc d = 2) : l1_G (wN wV) Q am_i_X3_placeLengths 0 [some (.ref d)] [] c (f_X3_placeLengths N c d) := by
  rw [f_X3_placeLengths]
  refine l1_many mt_X3_placeLengths (pc' := 2) (L' := [some (.ref d)]) (st' := [.int 0, .ref d]) 2 rfl ?_
  refine l1_putI hQ mt_X3_placeLengths rfl (o := d) (ci := 2) (k := 3) (a := 0) hd rfl rfl rfl rfl rfl (fun c1 => ?_)
  refine l1_many mt_X3_placeLengths (pc' := 7) (L' := [some (.ref d)]) (st' := [.int 0, .ref d]) 2 rfl ?_
  refine l1_putI hQ mt_X3_placeLengths rfl (o := d) (ci := 2) (k := 4) (a := 0) hd rfl rfl rfl rfl rfl (fun c2 => ?_)
  refine l1_many mt_X3_placeLengths (pc' := 12) (L' := [some (.ref d), some (.int 1)]) (st' := []) 2 rfl ?_
  exact ok_X3_placeLengths_12 hQ N d hd N c2 1
theorem ok_X3_placeLengths {Q : hS → am_H → Prop} (hQ : l1_em kc Q) (N : Nat) (c : hS) (d : Nat) (hd : kc d = 2) : l1_T wV Q am_i_X3_placeLengths [.ref d] c (f_X3_placeLengths N c d) := l1_of (en_X3_placeLengths hQ N c d hd) ⟨rfl, trivial⟩
