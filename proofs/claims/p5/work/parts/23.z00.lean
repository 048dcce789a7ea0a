/-! THAT THE MACHINE FOLLOWS THEM, printed by gen_l1.py -/
set_option maxRecDepth 100000 in
theorem en_X2_size {Q : hS → am_H → Prop} (hQ : l1_em kc Q) (c : hS) (b : Nat) (hb : kc b = 1) : l1_G (wN wI) Q am_i_X2_size 0 [some (.ref b)] [] c (f_X2_size c b) := by
  rw [f_X2_size]
  refine l1_many mt_X2_size (pc' := 1) (L' := [some (.ref b)]) (st' := [.ref b]) 1 rfl ?_
  refine l1_getI hQ mt_X2_size rfl (o := b) (ci := 1) (k := 1) (a := 0) (b := 0) hb rfl rfl rfl rfl ?_
  exact l1_ret mt_X2_size rfl rfl rfl
theorem ok_X2_size {Q : hS → am_H → Prop} (hQ : l1_em kc Q) (c : hS) (b : Nat) (hb : kc b = 1) : l1_T wI Q am_i_X2_size [.ref b] c (f_X2_size c b) := l1_of (en_X2_size hQ c b hb) ⟨rfl, trivial⟩
set_option maxRecDepth 100000 in
theorem en_X6_tell {Q : hS → am_H → Prop} (hQ : l1_em kc Q) (c : hS) (p1 : Int32) (p2 : Int32) : l1_G (wN wI) Q am_i_X6_tell 0 [some (.ref 9), some (.int p1), some (.int p2)] [] c (f_X6_tell c p1 p2) := by
  rw [f_X6_tell]
  refine l1_many mt_X6_tell (pc' := 2) (L' := [some (.ref 9), some (.int p1), some (.int p2)]) (st' := [.int p1, .ref 9]) 2 rfl ?_
  refine l1_putI hQ mt_X6_tell rfl (o := 9) (ci := 5) (k := 0) (a := 0) rfl rfl rfl rfl rfl rfl (fun c1 => ?_)
  refine l1_many mt_X6_tell (pc' := 7) (L' := [some (.ref 9), some (.int p1), some (.int p2)]) (st' := [.int p2, .ref 9]) 2 rfl ?_
  refine l1_putI hQ mt_X6_tell rfl (o := 9) (ci := 5) (k := 1) (a := 0) rfl rfl rfl rfl rfl rfl (fun c2 => ?_)
  refine l1_many mt_X6_tell (pc' := 11) (L' := [some (.ref 9), some (.int p1), some (.int p2)]) (st' := [.int 0]) 1 rfl ?_
  exact l1_ret mt_X6_tell rfl rfl rfl
theorem ok_X6_tell {Q : hS → am_H → Prop} (hQ : l1_em kc Q) (c : hS) (p1 : Int32) (p2 : Int32) : l1_T wI Q am_i_X6_tell [.ref 9, .int p1, .int p2] c (f_X6_tell c p1 p2) := l1_of (en_X6_tell hQ c p1 p2) ⟨rfl, rfl, rfl, trivial⟩
set_option maxRecDepth 100000 in
theorem en_X0_reaches_34 {Q : hS → am_H → Prop} (hQ : l1_em kc Q) (c : hS) (p1 : Int32) : l1_G (wN wI) Q am_i_X0_reaches 0 [some (.ref 34), some (.int p1)] [] c (f_X0_reaches c p1) := by
  rw [f_X0_reaches]
  refine l1_many mt_X0_reaches (pc' := 2) (L' := [some (.ref 34), some (.int p1)]) (st' := [.ref 34, .int p1]) 2 rfl ?_
  refine l1_getR hQ mt_X0_reaches rfl (o := 34) (ci := 0) (k := 0) (a := 0) (b := 1) rfl rfl rfl rfl rfl (q := 3) rfl ?_
  refine l1_callV hQ mt_X0_reaches mt_X2_size rfl rfl (o := 3) (ci := 1) (As := []) (rest := [.int p1]) rfl rfl rfl rfl rfl rfl (st1 := fun x1 => [.int x1, .int p1]) (fun _ => rfl) (ok_X2_size hQ c 3 rfl) (fun x1 c2 => ?_)
  refine l1_many mt_X0_reaches (pc' := bif am_cc .le p1 x1 then 29 else 11) (L' := [some (.ref 34), some (.int p1)]) (st' := []) 1 rfl ?_
  refine l1_bif rfl ?_ ?_
  · refine l1_many mt_X0_reaches (pc' := 34) (L' := [some (.ref 34), some (.int p1)]) (st' := [.int 1]) 2 rfl ?_
    exact l1_ret mt_X0_reaches rfl rfl rfl
  · refine l1_many mt_X0_reaches (pc' := 12) (L' := [some (.ref 34), some (.int p1)]) (st' := [.ref 34]) 1 rfl ?_
    refine l1_getR hQ mt_X0_reaches rfl (o := 34) (ci := 0) (k := 2) (a := 0) (b := 1) rfl rfl rfl rfl rfl (q := 9) rfl ?_
    refine l1_many mt_X0_reaches (pc' := 17) (L' := [some (.ref 34), some (.int p1)]) (st' := [.ref 34, .int 1, .ref 9]) 2 rfl ?_
    refine l1_getR hQ mt_X0_reaches rfl (o := 34) (ci := 0) (k := 0) (a := 0) (b := 1) rfl rfl rfl rfl rfl (q := 3) rfl ?_
    refine l1_callV hQ mt_X0_reaches mt_X2_size rfl rfl (o := 3) (ci := 1) (As := []) (rest := [.int 1, .ref 9]) rfl rfl rfl rfl rfl rfl (st1 := fun x3 => [.int x3, .int 1, .ref 9]) (fun _ => rfl) (ok_X2_size hQ c2 3 rfl) (fun x3 c4 => ?_)
    refine l1_callV hQ mt_X0_reaches mt_X6_tell rfl rfl (o := 9) (ci := 5) (As := [.int 1, .int x3]) (rest := []) rfl rfl rfl rfl rfl rfl (st1 := fun x5 => [.int x5]) (fun _ => rfl) (ok_X6_tell hQ c4 1 x3) (fun x5 c6 => ?_)
    refine l1_many mt_X0_reaches (pc' := bif am_cc .eq x5 0 then 33 else 29) (L' := [some (.ref 34), some (.int p1)]) (st' := []) 1 rfl ?_
    refine l1_bif rfl ?_ ?_
    · refine l1_many mt_X0_reaches (pc' := 34) (L' := [some (.ref 34), some (.int p1)]) (st' := [.int 0]) 1 rfl ?_
      exact l1_ret mt_X0_reaches rfl rfl rfl
    · refine l1_many mt_X0_reaches (pc' := 34) (L' := [some (.ref 34), some (.int p1)]) (st' := [.int 1]) 2 rfl ?_
      exact l1_ret mt_X0_reaches rfl rfl rfl
theorem ok_X0_reaches_34 {Q : hS → am_H → Prop} (hQ : l1_em kc Q) (c : hS) (p1 : Int32) : l1_T wI Q am_i_X0_reaches [.ref 34, .int p1] c (f_X0_reaches c p1) := l1_of (en_X0_reaches_34 hQ c p1) ⟨rfl, rfl, trivial⟩
set_option maxRecDepth 100000 in
theorem en_X0_reaches_35 {Q : hS → am_H → Prop} (hQ : l1_em kc Q) (c : hS) (p1 : Int32) : l1_G (wN wI) Q am_i_X0_reaches 0 [some (.ref 35), some (.int p1)] [] c (f_X0_reaches c p1) := by
  rw [f_X0_reaches]
  refine l1_many mt_X0_reaches (pc' := 2) (L' := [some (.ref 35), some (.int p1)]) (st' := [.ref 35, .int p1]) 2 rfl ?_
  refine l1_getR hQ mt_X0_reaches rfl (o := 35) (ci := 3) (k := 0) (a := 0) (b := 1) rfl rfl rfl rfl rfl (q := 3) rfl ?_
  refine l1_callV hQ mt_X0_reaches mt_X2_size rfl rfl (o := 3) (ci := 1) (As := []) (rest := [.int p1]) rfl rfl rfl rfl rfl rfl (st1 := fun x1 => [.int x1, .int p1]) (fun _ => rfl) (ok_X2_size hQ c 3 rfl) (fun x1 c2 => ?_)
  refine l1_many mt_X0_reaches (pc' := bif am_cc .le p1 x1 then 29 else 11) (L' := [some (.ref 35), some (.int p1)]) (st' := []) 1 rfl ?_
  refine l1_bif rfl ?_ ?_
  · refine l1_many mt_X0_reaches (pc' := 34) (L' := [some (.ref 35), some (.int p1)]) (st' := [.int 1]) 2 rfl ?_
    exact l1_ret mt_X0_reaches rfl rfl rfl
  · refine l1_many mt_X0_reaches (pc' := 12) (L' := [some (.ref 35), some (.int p1)]) (st' := [.ref 35]) 1 rfl ?_
    refine l1_getR hQ mt_X0_reaches rfl (o := 35) (ci := 3) (k := 2) (a := 0) (b := 1) rfl rfl rfl rfl rfl (q := 9) rfl ?_
    refine l1_many mt_X0_reaches (pc' := 17) (L' := [some (.ref 35), some (.int p1)]) (st' := [.ref 35, .int 1, .ref 9]) 2 rfl ?_
    refine l1_getR hQ mt_X0_reaches rfl (o := 35) (ci := 3) (k := 0) (a := 0) (b := 1) rfl rfl rfl rfl rfl (q := 3) rfl ?_
    refine l1_callV hQ mt_X0_reaches mt_X2_size rfl rfl (o := 3) (ci := 1) (As := []) (rest := [.int 1, .ref 9]) rfl rfl rfl rfl rfl rfl (st1 := fun x3 => [.int x3, .int 1, .ref 9]) (fun _ => rfl) (ok_X2_size hQ c2 3 rfl) (fun x3 c4 => ?_)
    refine l1_callV hQ mt_X0_reaches mt_X6_tell rfl rfl (o := 9) (ci := 5) (As := [.int 1, .int x3]) (rest := []) rfl rfl rfl rfl rfl rfl (st1 := fun x5 => [.int x5]) (fun _ => rfl) (ok_X6_tell hQ c4 1 x3) (fun x5 c6 => ?_)
    refine l1_many mt_X0_reaches (pc' := bif am_cc .eq x5 0 then 33 else 29) (L' := [some (.ref 35), some (.int p1)]) (st' := []) 1 rfl ?_
    refine l1_bif rfl ?_ ?_
    · refine l1_many mt_X0_reaches (pc' := 34) (L' := [some (.ref 35), some (.int p1)]) (st' := [.int 0]) 1 rfl ?_
      exact l1_ret mt_X0_reaches rfl rfl rfl
    · refine l1_many mt_X0_reaches (pc' := 34) (L' := [some (.ref 35), some (.int p1)]) (st' := [.int 1]) 2 rfl ?_
      exact l1_ret mt_X0_reaches rfl rfl rfl
theorem ok_X0_reaches_35 {Q : hS → am_H → Prop} (hQ : l1_em kc Q) (c : hS) (p1 : Int32) : l1_T wI Q am_i_X0_reaches [.ref 35, .int p1] c (f_X0_reaches c p1) := l1_of (en_X0_reaches_35 hQ c p1) ⟨rfl, rfl, trivial⟩
set_option maxRecDepth 100000 in
theorem en_X0_reaches_36 {Q : hS → am_H → Prop} (hQ : l1_em kc Q) (c : hS) (p1 : Int32) : l1_G (wN wI) Q am_i_X0_reaches 0 [some (.ref 36), some (.int p1)] [] c (f_X0_reaches c p1) := by
  rw [f_X0_reaches]
  refine l1_many mt_X0_reaches (pc' := 2) (L' := [some (.ref 36), some (.int p1)]) (st' := [.ref 36, .int p1]) 2 rfl ?_
  refine l1_getR hQ mt_X0_reaches rfl (o := 36) (ci := 4) (k := 0) (a := 0) (b := 1) rfl rfl rfl rfl rfl (q := 3) rfl ?_
  refine l1_callV hQ mt_X0_reaches mt_X2_size rfl rfl (o := 3) (ci := 1) (As := []) (rest := [.int p1]) rfl rfl rfl rfl rfl rfl (st1 := fun x1 => [.int x1, .int p1]) (fun _ => rfl) (ok_X2_size hQ c 3 rfl) (fun x1 c2 => ?_)
  refine l1_many mt_X0_reaches (pc' := bif am_cc .le p1 x1 then 29 else 11) (L' := [some (.ref 36), some (.int p1)]) (st' := []) 1 rfl ?_
  refine l1_bif rfl ?_ ?_
  · refine l1_many mt_X0_reaches (pc' := 34) (L' := [some (.ref 36), some (.int p1)]) (st' := [.int 1]) 2 rfl ?_
    exact l1_ret mt_X0_reaches rfl rfl rfl
  · refine l1_many mt_X0_reaches (pc' := 12) (L' := [some (.ref 36), some (.int p1)]) (st' := [.ref 36]) 1 rfl ?_
    refine l1_getR hQ mt_X0_reaches rfl (o := 36) (ci := 4) (k := 2) (a := 0) (b := 1) rfl rfl rfl rfl rfl (q := 9) rfl ?_
    refine l1_many mt_X0_reaches (pc' := 17) (L' := [some (.ref 36), some (.int p1)]) (st' := [.ref 36, .int 1, .ref 9]) 2 rfl ?_
    refine l1_getR hQ mt_X0_reaches rfl (o := 36) (ci := 4) (k := 0) (a := 0) (b := 1) rfl rfl rfl rfl rfl (q := 3) rfl ?_
    refine l1_callV hQ mt_X0_reaches mt_X2_size rfl rfl (o := 3) (ci := 1) (As := []) (rest := [.int 1, .ref 9]) rfl rfl rfl rfl rfl rfl (st1 := fun x3 => [.int x3, .int 1, .ref 9]) (fun _ => rfl) (ok_X2_size hQ c2 3 rfl) (fun x3 c4 => ?_)
    refine l1_callV hQ mt_X0_reaches mt_X6_tell rfl rfl (o := 9) (ci := 5) (As := [.int 1, .int x3]) (rest := []) rfl rfl rfl rfl rfl rfl (st1 := fun x5 => [.int x5]) (fun _ => rfl) (ok_X6_tell hQ c4 1 x3) (fun x5 c6 => ?_)
    refine l1_many mt_X0_reaches (pc' := bif am_cc .eq x5 0 then 33 else 29) (L' := [some (.ref 36), some (.int p1)]) (st' := []) 1 rfl ?_
    refine l1_bif rfl ?_ ?_
    · refine l1_many mt_X0_reaches (pc' := 34) (L' := [some (.ref 36), some (.int p1)]) (st' := [.int 0]) 1 rfl ?_
      exact l1_ret mt_X0_reaches rfl rfl rfl
    · refine l1_many mt_X0_reaches (pc' := 34) (L' := [some (.ref 36), some (.int p1)]) (st' := [.int 1]) 2 rfl ?_
      exact l1_ret mt_X0_reaches rfl rfl rfl
theorem ok_X0_reaches_36 {Q : hS → am_H → Prop} (hQ : l1_em kc Q) (c : hS) (p1 : Int32) : l1_T wI Q am_i_X0_reaches [.ref 36, .int p1] c (f_X0_reaches c p1) := l1_of (en_X0_reaches_36 hQ c p1) ⟨rfl, rfl, trivial⟩
set_option maxRecDepth 100000 in
theorem en_X2_get {Q : hS → am_H → Prop} (hQ : l1_em kc Q) (c : hS) (b : Nat) (p1 : Int32) (hb : kc b = 1) : l1_G (wN wI) Q am_i_X2_get 0 [some (.ref b), some (.int p1)] [] c (f_X2_get c b p1) := by
  rw [f_X2_get]
  refine l1_many mt_X2_get (pc' := bif am_cc .lt p1 0 then 30 else 4) (L' := [some (.ref b), some (.int p1)]) (st' := []) 2 rfl ?_
  refine l1_bif rfl ?_ ?_
  · refine l1_many mt_X2_get (pc' := 31) (L' := [some (.ref b), some (.int p1)]) (st' := [.int 0]) 1 rfl ?_
    exact l1_ret mt_X2_get rfl rfl rfl
  · refine l1_many mt_X2_get (pc' := 6) (L' := [some (.ref b), some (.int p1)]) (st' := [.ref b, .int p1]) 2 rfl ?_
    refine l1_getI hQ mt_X2_get rfl (o := b) (ci := 1) (k := 1) (a := 0) (b := 0) hb rfl rfl rfl rfl ?_
    refine l1_many mt_X2_get (pc' := bif am_cc .ge p1 (c.1 b 1) then 30 else 12) (L' := [some (.ref b), some (.int p1)]) (st' := []) 1 rfl ?_
    refine l1_bif rfl ?_ ?_
    · refine l1_many mt_X2_get (pc' := 31) (L' := [some (.ref b), some (.int p1)]) (st' := [.int 0]) 1 rfl ?_
      exact l1_ret mt_X2_get rfl rfl rfl
    · refine l1_many mt_X2_get (pc' := 14) (L' := [some (.ref b), some (.int p1)]) (st' := [.ref b, .int p1]) 2 rfl ?_
      refine l1_getR hQ mt_X2_get rfl (o := b) (ci := 1) (k := 0) (a := 0) (b := 1) hb rfl rfl rfl rfl (q := (b + 1)) rfl ?_
      refine l1_len hQ mt_X2_get rfl (o := (b + 1)) (ci := 20) (kc1_1 hb) rfl rfl ?_
      refine l1_many mt_X2_get (pc' := bif am_cc .ge p1 (Int32.ofNat (ln (b + 1))) then 30 else 21) (L' := [some (.ref b), some (.int p1)]) (st' := []) 1 rfl ?_
      refine l1_bif rfl ?_ ?_
      · refine l1_many mt_X2_get (pc' := 31) (L' := [some (.ref b), some (.int p1)]) (st' := [.int 0]) 1 rfl ?_
        exact l1_ret mt_X2_get rfl rfl rfl
      · refine l1_many mt_X2_get (pc' := 22) (L' := [some (.ref b), some (.int p1)]) (st' := [.ref b]) 1 rfl ?_
        refine l1_getR hQ mt_X2_get rfl (o := b) (ci := 1) (k := 0) (a := 0) (b := 1) hb rfl rfl rfl rfl (q := (b + 1)) rfl ?_
        refine l1_many mt_X2_get (pc' := 26) (L' := [some (.ref b), some (.int p1)]) (st' := [.int p1, .ref (b + 1)]) 1 rfl ?_
        refine l1_ck (fun hx => ?_)
        refine l1_ald hQ mt_X2_get rfl (o := (b + 1)) (kc1_1 hb) hx ?_
        refine l1_many mt_X2_get (pc' := 31) (L' := [some (.ref b), some (.int p1)]) (st' := [.int (c.1 (b + 1) p1.toNatClampNeg)]) 1 rfl ?_
        exact l1_ret mt_X2_get rfl rfl rfl
theorem ok_X2_get {Q : hS → am_H → Prop} (hQ : l1_em kc Q) (c : hS) (b : Nat) (p1 : Int32) (hb : kc b = 1) : l1_T wI Q am_i_X2_get [.ref b, .int p1] c (f_X2_get c b p1) := l1_of (en_X2_get hQ c b p1 hb) ⟨rfl, rfl, trivial⟩
set_option maxRecDepth 100000 in
theorem ok_X0_isMarked_34_3 {Q : hS → am_H → Prop} (hQ : l1_em kc Q) (N : Nat) (p1 : Int32) (p2 : List Int32) (p3 : Int32) {q2 : Nat} (hp2 : l1_OA q2 p2) : ∀ n : Nat, ∀ (c : hS) (v4 : Int32), l1_G (wN wI) Q am_i_X0_isMarked 3 [some (.ref 34), some (.int p1), some (.ref q2), some (.int p3), some (.int v4)] [] c (f_X0_isMarked_3 N p1 p2 p3 n c v4) := by
  intro n
  induction n with
  | zero => intro c v4; exact l1_none
  | succ n ih =>
    intro c v4
    rw [f_X0_isMarked_3]
    refine l1_many mt_X0_isMarked (pc' := 6) (L' := [some (.ref 34), some (.int p1), some (.ref q2), some (.int p3), some (.int v4)]) (st' := [.ref q2, .int v4]) 2 rfl ?_
    refine l1_slen hQ mt_X0_isMarked rfl hp2 ?_
    refine l1_many mt_X0_isMarked (pc' := bif am_cc .ge v4 (Int32.ofNat p2.length) then 47 else 10) (L' := [some (.ref 34), some (.int p1), some (.ref q2), some (.int p3), some (.int v4)]) (st' := []) 1 rfl ?_
    refine l1_bif rfl ?_ ?_
    · refine l1_many mt_X0_isMarked (pc' := 48) (L' := [some (.ref 34), some (.int p1), some (.ref q2), some (.int p3), some (.int v4)]) (st' := [.int 1]) 1 rfl ?_
      exact l1_ret mt_X0_isMarked rfl rfl rfl
    · refine l1_many mt_X0_isMarked (pc' := 11) (L' := [some (.ref 34), some (.int p1), some (.ref q2), some (.int p3), some (.int v4)]) (st' := [.ref 34]) 1 rfl ?_
      refine l1_getR hQ mt_X0_isMarked rfl (o := 34) (ci := 0) (k := 0) (a := 0) (b := 1) rfl rfl rfl rfl rfl (q := 3) rfl ?_
      refine l1_many mt_X0_isMarked (pc' := 18) (L' := [some (.ref 34), some (.int p1), some (.ref q2), some (.int p3), some (.int v4)]) (st' := [.int (p1 + v4), .ref 3]) 3 rfl ?_
      refine l1_callV hQ mt_X0_isMarked mt_X2_get rfl rfl (o := 3) (ci := 1) (As := [.int (p1 + v4)]) (rest := []) rfl rfl rfl rfl rfl rfl (st1 := fun x1 => [.int x1]) (fun _ => rfl) (ok_X2_get hQ c 3 (p1 + v4) rfl) (fun x1 c2 => ?_)
      refine l1_many mt_X0_isMarked (pc' := 24) (L' := [some (.ref 34), some (.int p1), some (.ref q2), some (.int p3), some (.int v4)]) (st' := [.int v4, .ref q2, .int x1]) 2 rfl ?_
      refine l1_ck (fun hx => ?_)
      refine l1_sald hQ mt_X0_isMarked rfl hp2 hx ?_
      refine l1_many mt_X0_isMarked (pc' := bif am_cc .eq x1 (p2.getD v4.toNatClampNeg 0) then 41 else 28) (L' := [some (.ref 34), some (.int p1), some (.ref q2), some (.int p3), some (.int v4)]) (st' := []) 1 rfl ?_
      refine l1_bif rfl ?_ ?_
      · refine l1_many mt_X0_isMarked (pc' := 3) (L' := [some (.ref 34), some (.int p1), some (.ref q2), some (.int p3), some (.int (v4 + 1))]) (st' := []) 2 rfl ?_
        exact ih c2 (v4 + 1)
      · refine l1_many mt_X0_isMarked (pc' := 29) (L' := [some (.ref 34), some (.int p1), some (.ref q2), some (.int p3), some (.int v4)]) (st' := [.ref 34]) 1 rfl ?_
        refine l1_getR hQ mt_X0_isMarked rfl (o := 34) (ci := 0) (k := 2) (a := 0) (b := 1) rfl rfl rfl rfl rfl (q := 9) rfl ?_
        refine l1_many mt_X0_isMarked (pc' := 37) (L' := [some (.ref 34), some (.int p1), some (.ref q2), some (.int p3), some (.int v4)]) (st' := [.int (p1 + v4), .int p3, .ref 9]) 4 rfl ?_
        refine l1_callV hQ mt_X0_isMarked mt_X6_tell rfl rfl (o := 9) (ci := 5) (As := [.int p3, .int (p1 + v4)]) (rest := []) rfl rfl rfl rfl rfl rfl (st1 := fun x3 => [.int x3]) (fun _ => rfl) (ok_X6_tell hQ c2 p3 (p1 + v4)) (fun x3 c4 => ?_)
        refine l1_ck (fun hz => ?_)
        exact l1_retZ mt_X0_isMarked rfl rfl rfl hz
set_option maxRecDepth 100000 in
theorem en_X0_isMarked_34 {Q : hS → am_H → Prop} (hQ : l1_em kc Q) (N : Nat) (c : hS) (p1 : Int32) (p2 : List Int32) (p3 : Int32) {q2 : Nat} (hp2 : l1_OA q2 p2) : l1_G (wN wI) Q am_i_X0_isMarked 0 [some (.ref 34), some (.int p1), some (.ref q2), some (.int p3)] [] c (f_X0_isMarked N c p1 p2 p3) := by
  rw [f_X0_isMarked]
  refine l1_many mt_X0_isMarked (pc' := 3) (L' := [some (.ref 34), some (.int p1), some (.ref q2), some (.int p3), some (.int 0)]) (st' := []) 2 rfl ?_
  exact ok_X0_isMarked_34_3 hQ N p1 p2 p3 hp2 N c 0
theorem ok_X0_isMarked_34 {Q : hS → am_H → Prop} (hQ : l1_em kc Q) (N : Nat) (c : hS) (p1 : Int32) (p2 : List Int32) (p3 : Int32) {q2 : Nat} (hp2 : l1_OA q2 p2) : l1_T wI Q am_i_X0_isMarked [.ref 34, .int p1, .ref q2, .int p3] c (f_X0_isMarked N c p1 p2 p3) := l1_of (en_X0_isMarked_34 hQ N c p1 p2 p3 hp2) ⟨rfl, rfl, rfl, rfl, trivial⟩
set_option maxRecDepth 100000 in
theorem ok_X0_isMarked_35_3 {Q : hS → am_H → Prop} (hQ : l1_em kc Q) (N : Nat) (p1 : Int32) (p2 : List Int32) (p3 : Int32) {q2 : Nat} (hp2 : l1_OA q2 p2) : ∀ n : Nat, ∀ (c : hS) (v4 : Int32), l1_G (wN wI) Q am_i_X0_isMarked 3 [some (.ref 35), some (.int p1), some (.ref q2), some (.int p3), some (.int v4)] [] c (f_X0_isMarked_3 N p1 p2 p3 n c v4) := by
  intro n
  induction n with
  | zero => intro c v4; exact l1_none
  | succ n ih =>
    intro c v4
    rw [f_X0_isMarked_3]
    refine l1_many mt_X0_isMarked (pc' := 6) (L' := [some (.ref 35), some (.int p1), some (.ref q2), some (.int p3), some (.int v4)]) (st' := [.ref q2, .int v4]) 2 rfl ?_
    refine l1_slen hQ mt_X0_isMarked rfl hp2 ?_
    refine l1_many mt_X0_isMarked (pc' := bif am_cc .ge v4 (Int32.ofNat p2.length) then 47 else 10) (L' := [some (.ref 35), some (.int p1), some (.ref q2), some (.int p3), some (.int v4)]) (st' := []) 1 rfl ?_
    refine l1_bif rfl ?_ ?_
    · refine l1_many mt_X0_isMarked (pc' := 48) (L' := [some (.ref 35), some (.int p1), some (.ref q2), some (.int p3), some (.int v4)]) (st' := [.int 1]) 1 rfl ?_
      exact l1_ret mt_X0_isMarked rfl rfl rfl
    · refine l1_many mt_X0_isMarked (pc' := 11) (L' := [some (.ref 35), some (.int p1), some (.ref q2), some (.int p3), some (.int v4)]) (st' := [.ref 35]) 1 rfl ?_
      refine l1_getR hQ mt_X0_isMarked rfl (o := 35) (ci := 3) (k := 0) (a := 0) (b := 1) rfl rfl rfl rfl rfl (q := 3) rfl ?_
      refine l1_many mt_X0_isMarked (pc' := 18) (L' := [some (.ref 35), some (.int p1), some (.ref q2), some (.int p3), some (.int v4)]) (st' := [.int (p1 + v4), .ref 3]) 3 rfl ?_
      refine l1_callV hQ mt_X0_isMarked mt_X2_get rfl rfl (o := 3) (ci := 1) (As := [.int (p1 + v4)]) (rest := []) rfl rfl rfl rfl rfl rfl (st1 := fun x1 => [.int x1]) (fun _ => rfl) (ok_X2_get hQ c 3 (p1 + v4) rfl) (fun x1 c2 => ?_)
      refine l1_many mt_X0_isMarked (pc' := 24) (L' := [some (.ref 35), some (.int p1), some (.ref q2), some (.int p3), some (.int v4)]) (st' := [.int v4, .ref q2, .int x1]) 2 rfl ?_
      refine l1_ck (fun hx => ?_)
      refine l1_sald hQ mt_X0_isMarked rfl hp2 hx ?_
      refine l1_many mt_X0_isMarked (pc' := bif am_cc .eq x1 (p2.getD v4.toNatClampNeg 0) then 41 else 28) (L' := [some (.ref 35), some (.int p1), some (.ref q2), some (.int p3), some (.int v4)]) (st' := []) 1 rfl ?_
      refine l1_bif rfl ?_ ?_
      · refine l1_many mt_X0_isMarked (pc' := 3) (L' := [some (.ref 35), some (.int p1), some (.ref q2), some (.int p3), some (.int (v4 + 1))]) (st' := []) 2 rfl ?_
        exact ih c2 (v4 + 1)
      · refine l1_many mt_X0_isMarked (pc' := 29) (L' := [some (.ref 35), some (.int p1), some (.ref q2), some (.int p3), some (.int v4)]) (st' := [.ref 35]) 1 rfl ?_
        refine l1_getR hQ mt_X0_isMarked rfl (o := 35) (ci := 3) (k := 2) (a := 0) (b := 1) rfl rfl rfl rfl rfl (q := 9) rfl ?_
        refine l1_many mt_X0_isMarked (pc' := 37) (L' := [some (.ref 35), some (.int p1), some (.ref q2), some (.int p3), some (.int v4)]) (st' := [.int (p1 + v4), .int p3, .ref 9]) 4 rfl ?_
        refine l1_callV hQ mt_X0_isMarked mt_X6_tell rfl rfl (o := 9) (ci := 5) (As := [.int p3, .int (p1 + v4)]) (rest := []) rfl rfl rfl rfl rfl rfl (st1 := fun x3 => [.int x3]) (fun _ => rfl) (ok_X6_tell hQ c2 p3 (p1 + v4)) (fun x3 c4 => ?_)
        refine l1_ck (fun hz => ?_)
        exact l1_retZ mt_X0_isMarked rfl rfl rfl hz
set_option maxRecDepth 100000 in
theorem en_X0_isMarked_35 {Q : hS → am_H → Prop} (hQ : l1_em kc Q) (N : Nat) (c : hS) (p1 : Int32) (p2 : List Int32) (p3 : Int32) {q2 : Nat} (hp2 : l1_OA q2 p2) : l1_G (wN wI) Q am_i_X0_isMarked 0 [some (.ref 35), some (.int p1), some (.ref q2), some (.int p3)] [] c (f_X0_isMarked N c p1 p2 p3) := by
  rw [f_X0_isMarked]
  refine l1_many mt_X0_isMarked (pc' := 3) (L' := [some (.ref 35), some (.int p1), some (.ref q2), some (.int p3), some (.int 0)]) (st' := []) 2 rfl ?_
  exact ok_X0_isMarked_35_3 hQ N p1 p2 p3 hp2 N c 0
theorem ok_X0_isMarked_35 {Q : hS → am_H → Prop} (hQ : l1_em kc Q) (N : Nat) (c : hS) (p1 : Int32) (p2 : List Int32) (p3 : Int32) {q2 : Nat} (hp2 : l1_OA q2 p2) : l1_T wI Q am_i_X0_isMarked [.ref 35, .int p1, .ref q2, .int p3] c (f_X0_isMarked N c p1 p2 p3) := l1_of (en_X0_isMarked_35 hQ N c p1 p2 p3 hp2) ⟨rfl, rfl, rfl, rfl, trivial⟩
set_option maxRecDepth 100000 in
theorem ok_X0_isMarked_36_3 {Q : hS → am_H → Prop} (hQ : l1_em kc Q) (N : Nat) (p1 : Int32) (p2 : List Int32) (p3 : Int32) {q2 : Nat} (hp2 : l1_OA q2 p2) : ∀ n : Nat, ∀ (c : hS) (v4 : Int32), l1_G (wN wI) Q am_i_X0_isMarked 3 [some (.ref 36), some (.int p1), some (.ref q2), some (.int p3), some (.int v4)] [] c (f_X0_isMarked_3 N p1 p2 p3 n c v4) := by
  intro n
  induction n with
  | zero => intro c v4; exact l1_none
  | succ n ih =>
    intro c v4
    rw [f_X0_isMarked_3]
    refine l1_many mt_X0_isMarked (pc' := 6) (L' := [some (.ref 36), some (.int p1), some (.ref q2), some (.int p3), some (.int v4)]) (st' := [.ref q2, .int v4]) 2 rfl ?_
    refine l1_slen hQ mt_X0_isMarked rfl hp2 ?_
    refine l1_many mt_X0_isMarked (pc' := bif am_cc .ge v4 (Int32.ofNat p2.length) then 47 else 10) (L' := [some (.ref 36), some (.int p1), some (.ref q2), some (.int p3), some (.int v4)]) (st' := []) 1 rfl ?_
    refine l1_bif rfl ?_ ?_
    · refine l1_many mt_X0_isMarked (pc' := 48) (L' := [some (.ref 36), some (.int p1), some (.ref q2), some (.int p3), some (.int v4)]) (st' := [.int 1]) 1 rfl ?_
      exact l1_ret mt_X0_isMarked rfl rfl rfl
    · refine l1_many mt_X0_isMarked (pc' := 11) (L' := [some (.ref 36), some (.int p1), some (.ref q2), some (.int p3), some (.int v4)]) (st' := [.ref 36]) 1 rfl ?_
      refine l1_getR hQ mt_X0_isMarked rfl (o := 36) (ci := 4) (k := 0) (a := 0) (b := 1) rfl rfl rfl rfl rfl (q := 3) rfl ?_
      refine l1_many mt_X0_isMarked (pc' := 18) (L' := [some (.ref 36), some (.int p1), some (.ref q2), some (.int p3), some (.int v4)]) (st' := [.int (p1 + v4), .ref 3]) 3 rfl ?_
      refine l1_callV hQ mt_X0_isMarked mt_X2_get rfl rfl (o := 3) (ci := 1) (As := [.int (p1 + v4)]) (rest := []) rfl rfl rfl rfl rfl rfl (st1 := fun x1 => [.int x1]) (fun _ => rfl) (ok_X2_get hQ c 3 (p1 + v4) rfl) (fun x1 c2 => ?_)
      refine l1_many mt_X0_isMarked (pc' := 24) (L' := [some (.ref 36), some (.int p1), some (.ref q2), some (.int p3), some (.int v4)]) (st' := [.int v4, .ref q2, .int x1]) 2 rfl ?_
      refine l1_ck (fun hx => ?_)
      refine l1_sald hQ mt_X0_isMarked rfl hp2 hx ?_
      refine l1_many mt_X0_isMarked (pc' := bif am_cc .eq x1 (p2.getD v4.toNatClampNeg 0) then 41 else 28) (L' := [some (.ref 36), some (.int p1), some (.ref q2), some (.int p3), some (.int v4)]) (st' := []) 1 rfl ?_
      refine l1_bif rfl ?_ ?_
      · refine l1_many mt_X0_isMarked (pc' := 3) (L' := [some (.ref 36), some (.int p1), some (.ref q2), some (.int p3), some (.int (v4 + 1))]) (st' := []) 2 rfl ?_
        exact ih c2 (v4 + 1)
      · refine l1_many mt_X0_isMarked (pc' := 29) (L' := [some (.ref 36), some (.int p1), some (.ref q2), some (.int p3), some (.int v4)]) (st' := [.ref 36]) 1 rfl ?_
        refine l1_getR hQ mt_X0_isMarked rfl (o := 36) (ci := 4) (k := 2) (a := 0) (b := 1) rfl rfl rfl rfl rfl (q := 9) rfl ?_
        refine l1_many mt_X0_isMarked (pc' := 37) (L' := [some (.ref 36), some (.int p1), some (.ref q2), some (.int p3), some (.int v4)]) (st' := [.int (p1 + v4), .int p3, .ref 9]) 4 rfl ?_
        refine l1_callV hQ mt_X0_isMarked mt_X6_tell rfl rfl (o := 9) (ci := 5) (As := [.int p3, .int (p1 + v4)]) (rest := []) rfl rfl rfl rfl rfl rfl (st1 := fun x3 => [.int x3]) (fun _ => rfl) (ok_X6_tell hQ c2 p3 (p1 + v4)) (fun x3 c4 => ?_)
        refine l1_ck (fun hz => ?_)
        exact l1_retZ mt_X0_isMarked rfl rfl rfl hz
set_option maxRecDepth 100000 in
theorem en_X0_isMarked_36 {Q : hS → am_H → Prop} (hQ : l1_em kc Q) (N : Nat) (c : hS) (p1 : Int32) (p2 : List Int32) (p3 : Int32) {q2 : Nat} (hp2 : l1_OA q2 p2) : l1_G (wN wI) Q am_i_X0_isMarked 0 [some (.ref 36), some (.int p1), some (.ref q2), some (.int p3)] [] c (f_X0_isMarked N c p1 p2 p3) := by
  rw [f_X0_isMarked]
  refine l1_many mt_X0_isMarked (pc' := 3) (L' := [some (.ref 36), some (.int p1), some (.ref q2), some (.int p3), some (.int 0)]) (st' := []) 2 rfl ?_
  exact ok_X0_isMarked_36_3 hQ N p1 p2 p3 hp2 N c 0
theorem ok_X0_isMarked_36 {Q : hS → am_H → Prop} (hQ : l1_em kc Q) (N : Nat) (c : hS) (p1 : Int32) (p2 : List Int32) (p3 : Int32) {q2 : Nat} (hp2 : l1_OA q2 p2) : l1_T wI Q am_i_X0_isMarked [.ref 36, .int p1, .ref q2, .int p3] c (f_X0_isMarked N c p1 p2 p3) := l1_of (en_X0_isMarked_36 hQ N c p1 p2 p3 hp2) ⟨rfl, rfl, rfl, rfl, trivial⟩
set_option maxRecDepth 100000 in
theorem ok_X0_isZeroFrom_34_2 {Q : hS → am_H → Prop} (hQ : l1_em kc Q) (N : Nat) (p1 : Int32) : ∀ n : Nat, ∀ (c : hS) (v2 : Int32), l1_G (wN wI) Q am_i_X0_isZeroFrom 2 [some (.ref 34), none, some (.int v2)] [] c (f_X0_isZeroFrom_2 N p1 n c v2) := by
  intro n
  induction n with
  | zero => intro c v2; exact l1_none
  | succ n ih =>
    intro c v2
    rw [f_X0_isZeroFrom_2]
    refine l1_many mt_X0_isZeroFrom (pc' := 4) (L' := [some (.ref 34), none, some (.int v2)]) (st' := [.ref 34, .int v2]) 2 rfl ?_
    refine l1_getR hQ mt_X0_isZeroFrom rfl (o := 34) (ci := 0) (k := 0) (a := 0) (b := 1) rfl rfl rfl rfl rfl (q := 3) rfl ?_
    refine l1_callV hQ mt_X0_isZeroFrom mt_X2_size rfl rfl (o := 3) (ci := 1) (As := []) (rest := [.int v2]) rfl rfl rfl rfl rfl rfl (st1 := fun x1 => [.int x1, .int v2]) (fun _ => rfl) (ok_X2_size hQ c 3 rfl) (fun x1 c2 => ?_)
    refine l1_many mt_X0_isZeroFrom (pc' := bif am_cc .ge v2 x1 then 40 else 13) (L' := [some (.ref 34), none, some (.int v2)]) (st' := []) 1 rfl ?_
    refine l1_bif rfl ?_ ?_
    · refine l1_many mt_X0_isZeroFrom (pc' := 41) (L' := [some (.ref 34), none, some (.int v2)]) (st' := [.int 1]) 1 rfl ?_
      exact l1_ret mt_X0_isZeroFrom rfl rfl rfl
    · refine l1_many mt_X0_isZeroFrom (pc' := 14) (L' := [some (.ref 34), none, some (.int v2)]) (st' := [.ref 34]) 1 rfl ?_
      refine l1_getR hQ mt_X0_isZeroFrom rfl (o := 34) (ci := 0) (k := 0) (a := 0) (b := 1) rfl rfl rfl rfl rfl (q := 3) rfl ?_
      refine l1_many mt_X0_isZeroFrom (pc' := 18) (L' := [some (.ref 34), none, some (.int v2)]) (st' := [.int v2, .ref 3]) 1 rfl ?_
      refine l1_callV hQ mt_X0_isZeroFrom mt_X2_get rfl rfl (o := 3) (ci := 1) (As := [.int v2]) (rest := []) rfl rfl rfl rfl rfl rfl (st1 := fun x3 => [.int x3]) (fun _ => rfl) (ok_X2_get hQ c2 3 v2 rfl) (fun x3 c4 => ?_)
      refine l1_many mt_X0_isZeroFrom (pc' := bif am_cc .eq x3 0 then 34 else 24) (L' := [some (.ref 34), none, some (.int v2)]) (st' := []) 1 rfl ?_
      refine l1_bif rfl ?_ ?_
      · refine l1_many mt_X0_isZeroFrom (pc' := 2) (L' := [some (.ref 34), none, some (.int (v2 + 1))]) (st' := []) 2 rfl ?_
        exact ih c4 (v2 + 1)
      · refine l1_many mt_X0_isZeroFrom (pc' := 25) (L' := [some (.ref 34), none, some (.int v2)]) (st' := [.ref 34]) 1 rfl ?_
        refine l1_getR hQ mt_X0_isZeroFrom rfl (o := 34) (ci := 0) (k := 2) (a := 0) (b := 1) rfl rfl rfl rfl rfl (q := 9) rfl ?_
        refine l1_many mt_X0_isZeroFrom (pc' := 30) (L' := [some (.ref 34), none, some (.int v2)]) (st' := [.int v2, .int 2, .ref 9]) 2 rfl ?_
        refine l1_callV hQ mt_X0_isZeroFrom mt_X6_tell rfl rfl (o := 9) (ci := 5) (As := [.int 2, .int v2]) (rest := []) rfl rfl rfl rfl rfl rfl (st1 := fun x5 => [.int x5]) (fun _ => rfl) (ok_X6_tell hQ c4 2 v2) (fun x5 c6 => ?_)
        refine l1_ck (fun hz => ?_)
        exact l1_retZ mt_X0_isZeroFrom rfl rfl rfl hz
set_option maxRecDepth 100000 in
theorem en_X0_isZeroFrom_34 {Q : hS → am_H → Prop} (hQ : l1_em kc Q) (N : Nat) (c : hS) (p1 : Int32) : l1_G (wN wI) Q am_i_X0_isZeroFrom 0 [some (.ref 34), some (.int p1)] [] c (f_X0_isZeroFrom N c p1) := by
  rw [f_X0_isZeroFrom]
  refine l1_many mt_X0_isZeroFrom (pc' := 2) (L' := [some (.ref 34), some (.int p1), some (.int p1)]) (st' := []) 2 rfl ?_
  refine l1_weak (m := [true, false, true]) (L' := [some (.ref 34), none, some (.int p1)]) rfl ?_
  exact ok_X0_isZeroFrom_34_2 hQ N p1 N c p1
theorem ok_X0_isZeroFrom_34 {Q : hS → am_H → Prop} (hQ : l1_em kc Q) (N : Nat) (c : hS) (p1 : Int32) : l1_T wI Q am_i_X0_isZeroFrom [.ref 34, .int p1] c (f_X0_isZeroFrom N c p1) := l1_of (en_X0_isZeroFrom_34 hQ N c p1) ⟨rfl, rfl, trivial⟩
set_option maxRecDepth 100000 in
theorem ok_X0_isZeroFrom_35_2 {Q : hS → am_H → Prop} (hQ : l1_em kc Q) (N : Nat) (p1 : Int32) : ∀ n : Nat, ∀ (c : hS) (v2 : Int32), l1_G (wN wI) Q am_i_X0_isZeroFrom 2 [some (.ref 35), none, some (.int v2)] [] c (f_X0_isZeroFrom_2 N p1 n c v2) := by
  intro n
  induction n with
  | zero => intro c v2; exact l1_none
  | succ n ih =>
    intro c v2
    rw [f_X0_isZeroFrom_2]
    refine l1_many mt_X0_isZeroFrom (pc' := 4) (L' := [some (.ref 35), none, some (.int v2)]) (st' := [.ref 35, .int v2]) 2 rfl ?_
    refine l1_getR hQ mt_X0_isZeroFrom rfl (o := 35) (ci := 3) (k := 0) (a := 0) (b := 1) rfl rfl rfl rfl rfl (q := 3) rfl ?_
    refine l1_callV hQ mt_X0_isZeroFrom mt_X2_size rfl rfl (o := 3) (ci := 1) (As := []) (rest := [.int v2]) rfl rfl rfl rfl rfl rfl (st1 := fun x1 => [.int x1, .int v2]) (fun _ => rfl) (ok_X2_size hQ c 3 rfl) (fun x1 c2 => ?_)
    refine l1_many mt_X0_isZeroFrom (pc' := bif am_cc .ge v2 x1 then 40 else 13) (L' := [some (.ref 35), none, some (.int v2)]) (st' := []) 1 rfl ?_
    refine l1_bif rfl ?_ ?_
    · refine l1_many mt_X0_isZeroFrom (pc' := 41) (L' := [some (.ref 35), none, some (.int v2)]) (st' := [.int 1]) 1 rfl ?_
      exact l1_ret mt_X0_isZeroFrom rfl rfl rfl
    · refine l1_many mt_X0_isZeroFrom (pc' := 14) (L' := [some (.ref 35), none, some (.int v2)]) (st' := [.ref 35]) 1 rfl ?_
      refine l1_getR hQ mt_X0_isZeroFrom rfl (o := 35) (ci := 3) (k := 0) (a := 0) (b := 1) rfl rfl rfl rfl rfl (q := 3) rfl ?_
      refine l1_many mt_X0_isZeroFrom (pc' := 18) (L' := [some (.ref 35), none, some (.int v2)]) (st' := [.int v2, .ref 3]) 1 rfl ?_
      refine l1_callV hQ mt_X0_isZeroFrom mt_X2_get rfl rfl (o := 3) (ci := 1) (As := [.int v2]) (rest := []) rfl rfl rfl rfl rfl rfl (st1 := fun x3 => [.int x3]) (fun _ => rfl) (ok_X2_get hQ c2 3 v2 rfl) (fun x3 c4 => ?_)
      refine l1_many mt_X0_isZeroFrom (pc' := bif am_cc .eq x3 0 then 34 else 24) (L' := [some (.ref 35), none, some (.int v2)]) (st' := []) 1 rfl ?_
      refine l1_bif rfl ?_ ?_
      · refine l1_many mt_X0_isZeroFrom (pc' := 2) (L' := [some (.ref 35), none, some (.int (v2 + 1))]) (st' := []) 2 rfl ?_
        exact ih c4 (v2 + 1)
      · refine l1_many mt_X0_isZeroFrom (pc' := 25) (L' := [some (.ref 35), none, some (.int v2)]) (st' := [.ref 35]) 1 rfl ?_
        refine l1_getR hQ mt_X0_isZeroFrom rfl (o := 35) (ci := 3) (k := 2) (a := 0) (b := 1) rfl rfl rfl rfl rfl (q := 9) rfl ?_
        refine l1_many mt_X0_isZeroFrom (pc' := 30) (L' := [some (.ref 35), none, some (.int v2)]) (st' := [.int v2, .int 2, .ref 9]) 2 rfl ?_
        refine l1_callV hQ mt_X0_isZeroFrom mt_X6_tell rfl rfl (o := 9) (ci := 5) (As := [.int 2, .int v2]) (rest := []) rfl rfl rfl rfl rfl rfl (st1 := fun x5 => [.int x5]) (fun _ => rfl) (ok_X6_tell hQ c4 2 v2) (fun x5 c6 => ?_)
        refine l1_ck (fun hz => ?_)
        exact l1_retZ mt_X0_isZeroFrom rfl rfl rfl hz
set_option maxRecDepth 100000 in
theorem en_X0_isZeroFrom_35 {Q : hS → am_H → Prop} (hQ : l1_em kc Q) (N : Nat) (c : hS) (p1 : Int32) : l1_G (wN wI) Q am_i_X0_isZeroFrom 0 [some (.ref 35), some (.int p1)] [] c (f_X0_isZeroFrom N c p1) := by
  rw [f_X0_isZeroFrom]
  refine l1_many mt_X0_isZeroFrom (pc' := 2) (L' := [some (.ref 35), some (.int p1), some (.int p1)]) (st' := []) 2 rfl ?_
  refine l1_weak (m := [true, false, true]) (L' := [some (.ref 35), none, some (.int p1)]) rfl ?_
  exact ok_X0_isZeroFrom_35_2 hQ N p1 N c p1
theorem ok_X0_isZeroFrom_35 {Q : hS → am_H → Prop} (hQ : l1_em kc Q) (N : Nat) (c : hS) (p1 : Int32) : l1_T wI Q am_i_X0_isZeroFrom [.ref 35, .int p1] c (f_X0_isZeroFrom N c p1) := l1_of (en_X0_isZeroFrom_35 hQ N c p1) ⟨rfl, rfl, trivial⟩
set_option maxRecDepth 100000 in
theorem ok_X0_isZeroFrom_36_2 {Q : hS → am_H → Prop} (hQ : l1_em kc Q) (N : Nat) (p1 : Int32) : ∀ n : Nat, ∀ (c : hS) (v2 : Int32), l1_G (wN wI) Q am_i_X0_isZeroFrom 2 [some (.ref 36), none, some (.int v2)] [] c (f_X0_isZeroFrom_2 N p1 n c v2) := by
  intro n
  induction n with
  | zero => intro c v2; exact l1_none
  | succ n ih =>
    intro c v2
    rw [f_X0_isZeroFrom_2]
    refine l1_many mt_X0_isZeroFrom (pc' := 4) (L' := [some (.ref 36), none, some (.int v2)]) (st' := [.ref 36, .int v2]) 2 rfl ?_
    refine l1_getR hQ mt_X0_isZeroFrom rfl (o := 36) (ci := 4) (k := 0) (a := 0) (b := 1) rfl rfl rfl rfl rfl (q := 3) rfl ?_
    refine l1_callV hQ mt_X0_isZeroFrom mt_X2_size rfl rfl (o := 3) (ci := 1) (As := []) (rest := [.int v2]) rfl rfl rfl rfl rfl rfl (st1 := fun x1 => [.int x1, .int v2]) (fun _ => rfl) (ok_X2_size hQ c 3 rfl) (fun x1 c2 => ?_)
    refine l1_many mt_X0_isZeroFrom (pc' := bif am_cc .ge v2 x1 then 40 else 13) (L' := [some (.ref 36), none, some (.int v2)]) (st' := []) 1 rfl ?_
    refine l1_bif rfl ?_ ?_
    · refine l1_many mt_X0_isZeroFrom (pc' := 41) (L' := [some (.ref 36), none, some (.int v2)]) (st' := [.int 1]) 1 rfl ?_
      exact l1_ret mt_X0_isZeroFrom rfl rfl rfl
    · refine l1_many mt_X0_isZeroFrom (pc' := 14) (L' := [some (.ref 36), none, some (.int v2)]) (st' := [.ref 36]) 1 rfl ?_
      refine l1_getR hQ mt_X0_isZeroFrom rfl (o := 36) (ci := 4) (k := 0) (a := 0) (b := 1) rfl rfl rfl rfl rfl (q := 3) rfl ?_
      refine l1_many mt_X0_isZeroFrom (pc' := 18) (L' := [some (.ref 36), none, some (.int v2)]) (st' := [.int v2, .ref 3]) 1 rfl ?_
      refine l1_callV hQ mt_X0_isZeroFrom mt_X2_get rfl rfl (o := 3) (ci := 1) (As := [.int v2]) (rest := []) rfl rfl rfl rfl rfl rfl (st1 := fun x3 => [.int x3]) (fun _ => rfl) (ok_X2_get hQ c2 3 v2 rfl) (fun x3 c4 => ?_)
      refine l1_many mt_X0_isZeroFrom (pc' := bif am_cc .eq x3 0 then 34 else 24) (L' := [some (.ref 36), none, some (.int v2)]) (st' := []) 1 rfl ?_
      refine l1_bif rfl ?_ ?_
      · refine l1_many mt_X0_isZeroFrom (pc' := 2) (L' := [some (.ref 36), none, some (.int (v2 + 1))]) (st' := []) 2 rfl ?_
        exact ih c4 (v2 + 1)
      · refine l1_many mt_X0_isZeroFrom (pc' := 25) (L' := [some (.ref 36), none, some (.int v2)]) (st' := [.ref 36]) 1 rfl ?_
        refine l1_getR hQ mt_X0_isZeroFrom rfl (o := 36) (ci := 4) (k := 2) (a := 0) (b := 1) rfl rfl rfl rfl rfl (q := 9) rfl ?_
        refine l1_many mt_X0_isZeroFrom (pc' := 30) (L' := [some (.ref 36), none, some (.int v2)]) (st' := [.int v2, .int 2, .ref 9]) 2 rfl ?_
        refine l1_callV hQ mt_X0_isZeroFrom mt_X6_tell rfl rfl (o := 9) (ci := 5) (As := [.int 2, .int v2]) (rest := []) rfl rfl rfl rfl rfl rfl (st1 := fun x5 => [.int x5]) (fun _ => rfl) (ok_X6_tell hQ c4 2 v2) (fun x5 c6 => ?_)
        refine l1_ck (fun hz => ?_)
        exact l1_retZ mt_X0_isZeroFrom rfl rfl rfl hz
set_option maxRecDepth 100000 in
theorem en_X0_isZeroFrom_36 {Q : hS → am_H → Prop} (hQ : l1_em kc Q) (N : Nat) (c : hS) (p1 : Int32) : l1_G (wN wI) Q am_i_X0_isZeroFrom 0 [some (.ref 36), some (.int p1)] [] c (f_X0_isZeroFrom N c p1) := by
  rw [f_X0_isZeroFrom]
  refine l1_many mt_X0_isZeroFrom (pc' := 2) (L' := [some (.ref 36), some (.int p1), some (.int p1)]) (st' := []) 2 rfl ?_
  refine l1_weak (m := [true, false, true]) (L' := [some (.ref 36), none, some (.int p1)]) rfl ?_
  exact ok_X0_isZeroFrom_36_2 hQ N p1 N c p1
theorem ok_X0_isZeroFrom_36 {Q : hS → am_H → Prop} (hQ : l1_em kc Q) (N : Nat) (c : hS) (p1 : Int32) : l1_T wI Q am_i_X0_isZeroFrom [.ref 36, .int p1] c (f_X0_isZeroFrom N c p1) := l1_of (en_X0_isZeroFrom_36 hQ N c p1) ⟨rfl, rfl, trivial⟩
set_option maxRecDepth 100000 in
theorem ok_X11_isPart_39 {Q : hS → am_H → Prop} (hQ : l1_em kc Q) (p0 : Nat) (p1 : Int32) (p2 : Int32) (hp0 : kc p0 = 1) : ∀ (c : hS), l1_G (wN wI) Q am_i_X11_isPart 39 [] [] c (f_X11_isPart_39 p0 p1 p2 c) := by
  intro c
  rw [f_X11_isPart_39]
  refine l1_many mt_X11_isPart (pc' := 50) (L' := [none, none, none, some (.int 0)]) (st' := [.int 1]) 6 rfl ?_
  exact l1_ret mt_X11_isPart rfl rfl rfl
set_option maxRecDepth 100000 in
theorem en_X11_isPart {Q : hS → am_H → Prop} (hQ : l1_em kc Q) (c : hS) (p0 : Nat) (p1 : Int32) (p2 : Int32) (hp0 : kc p0 = 1) : l1_G (wN wI) Q am_i_X11_isPart 0 [some (.ref p0), some (.int p1), some (.int p2)] [] c (f_X11_isPart c p0 p1 p2) := by
  rw [f_X11_isPart]
  refine l1_many mt_X11_isPart (pc' := bif am_cc .ne p2 0 then 6 else 4) (L' := [some (.ref p0), some (.int p1), some (.int p2)]) (st' := []) 2 rfl ?_
  refine l1_bin rfl ?_ ?_
  · refine l1_many mt_X11_isPart (pc' := 5) (L' := [some (.ref p0), some (.int p1), some (.int p2)]) (st' := [.int 0]) 1 rfl ?_
    exact l1_ret mt_X11_isPart rfl rfl rfl
  · refine l1_many mt_X11_isPart (pc' := bif am_cc .gt p2 2 then 39 else 11) (L' := [some (.ref p0), some (.int p1), some (.int p2)]) (st' := []) 3 rfl ?_
    refine l1_bif rfl ?_ ?_
    · refine l1_weak (m := [false, false, false, false]) (L' := []) rfl ?_
      exact ok_X11_isPart_39 hQ p0 p1 p2 hp0 c
    · refine l1_many mt_X11_isPart (pc' := 13) (L' := [some (.ref p0), some (.int p1), some (.int p2)]) (st' := [.int p1, .ref p0]) 2 rfl ?_
      refine l1_callV hQ mt_X11_isPart mt_X2_get rfl rfl (o := p0) (ci := 1) (As := [.int p1]) (rest := []) rfl rfl hp0 rfl rfl rfl (st1 := fun x1 => [.int x1]) (fun _ => rfl) (ok_X2_get hQ c p0 p1 hp0) (fun x1 c2 => ?_)
      refine l1_many mt_X11_isPart (pc' := bif am_cc .ne x1 46 then 39 else 21) (L' := [some (.ref p0), some (.int p1), some (.int p2)]) (st' := []) 2 rfl ?_
      refine l1_bin rfl ?_ ?_
      · refine l1_many mt_X11_isPart (pc' := 27) (L' := [some (.ref p0), some (.int p1), some (.int p2)]) (st' := [.int ((p1 + p2) - 1), .ref p0]) 6 rfl ?_
        refine l1_callV hQ mt_X11_isPart mt_X2_get rfl rfl (o := p0) (ci := 1) (As := [.int ((p1 + p2) - 1)]) (rest := []) rfl rfl hp0 rfl rfl rfl (st1 := fun x3 => [.int x3]) (fun _ => rfl) (ok_X2_get hQ c2 p0 ((p1 + p2) - 1) hp0) (fun x3 c4 => ?_)
        refine l1_many mt_X11_isPart (pc' := bif am_cc .ne x3 46 then 39 else 35) (L' := [some (.ref p0), some (.int p1), some (.int p2)]) (st' := []) 2 rfl ?_
        refine l1_bin rfl ?_ ?_
        · refine l1_many mt_X11_isPart (pc' := 50) (L' := [some (.ref p0), some (.int p1), some (.int p2), some (.int 1)]) (st' := [.int 0]) 6 rfl ?_
          exact l1_ret mt_X11_isPart rfl rfl rfl
        · refine l1_weak (m := [false, false, false, false]) (L' := []) rfl ?_
          exact ok_X11_isPart_39 hQ p0 p1 p2 hp0 c4
      · refine l1_weak (m := [false, false, false, false]) (L' := []) rfl ?_
        exact ok_X11_isPart_39 hQ p0 p1 p2 hp0 c2
theorem ok_X11_isPart {Q : hS → am_H → Prop} (hQ : l1_em kc Q) (c : hS) (p0 : Nat) (p1 : Int32) (p2 : Int32) (hp0 : kc p0 = 1) : l1_T wI Q am_i_X11_isPart [.ref p0, .int p1, .int p2] c (f_X11_isPart c p0 p1 p2) := l1_of (en_X11_isPart hQ c p0 p1 p2 hp0) ⟨rfl, rfl, rfl, trivial⟩
set_option maxRecDepth 100000 in
theorem ok_X11_isName_49 {Q : hS → am_H → Prop} (hQ : l1_em kc Q) (N : Nat) (p0 : Nat) (hp0 : kc p0 = 1) {k23 : hS → Int32 → Int32 → Option (Int32 × hS)} (hk23 : ∀ c v1 v2, l1_G (wN wI) Q am_i_X11_isName 23 [some (.ref p0), some (.int v1), some (.int v2)] [] c (k23 c v1 v2)) : ∀ (c : hS) (v1 : Int32) (v2 : Int32) (w0 : Int32), l1_G (wN wI) Q am_i_X11_isName 49 [some (.ref p0), some (.int v1), some (.int v2)] [.int w0] c (f_X11_isName_49 N p0 k23 c v1 v2 w0) := by
  intro c v1 v2 w0
  rw [f_X11_isName_49]
  refine l1_many mt_X11_isName (pc' := bif am_cc .lt w0 33 then 62 else 56) (L' := [some (.ref p0), some (.int v1), some (.int v2), some (.int w0)]) (st' := []) 4 rfl ?_
  refine l1_bif rfl ?_ ?_
  · refine l1_many mt_X11_isName (pc' := 63) (L' := [some (.ref p0), some (.int v1), some (.int v2), some (.int w0)]) (st' := [.int 0]) 1 rfl ?_
    exact l1_ret mt_X11_isName rfl rfl rfl
  · refine l1_many mt_X11_isName (pc' := bif am_cc .le w0 126 then 64 else 62) (L' := [some (.ref p0), some (.int v1), some (.int v2), some (.int w0)]) (st' := []) 3 rfl ?_
    refine l1_bif rfl ?_ ?_
    · refine l1_many mt_X11_isName (pc' := bif am_cc .ne w0 47 then 87 else 70) (L' := [some (.ref p0), some (.int v1), some (.int v2), some (.int w0)]) (st' := []) 3 rfl ?_
      refine l1_bin rfl ?_ ?_
      · refine l1_many mt_X11_isName (pc' := 75) (L' := [some (.ref p0), some (.int v1), some (.int v2), some (.int w0)]) (st' := [.int (v2 - v1), .int v1, .ref p0]) 5 rfl ?_
        refine l1_callS mt_X11_isName mt_X11_isPart rfl rfl (As := [.ref p0, .int v1, .int (v2 - v1)]) (rest := []) rfl rfl rfl (st1 := fun x1 => [.int x1]) (fun _ => rfl) (ok_X11_isPart hQ c p0 v1 (v2 - v1) hp0) (fun x1 c2 => ?_)
        refine l1_many mt_X11_isName (pc' := bif am_cc .ne x1 0 then 83 else 81) (L' := [some (.ref p0), some (.int v1), some (.int v2), some (.int w0)]) (st' := []) 1 rfl ?_
        refine l1_bin rfl ?_ ?_
        · refine l1_many mt_X11_isName (pc' := 82) (L' := [some (.ref p0), some (.int v1), some (.int v2), some (.int w0)]) (st' := [.int 0]) 1 rfl ?_
          exact l1_ret mt_X11_isName rfl rfl rfl
        · refine l1_many mt_X11_isName (pc' := 23) (L' := [some (.ref p0), some (.int (v2 + 1)), some (.int (v2 + 1)), some (.int w0)]) (st' := []) 6 rfl ?_
          refine l1_weak (m := [true, true, true, false]) (L' := [some (.ref p0), some (.int (v2 + 1)), some (.int (v2 + 1))]) rfl ?_
          exact hk23 c2 (v2 + 1) (v2 + 1)
      · refine l1_many mt_X11_isName (pc' := 23) (L' := [some (.ref p0), some (.int v1), some (.int (v2 + 1)), some (.int w0)]) (st' := []) 2 rfl ?_
        refine l1_weak (m := [true, true, true, false]) (L' := [some (.ref p0), some (.int v1), some (.int (v2 + 1))]) rfl ?_
        exact hk23 c v1 (v2 + 1)
    · refine l1_many mt_X11_isName (pc' := 63) (L' := [some (.ref p0), some (.int v1), some (.int v2), some (.int w0)]) (st' := [.int 0]) 1 rfl ?_
      exact l1_ret mt_X11_isName rfl rfl rfl
set_option maxRecDepth 100000 in
theorem ok_X11_isName_23 {Q : hS → am_H → Prop} (hQ : l1_em kc Q) (N : Nat) (p0 : Nat) (hp0 : kc p0 = 1) : ∀ n : Nat, ∀ (c : hS) (v1 : Int32) (v2 : Int32), l1_G (wN wI) Q am_i_X11_isName 23 [some (.ref p0), some (.int v1), some (.int v2)] [] c (f_X11_isName_23 N p0 n c v1 v2) := by
  intro n
  induction n with
  | zero => intro c v1 v2; exact l1_none
  | succ n ih =>
    intro c v1 v2
    rw [f_X11_isName_23]
    refine l1_many mt_X11_isName (pc' := 25) (L' := [some (.ref p0), some (.int v1), some (.int v2)]) (st' := [.ref p0, .int v2]) 2 rfl ?_
    refine l1_callV hQ mt_X11_isName mt_X2_size rfl rfl (o := p0) (ci := 1) (As := []) (rest := [.int v2]) rfl rfl hp0 rfl rfl rfl (st1 := fun x1 => [.int x1, .int v2]) (fun _ => rfl) (ok_X2_size hQ c p0 hp0) (fun x1 c2 => ?_)
    refine l1_many mt_X11_isName (pc' := bif am_cc .gt v2 x1 then 93 else 31) (L' := [some (.ref p0), some (.int v1), some (.int v2)]) (st' := []) 1 rfl ?_
    refine l1_bif rfl ?_ ?_
    · refine l1_many mt_X11_isName (pc' := 94) (L' := [some (.ref p0), some (.int v1), some (.int v2)]) (st' := [.int 1]) 1 rfl ?_
      exact l1_ret mt_X11_isName rfl rfl rfl
    · refine l1_many mt_X11_isName (pc' := 33) (L' := [some (.ref p0), some (.int v1), some (.int v2)]) (st' := [.ref p0, .int v2]) 2 rfl ?_
      refine l1_callV hQ mt_X11_isName mt_X2_size rfl rfl (o := p0) (ci := 1) (As := []) (rest := [.int v2]) rfl rfl hp0 rfl rfl rfl (st1 := fun x3 => [.int x3, .int v2]) (fun _ => rfl) (ok_X2_size hQ c2 p0 hp0) (fun x3 c4 => ?_)
      refine l1_many mt_X11_isName (pc' := bif am_cc .ge v2 x3 then 47 else 39) (L' := [some (.ref p0), some (.int v1), some (.int v2)]) (st' := []) 1 rfl ?_
      refine l1_bif rfl ?_ ?_
      · refine l1_many mt_X11_isName (pc' := 49) (L' := [some (.ref p0), some (.int v1), some (.int v2)]) (st' := [.int 47]) 1 rfl ?_
        exact ok_X11_isName_49 hQ N p0 hp0 ih c4 v1 v2 47
      · refine l1_many mt_X11_isName (pc' := 41) (L' := [some (.ref p0), some (.int v1), some (.int v2)]) (st' := [.int v2, .ref p0]) 2 rfl ?_
        refine l1_callV hQ mt_X11_isName mt_X2_get rfl rfl (o := p0) (ci := 1) (As := [.int v2]) (rest := []) rfl rfl hp0 rfl rfl rfl (st1 := fun x5 => [.int x5]) (fun _ => rfl) (ok_X2_get hQ c4 p0 v2 hp0) (fun x5 c6 => ?_)
        refine l1_many mt_X11_isName (pc' := 49) (L' := [some (.ref p0), some (.int v1), some (.int v2)]) (st' := [.int x5]) 1 rfl ?_
        exact ok_X11_isName_49 hQ N p0 hp0 ih c6 v1 v2 x5
set_option maxRecDepth 100000 in
theorem en_X11_isName {Q : hS → am_H → Prop} (hQ : l1_em kc Q) (N : Nat) (c : hS) (p0 : Nat) (hp0 : kc p0 = 1) : l1_G (wN wI) Q am_i_X11_isName 0 [some (.ref p0)] [] c (f_X11_isName N c p0) := by
  rw [f_X11_isName]
  refine l1_many mt_X11_isName (pc' := 1) (L' := [some (.ref p0)]) (st' := [.ref p0]) 1 rfl ?_
  refine l1_callV hQ mt_X11_isName mt_X2_size rfl rfl (o := p0) (ci := 1) (As := []) (rest := []) rfl rfl hp0 rfl rfl rfl (st1 := fun x1 => [.int x1]) (fun _ => rfl) (ok_X2_size hQ c p0 hp0) (fun x1 c2 => ?_)
  refine l1_many mt_X11_isName (pc' := bif am_cc .lt x1 1 then 17 else 8) (L' := [some (.ref p0)]) (st' := []) 2 rfl ?_
  refine l1_bif rfl ?_ ?_
  · refine l1_many mt_X11_isName (pc' := 18) (L' := [some (.ref p0)]) (st' := [.int 0]) 1 rfl ?_
    exact l1_ret mt_X11_isName rfl rfl rfl
  · refine l1_many mt_X11_isName (pc' := 9) (L' := [some (.ref p0)]) (st' := [.ref p0]) 1 rfl ?_
    refine l1_callV hQ mt_X11_isName mt_X2_size rfl rfl (o := p0) (ci := 1) (As := []) (rest := []) rfl rfl hp0 rfl rfl rfl (st1 := fun x3 => [.int x3]) (fun _ => rfl) (ok_X2_size hQ c2 p0 hp0) (fun x3 c4 => ?_)
    refine l1_many mt_X11_isName (pc' := bif am_cc .le x3 90 then 19 else 17) (L' := [some (.ref p0)]) (st' := []) 2 rfl ?_
    refine l1_bif rfl ?_ ?_
    · refine l1_many mt_X11_isName (pc' := 23) (L' := [some (.ref p0), some (.int 0), some (.int 0)]) (st' := []) 4 rfl ?_
      exact ok_X11_isName_23 hQ N p0 hp0 N c4 0 0
    · refine l1_many mt_X11_isName (pc' := 18) (L' := [some (.ref p0)]) (st' := [.int 0]) 1 rfl ?_
      exact l1_ret mt_X11_isName rfl rfl rfl
theorem ok_X11_isName {Q : hS → am_H → Prop} (hQ : l1_em kc Q) (N : Nat) (c : hS) (p0 : Nat) (hp0 : kc p0 = 1) : l1_T wI Q am_i_X11_isName [.ref p0] c (f_X11_isName N c p0) := l1_of (en_X11_isName hQ N c p0 hp0) ⟨rfl, trivial⟩
set_option maxRecDepth 100000 in
theorem en_X0_isNamed_34 {Q : hS → am_H → Prop} (hQ : l1_em kc Q) (N : Nat) (c : hS) (p1 : Int32) : l1_G (wN wI) Q am_i_X0_isNamed 0 [some (.ref 34), some (.int p1)] [] c (f_X0_isNamed N c p1) := by
  rw [f_X0_isNamed]
  refine l1_many mt_X0_isNamed (pc' := 1) (L' := [some (.ref 34), some (.int p1)]) (st' := [.ref 34]) 1 rfl ?_
  refine l1_getR hQ mt_X0_isNamed rfl (o := 34) (ci := 0) (k := 1) (a := 0) (b := 1) rfl rfl rfl rfl rfl (q := 5) rfl ?_
  refine l1_callS mt_X0_isNamed mt_X11_isName rfl rfl (As := [.ref 5]) (rest := []) rfl rfl rfl (st1 := fun x1 => [.int x1]) (fun _ => rfl) (ok_X11_isName hQ N c 5 rfl) (fun x1 c2 => ?_)
  refine l1_many mt_X0_isNamed (pc' := bif am_cc .ne x1 0 then 23 else 10) (L' := [some (.ref 34), some (.int p1)]) (st' := []) 1 rfl ?_
  refine l1_bin rfl ?_ ?_
  · refine l1_many mt_X0_isNamed (pc' := 11) (L' := [some (.ref 34), some (.int p1)]) (st' := [.ref 34]) 1 rfl ?_
    refine l1_getR hQ mt_X0_isNamed rfl (o := 34) (ci := 0) (k := 2) (a := 0) (b := 1) rfl rfl rfl rfl rfl (q := 9) rfl ?_
    refine l1_many mt_X0_isNamed (pc' := 17) (L' := [some (.ref 34), some (.int p1)]) (st' := [.int p1, .int 10, .ref 9]) 2 rfl ?_
    refine l1_callV hQ mt_X0_isNamed mt_X6_tell rfl rfl (o := 9) (ci := 5) (As := [.int 10, .int p1]) (rest := []) rfl rfl rfl rfl rfl rfl (st1 := fun x3 => [.int x3]) (fun _ => rfl) (ok_X6_tell hQ c2 10 p1) (fun x3 c4 => ?_)
    refine l1_many mt_X0_isNamed (pc' := bif am_cc .eq x3 0 then 27 else 23) (L' := [some (.ref 34), some (.int p1)]) (st' := []) 1 rfl ?_
    refine l1_bif rfl ?_ ?_
    · refine l1_many mt_X0_isNamed (pc' := 28) (L' := [some (.ref 34), some (.int p1)]) (st' := [.int 0]) 1 rfl ?_
      exact l1_ret mt_X0_isNamed rfl rfl rfl
    · refine l1_many mt_X0_isNamed (pc' := 28) (L' := [some (.ref 34), some (.int p1)]) (st' := [.int 1]) 2 rfl ?_
      exact l1_ret mt_X0_isNamed rfl rfl rfl
  · refine l1_many mt_X0_isNamed (pc' := 28) (L' := [some (.ref 34), some (.int p1)]) (st' := [.int 1]) 2 rfl ?_
    exact l1_ret mt_X0_isNamed rfl rfl rfl
theorem ok_X0_isNamed_34 {Q : hS → am_H → Prop} (hQ : l1_em kc Q) (N : Nat) (c : hS) (p1 : Int32) : l1_T wI Q am_i_X0_isNamed [.ref 34, .int p1] c (f_X0_isNamed N c p1) := l1_of (en_X0_isNamed_34 hQ N c p1) ⟨rfl, rfl, trivial⟩
set_option maxRecDepth 100000 in
theorem en_X0_isNamed_35 {Q : hS → am_H → Prop} (hQ : l1_em kc Q) (N : Nat) (c : hS) (p1 : Int32) : l1_G (wN wI) Q am_i_X0_isNamed 0 [some (.ref 35), some (.int p1)] [] c (f_X0_isNamed N c p1) := by
  rw [f_X0_isNamed]
  refine l1_many mt_X0_isNamed (pc' := 1) (L' := [some (.ref 35), some (.int p1)]) (st' := [.ref 35]) 1 rfl ?_
  refine l1_getR hQ mt_X0_isNamed rfl (o := 35) (ci := 3) (k := 1) (a := 0) (b := 1) rfl rfl rfl rfl rfl (q := 5) rfl ?_
  refine l1_callS mt_X0_isNamed mt_X11_isName rfl rfl (As := [.ref 5]) (rest := []) rfl rfl rfl (st1 := fun x1 => [.int x1]) (fun _ => rfl) (ok_X11_isName hQ N c 5 rfl) (fun x1 c2 => ?_)
  refine l1_many mt_X0_isNamed (pc' := bif am_cc .ne x1 0 then 23 else 10) (L' := [some (.ref 35), some (.int p1)]) (st' := []) 1 rfl ?_
  refine l1_bin rfl ?_ ?_
  · refine l1_many mt_X0_isNamed (pc' := 11) (L' := [some (.ref 35), some (.int p1)]) (st' := [.ref 35]) 1 rfl ?_
    refine l1_getR hQ mt_X0_isNamed rfl (o := 35) (ci := 3) (k := 2) (a := 0) (b := 1) rfl rfl rfl rfl rfl (q := 9) rfl ?_
    refine l1_many mt_X0_isNamed (pc' := 17) (L' := [some (.ref 35), some (.int p1)]) (st' := [.int p1, .int 10, .ref 9]) 2 rfl ?_
    refine l1_callV hQ mt_X0_isNamed mt_X6_tell rfl rfl (o := 9) (ci := 5) (As := [.int 10, .int p1]) (rest := []) rfl rfl rfl rfl rfl rfl (st1 := fun x3 => [.int x3]) (fun _ => rfl) (ok_X6_tell hQ c2 10 p1) (fun x3 c4 => ?_)
    refine l1_many mt_X0_isNamed (pc' := bif am_cc .eq x3 0 then 27 else 23) (L' := [some (.ref 35), some (.int p1)]) (st' := []) 1 rfl ?_
    refine l1_bif rfl ?_ ?_
    · refine l1_many mt_X0_isNamed (pc' := 28) (L' := [some (.ref 35), some (.int p1)]) (st' := [.int 0]) 1 rfl ?_
      exact l1_ret mt_X0_isNamed rfl rfl rfl
    · refine l1_many mt_X0_isNamed (pc' := 28) (L' := [some (.ref 35), some (.int p1)]) (st' := [.int 1]) 2 rfl ?_
      exact l1_ret mt_X0_isNamed rfl rfl rfl
  · refine l1_many mt_X0_isNamed (pc' := 28) (L' := [some (.ref 35), some (.int p1)]) (st' := [.int 1]) 2 rfl ?_
    exact l1_ret mt_X0_isNamed rfl rfl rfl
theorem ok_X0_isNamed_35 {Q : hS → am_H → Prop} (hQ : l1_em kc Q) (N : Nat) (c : hS) (p1 : Int32) : l1_T wI Q am_i_X0_isNamed [.ref 35, .int p1] c (f_X0_isNamed N c p1) := l1_of (en_X0_isNamed_35 hQ N c p1) ⟨rfl, rfl, trivial⟩
set_option maxRecDepth 100000 in
theorem en_X0_isNamed_36 {Q : hS → am_H → Prop} (hQ : l1_em kc Q) (N : Nat) (c : hS) (p1 : Int32) : l1_G (wN wI) Q am_i_X0_isNamed 0 [some (.ref 36), some (.int p1)] [] c (f_X0_isNamed N c p1) := by
  rw [f_X0_isNamed]
  refine l1_many mt_X0_isNamed (pc' := 1) (L' := [some (.ref 36), some (.int p1)]) (st' := [.ref 36]) 1 rfl ?_
  refine l1_getR hQ mt_X0_isNamed rfl (o := 36) (ci := 4) (k := 1) (a := 0) (b := 1) rfl rfl rfl rfl rfl (q := 5) rfl ?_
  refine l1_callS mt_X0_isNamed mt_X11_isName rfl rfl (As := [.ref 5]) (rest := []) rfl rfl rfl (st1 := fun x1 => [.int x1]) (fun _ => rfl) (ok_X11_isName hQ N c 5 rfl) (fun x1 c2 => ?_)
  refine l1_many mt_X0_isNamed (pc' := bif am_cc .ne x1 0 then 23 else 10) (L' := [some (.ref 36), some (.int p1)]) (st' := []) 1 rfl ?_
  refine l1_bin rfl ?_ ?_
  · refine l1_many mt_X0_isNamed (pc' := 11) (L' := [some (.ref 36), some (.int p1)]) (st' := [.ref 36]) 1 rfl ?_
    refine l1_getR hQ mt_X0_isNamed rfl (o := 36) (ci := 4) (k := 2) (a := 0) (b := 1) rfl rfl rfl rfl rfl (q := 9) rfl ?_
    refine l1_many mt_X0_isNamed (pc' := 17) (L' := [some (.ref 36), some (.int p1)]) (st' := [.int p1, .int 10, .ref 9]) 2 rfl ?_
    refine l1_callV hQ mt_X0_isNamed mt_X6_tell rfl rfl (o := 9) (ci := 5) (As := [.int 10, .int p1]) (rest := []) rfl rfl rfl rfl rfl rfl (st1 := fun x3 => [.int x3]) (fun _ => rfl) (ok_X6_tell hQ c2 10 p1) (fun x3 c4 => ?_)
    refine l1_many mt_X0_isNamed (pc' := bif am_cc .eq x3 0 then 27 else 23) (L' := [some (.ref 36), some (.int p1)]) (st' := []) 1 rfl ?_
    refine l1_bif rfl ?_ ?_
    · refine l1_many mt_X0_isNamed (pc' := 28) (L' := [some (.ref 36), some (.int p1)]) (st' := [.int 0]) 1 rfl ?_
      exact l1_ret mt_X0_isNamed rfl rfl rfl
    · refine l1_many mt_X0_isNamed (pc' := 28) (L' := [some (.ref 36), some (.int p1)]) (st' := [.int 1]) 2 rfl ?_
      exact l1_ret mt_X0_isNamed rfl rfl rfl
  · refine l1_many mt_X0_isNamed (pc' := 28) (L' := [some (.ref 36), some (.int p1)]) (st' := [.int 1]) 2 rfl ?_
    exact l1_ret mt_X0_isNamed rfl rfl rfl
theorem ok_X0_isNamed_36 {Q : hS → am_H → Prop} (hQ : l1_em kc Q) (N : Nat) (c : hS) (p1 : Int32) : l1_T wI Q am_i_X0_isNamed [.ref 36, .int p1] c (f_X0_isNamed N c p1) := l1_of (en_X0_isNamed_36 hQ N c p1) ⟨rfl, rfl, trivial⟩
set_option maxRecDepth 100000 in
theorem ok_X2_beginsWith_15 {Q : hS → am_H → Prop} (hQ : l1_em kc Q) (N : Nat) (b : Nat) (p1 : Nat) (hb : kc b = 1) (hp1 : kc p1 = 1) : ∀ n : Nat, ∀ (c : hS) (v2 : Int32), l1_G (wN wI) Q am_i_X2_beginsWith 15 [some (.ref b), some (.ref p1), some (.int v2)] [] c (f_X2_beginsWith_15 N b p1 n c v2) := by
  intro n
  induction n with
  | zero => intro c v2; exact l1_none
  | succ n ih =>
    intro c v2
    rw [f_X2_beginsWith_15]
    refine l1_many mt_X2_beginsWith (pc' := 17) (L' := [some (.ref b), some (.ref p1), some (.int v2)]) (st' := [.ref p1, .int v2]) 2 rfl ?_
    refine l1_getI hQ mt_X2_beginsWith rfl (o := p1) (ci := 1) (k := 1) (a := 0) (b := 0) hp1 rfl rfl rfl rfl ?_
    refine l1_many mt_X2_beginsWith (pc' := bif am_cc .ge v2 (c.1 p1 1) then 44 else 23) (L' := [some (.ref b), some (.ref p1), some (.int v2)]) (st' := []) 1 rfl ?_
    refine l1_bif rfl ?_ ?_
    · refine l1_many mt_X2_beginsWith (pc' := 45) (L' := [some (.ref b), some (.ref p1), some (.int v2)]) (st' := [.int 1]) 1 rfl ?_
      exact l1_ret mt_X2_beginsWith rfl rfl rfl
    · refine l1_many mt_X2_beginsWith (pc' := 25) (L' := [some (.ref b), some (.ref p1), some (.int v2)]) (st' := [.int v2, .ref b]) 2 rfl ?_
      refine l1_callV hQ mt_X2_beginsWith mt_X2_get rfl rfl (o := b) (ci := 1) (As := [.int v2]) (rest := []) rfl rfl hb rfl rfl rfl (st1 := fun x1 => [.int x1]) (fun _ => rfl) (ok_X2_get hQ c b v2 hb) (fun x1 c2 => ?_)
      refine l1_many mt_X2_beginsWith (pc' := 30) (L' := [some (.ref b), some (.ref p1), some (.int v2)]) (st' := [.int v2, .ref p1, .int x1]) 2 rfl ?_
      refine l1_callV hQ mt_X2_beginsWith mt_X2_get rfl rfl (o := p1) (ci := 1) (As := [.int v2]) (rest := [.int x1]) rfl rfl hp1 rfl rfl rfl (st1 := fun x3 => [.int x3, .int x1]) (fun _ => rfl) (ok_X2_get hQ c2 p1 v2 hp1) (fun x3 c4 => ?_)
      refine l1_many mt_X2_beginsWith (pc' := bif am_cc .eq x1 x3 then 38 else 36) (L' := [some (.ref b), some (.ref p1), some (.int v2)]) (st' := []) 1 rfl ?_
      refine l1_bif rfl ?_ ?_
      · refine l1_many mt_X2_beginsWith (pc' := 15) (L' := [some (.ref b), some (.ref p1), some (.int (v2 + 1))]) (st' := []) 2 rfl ?_
        exact ih c4 (v2 + 1)
      · refine l1_many mt_X2_beginsWith (pc' := 37) (L' := [some (.ref b), some (.ref p1), some (.int v2)]) (st' := [.int 0]) 1 rfl ?_
        exact l1_ret mt_X2_beginsWith rfl rfl rfl
set_option maxRecDepth 100000 in
theorem en_X2_beginsWith {Q : hS → am_H → Prop} (hQ : l1_em kc Q) (N : Nat) (c : hS) (b : Nat) (p1 : Nat) (hb : kc b = 1) (hp1 : kc p1 = 1) : l1_G (wN wI) Q am_i_X2_beginsWith 0 [some (.ref b), some (.ref p1)] [] c (f_X2_beginsWith N c b p1) := by
  rw [f_X2_beginsWith]
  refine l1_many mt_X2_beginsWith (pc' := 1) (L' := [some (.ref b), some (.ref p1)]) (st' := [.ref b]) 1 rfl ?_
  refine l1_getI hQ mt_X2_beginsWith rfl (o := b) (ci := 1) (k := 1) (a := 0) (b := 0) hb rfl rfl rfl rfl ?_
  refine l1_many mt_X2_beginsWith (pc' := 5) (L' := [some (.ref b), some (.ref p1)]) (st' := [.ref p1, .int (c.1 b 1)]) 1 rfl ?_
  refine l1_getI hQ mt_X2_beginsWith rfl (o := p1) (ci := 1) (k := 1) (a := 0) (b := 0) hp1 rfl rfl rfl rfl ?_
  refine l1_many mt_X2_beginsWith (pc' := bif am_cc .ge (c.1 b 1) (c.1 p1 1) then 13 else 11) (L' := [some (.ref b), some (.ref p1)]) (st' := []) 1 rfl ?_
  refine l1_bif rfl ?_ ?_
  · refine l1_many mt_X2_beginsWith (pc' := 15) (L' := [some (.ref b), some (.ref p1), some (.int 0)]) (st' := []) 2 rfl ?_
    exact ok_X2_beginsWith_15 hQ N b p1 hb hp1 N c 0
  · refine l1_many mt_X2_beginsWith (pc' := 12) (L' := [some (.ref b), some (.ref p1)]) (st' := [.int 0]) 1 rfl ?_
    exact l1_ret mt_X2_beginsWith rfl rfl rfl
theorem ok_X2_beginsWith {Q : hS → am_H → Prop} (hQ : l1_em kc Q) (N : Nat) (c : hS) (b : Nat) (p1 : Nat) (hb : kc b = 1) (hp1 : kc p1 = 1) : l1_T wI Q am_i_X2_beginsWith [.ref b, .ref p1] c (f_X2_beginsWith N c b p1) := l1_of (en_X2_beginsWith hQ N c b p1 hb hp1) ⟨rfl, rfl, trivial⟩
set_option maxRecDepth 100000 in
theorem en_X9_member {Q : hS → am_H → Prop} (hQ : l1_em kc Q) (c : hS) (s : Nat) (p1 : Int32) (hs : kc s = 8) : l1_G (wN wM) Q am_i_X9_member 0 [some (.ref s), some (.int p1)] [] c (f_X9_member c s p1) := by
  rw [f_X9_member]
  refine l1_many mt_X9_member (pc' := bif am_cc .lt p1 0 then 30 else 4) (L' := [some (.ref s), some (.int p1)]) (st' := []) 2 rfl ?_
  refine l1_bif rfl ?_ ?_
  · refine l1_many mt_X9_member (pc' := 31) (L' := [some (.ref s), some (.int p1)]) (st' := [.null]) 1 rfl ?_
    exact l1_ret mt_X9_member rfl rfl rfl
  · refine l1_many mt_X9_member (pc' := 6) (L' := [some (.ref s), some (.int p1)]) (st' := [.ref s, .int p1]) 2 rfl ?_
    refine l1_getI hQ mt_X9_member rfl (o := s) (ci := 8) (k := 1) (a := 0) (b := 0) hs rfl rfl rfl rfl ?_
    refine l1_many mt_X9_member (pc' := bif am_cc .ge p1 (c.1 s 1) then 30 else 12) (L' := [some (.ref s), some (.int p1)]) (st' := []) 1 rfl ?_
    refine l1_bif rfl ?_ ?_
    · refine l1_many mt_X9_member (pc' := 31) (L' := [some (.ref s), some (.int p1)]) (st' := [.null]) 1 rfl ?_
      exact l1_ret mt_X9_member rfl rfl rfl
    · refine l1_many mt_X9_member (pc' := 14) (L' := [some (.ref s), some (.int p1)]) (st' := [.ref s, .int p1]) 2 rfl ?_
      refine l1_getR hQ mt_X9_member rfl (o := s) (ci := 8) (k := 0) (a := 0) (b := 1) hs rfl rfl rfl rfl (q := (s + 1)) rfl ?_
      refine l1_len hQ mt_X9_member rfl (o := (s + 1)) (ci := 24) (kc8_0 hs) rfl rfl ?_
      refine l1_many mt_X9_member (pc' := bif am_cc .ge p1 (Int32.ofNat (ln (s + 1))) then 30 else 21) (L' := [some (.ref s), some (.int p1)]) (st' := []) 1 rfl ?_
      refine l1_bif rfl ?_ ?_
      · refine l1_many mt_X9_member (pc' := 31) (L' := [some (.ref s), some (.int p1)]) (st' := [.null]) 1 rfl ?_
        exact l1_ret mt_X9_member rfl rfl rfl
      · refine l1_many mt_X9_member (pc' := 22) (L' := [some (.ref s), some (.int p1)]) (st' := [.ref s]) 1 rfl ?_
        refine l1_getR hQ mt_X9_member rfl (o := s) (ci := 8) (k := 0) (a := 0) (b := 1) hs rfl rfl rfl rfl (q := (s + 1)) rfl ?_
        refine l1_many mt_X9_member (pc' := 26) (L' := [some (.ref s), some (.int p1)]) (st' := [.int p1, .ref (s + 1)]) 1 rfl ?_
        refine l1_ck (fun hx => ?_)
        refine l1_aald hQ mt_X9_member rfl (o := (s + 1)) (kc8_0 hs) hx (fun hx1 => ?_)
        refine l1_many mt_X9_member (pc' := 31) (L' := [some (.ref s), some (.int p1)]) (st' := [.ref (c.2.2 (s + 1) p1.toNatClampNeg)]) 1 rfl ?_
        exact l1_ret mt_X9_member rfl rfl rfl
theorem ok_X9_member {Q : hS → am_H → Prop} (hQ : l1_em kc Q) (c : hS) (s : Nat) (p1 : Int32) (hs : kc s = 8) : l1_T wM Q am_i_X9_member [.ref s, .int p1] c (f_X9_member c s p1) := l1_of (en_X9_member hQ c s p1 hs) ⟨rfl, rfl, trivial⟩
set_option maxRecDepth 100000 in
theorem ok_X9_find_2 {Q : hS → am_H → Prop} (hQ : l1_em kc Q) (N : Nat) (s : Nat) (p1 : Nat) (hs : kc s = 8) (hp1 : kc p1 = 1) : ∀ n : Nat, ∀ (c : hS) (v2 : Int32), l1_G (wN wI) Q am_i_X9_find 2 [some (.ref s), some (.ref p1), some (.int v2)] [] c (f_X9_find_2 N s p1 n c v2) := by
  intro n
  induction n with
  | zero => intro c v2; exact l1_none
  | succ n ih =>
    intro c v2
    rw [f_X9_find_2]
    refine l1_many mt_X9_find (pc' := 4) (L' := [some (.ref s), some (.ref p1), some (.int v2)]) (st' := [.ref s, .int v2]) 2 rfl ?_
    refine l1_getI hQ mt_X9_find rfl (o := s) (ci := 8) (k := 1) (a := 0) (b := 0) hs rfl rfl rfl rfl ?_
    refine l1_many mt_X9_find (pc' := bif am_cc .ge v2 (c.1 s 1) then 53 else 10) (L' := [some (.ref s), some (.ref p1), some (.int v2)]) (st' := []) 1 rfl ?_
    refine l1_bif rfl ?_ ?_
    · refine l1_many mt_X9_find (pc' := 54) (L' := [some (.ref s), some (.ref p1), some (.int v2)]) (st' := [.int (-1)]) 1 rfl ?_
      exact l1_ret mt_X9_find rfl rfl rfl
    · refine l1_many mt_X9_find (pc' := 12) (L' := [some (.ref s), some (.ref p1), some (.int v2)]) (st' := [.int v2, .ref s]) 2 rfl ?_
      refine l1_callV hQ mt_X9_find mt_X9_member rfl rfl (o := s) (ci := 8) (As := [.int v2]) (rest := []) rfl rfl hs rfl rfl rfl (st1 := fun x1 => l1_mv x1 :: []) (fun _ => rfl) (ok_X9_member hQ c s v2 hs) (fun x1 c2 => ?_)
      refine l1_opt (x := x1) ?_ (fun y3 => ?_)
      · refine l1_many mt_X9_find (pc' := 2) (L' := [some (.ref s), some (.ref p1), some (.int (v2 + 1)), some (.null)]) (st' := []) 5 rfl ?_
        refine l1_weak (m := [true, true, true, false]) (L' := [some (.ref s), some (.ref p1), some (.int (v2 + 1))]) rfl ?_
        exact ih c2 (v2 + 1)
      · refine l1_ck (fun hy => ?_)
        have hy3 : kc y3 = 6 := Nat.eq_of_beq_eq_true hy
        refine l1_many mt_X9_find (pc' := 21) (L' := [some (.ref s), some (.ref p1), some (.int v2), some (.ref y3)]) (st' := [.ref y3]) 4 rfl ?_
        refine l1_getR hQ mt_X9_find rfl (o := y3) (ci := 6) (k := 0) (a := 2) (b := 2) hy3 rfl rfl rfl rfl (q := (y3 + 1)) rfl ?_
        refine l1_callV hQ mt_X9_find mt_X2_size rfl rfl (o := (y3 + 1)) (ci := 1) (As := []) (rest := []) rfl rfl (kc6_0 hy3) rfl rfl rfl (st1 := fun x4 => [.int x4]) (fun _ => rfl) (ok_X2_size hQ c2 (y3 + 1) (kc6_0 hy3)) (fun x4 c5 => ?_)
        refine l1_many mt_X9_find (pc' := 28) (L' := [some (.ref s), some (.ref p1), some (.int v2), some (.ref y3)]) (st' := [.ref p1, .int x4]) 1 rfl ?_
        refine l1_callV hQ mt_X9_find mt_X2_size rfl rfl (o := p1) (ci := 1) (As := []) (rest := [.int x4]) rfl rfl hp1 rfl rfl rfl (st1 := fun x6 => [.int x6, .int x4]) (fun _ => rfl) (ok_X2_size hQ c5 p1 hp1) (fun x6 c7 => ?_)
        refine l1_many mt_X9_find (pc' := bif am_cc .ne x4 x6 then 47 else 34) (L' := [some (.ref s), some (.ref p1), some (.int v2), some (.ref y3)]) (st' := []) 1 rfl ?_
        refine l1_bin rfl ?_ ?_
        · refine l1_many mt_X9_find (pc' := 35) (L' := [some (.ref s), some (.ref p1), some (.int v2), some (.ref y3)]) (st' := [.ref y3]) 1 rfl ?_
          refine l1_getR hQ mt_X9_find rfl (o := y3) (ci := 6) (k := 0) (a := 2) (b := 2) hy3 rfl rfl rfl rfl (q := (y3 + 1)) rfl ?_
          refine l1_many mt_X9_find (pc' := 39) (L' := [some (.ref s), some (.ref p1), some (.int v2), some (.ref y3)]) (st' := [.ref p1, .ref (y3 + 1)]) 1 rfl ?_
          refine l1_callV hQ mt_X9_find mt_X2_beginsWith rfl rfl (o := (y3 + 1)) (ci := 1) (As := [.ref p1]) (rest := []) rfl rfl (kc6_0 hy3) rfl rfl rfl (st1 := fun x8 => [.int x8]) (fun _ => rfl) (ok_X2_beginsWith hQ N c7 (y3 + 1) p1 (kc6_0 hy3) hp1) (fun x8 c9 => ?_)
          refine l1_many mt_X9_find (pc' := bif am_cc .eq x8 0 then 47 else 45) (L' := [some (.ref s), some (.ref p1), some (.int v2), some (.ref y3)]) (st' := []) 1 rfl ?_
          refine l1_bif rfl ?_ ?_
          · refine l1_many mt_X9_find (pc' := 2) (L' := [some (.ref s), some (.ref p1), some (.int (v2 + 1)), some (.ref y3)]) (st' := []) 2 rfl ?_
            refine l1_weak (m := [true, true, true, false]) (L' := [some (.ref s), some (.ref p1), some (.int (v2 + 1))]) rfl ?_
            exact ih c9 (v2 + 1)
          · refine l1_many mt_X9_find (pc' := 46) (L' := [some (.ref s), some (.ref p1), some (.int v2), some (.ref y3)]) (st' := [.int v2]) 1 rfl ?_
            exact l1_ret mt_X9_find rfl rfl rfl
        · refine l1_many mt_X9_find (pc' := 2) (L' := [some (.ref s), some (.ref p1), some (.int (v2 + 1)), some (.ref y3)]) (st' := []) 2 rfl ?_
          refine l1_weak (m := [true, true, true, false]) (L' := [some (.ref s), some (.ref p1), some (.int (v2 + 1))]) rfl ?_
          exact ih c7 (v2 + 1)
set_option maxRecDepth 100000 in
theorem en_X9_find {Q : hS → am_H → Prop} (hQ : l1_em kc Q) (N : Nat) (c : hS) (s : Nat) (p1 : Nat) (hs : kc s = 8) (hp1 : kc p1 = 1) : l1_G (wN wI) Q am_i_X9_find 0 [some (.ref s), some (.ref p1)] [] c (f_X9_find N c s p1) := by
  rw [f_X9_find]
  refine l1_many mt_X9_find (pc' := 2) (L' := [some (.ref s), some (.ref p1), some (.int 0)]) (st' := []) 2 rfl ?_
  exact ok_X9_find_2 hQ N s p1 hs hp1 N c 0
theorem ok_X9_find {Q : hS → am_H → Prop} (hQ : l1_em kc Q) (N : Nat) (c : hS) (s : Nat) (p1 : Nat) (hs : kc s = 8) (hp1 : kc p1 = 1) : l1_T wI Q am_i_X9_find [.ref s, .ref p1] c (f_X9_find N c s p1) := l1_of (en_X9_find hQ N c s p1 hs hp1) ⟨rfl, rfl, trivial⟩
set_option maxRecDepth 100000 in
theorem en_X9_hasRoomFor {Q : hS → am_H → Prop} (hQ : l1_em kc Q) (N : Nat) (c : hS) (s : Nat) (p1 : Nat) (hs : kc s = 8) (hp1 : kc p1 = 1) : l1_G (wN wI) Q am_i_X9_hasRoomFor 0 [some (.ref s), some (.ref p1)] [] c (f_X9_hasRoomFor N c s p1) := by
  rw [f_X9_hasRoomFor]
  refine l1_many mt_X9_hasRoomFor (pc' := 1) (L' := [some (.ref s), some (.ref p1)]) (st' := [.ref s]) 1 rfl ?_
  refine l1_getI hQ mt_X9_hasRoomFor rfl (o := s) (ci := 8) (k := 1) (a := 0) (b := 0) hs rfl rfl rfl rfl ?_
  refine l1_many mt_X9_hasRoomFor (pc' := bif am_cc .lt (c.1 s 1) 16 then 18 else 9) (L' := [some (.ref s), some (.ref p1)]) (st' := []) 2 rfl ?_
  refine l1_bif rfl ?_ ?_
  · refine l1_many mt_X9_hasRoomFor (pc' := 23) (L' := [some (.ref s), some (.ref p1)]) (st' := [.int 1]) 2 rfl ?_
    exact l1_ret mt_X9_hasRoomFor rfl rfl rfl
  · refine l1_many mt_X9_hasRoomFor (pc' := 11) (L' := [some (.ref s), some (.ref p1)]) (st' := [.ref p1, .ref s]) 2 rfl ?_
    refine l1_callV hQ mt_X9_hasRoomFor mt_X9_find rfl rfl (o := s) (ci := 8) (As := [.ref p1]) (rest := []) rfl rfl hs rfl rfl rfl (st1 := fun x1 => [.int x1]) (fun _ => rfl) (ok_X9_find hQ N c s p1 hs hp1) (fun x1 c2 => ?_)
    refine l1_many mt_X9_hasRoomFor (pc' := bif am_cc .eq x1 (-1) then 22 else 18) (L' := [some (.ref s), some (.ref p1)]) (st' := []) 2 rfl ?_
    refine l1_bif rfl ?_ ?_
    · refine l1_many mt_X9_hasRoomFor (pc' := 23) (L' := [some (.ref s), some (.ref p1)]) (st' := [.int 0]) 1 rfl ?_
      exact l1_ret mt_X9_hasRoomFor rfl rfl rfl
    · refine l1_many mt_X9_hasRoomFor (pc' := 23) (L' := [some (.ref s), some (.ref p1)]) (st' := [.int 1]) 2 rfl ?_
      exact l1_ret mt_X9_hasRoomFor rfl rfl rfl
theorem ok_X9_hasRoomFor {Q : hS → am_H → Prop} (hQ : l1_em kc Q) (N : Nat) (c : hS) (s : Nat) (p1 : Nat) (hs : kc s = 8) (hp1 : kc p1 = 1) : l1_T wI Q am_i_X9_hasRoomFor [.ref s, .ref p1] c (f_X9_hasRoomFor N c s p1) := l1_of (en_X9_hasRoomFor hQ N c s p1 hs hp1) ⟨rfl, rfl, trivial⟩
set_option maxRecDepth 100000 in
theorem en_X2_liesUnder {Q : hS → am_H → Prop} (hQ : l1_em kc Q) (N : Nat) (c : hS) (b : Nat) (p1 : Nat) (hb : kc b = 1) (hp1 : kc p1 = 1) : l1_G (wN wI) Q am_i_X2_liesUnder 0 [some (.ref b), some (.ref p1)] [] c (f_X2_liesUnder N c b p1) := by
  rw [f_X2_liesUnder]
  refine l1_many mt_X2_liesUnder (pc' := 1) (L' := [some (.ref b), some (.ref p1)]) (st' := [.ref p1]) 1 rfl ?_
  refine l1_getI hQ mt_X2_liesUnder rfl (o := p1) (ci := 1) (k := 1) (a := 0) (b := 0) hp1 rfl rfl rfl rfl ?_
  refine l1_many mt_X2_liesUnder (pc' := bif am_cc .ne (c.1 p1 1) 0 then 9 else 7) (L' := [some (.ref b), some (.ref p1)]) (st' := []) 1 rfl ?_
  refine l1_bin rfl ?_ ?_
  · refine l1_many mt_X2_liesUnder (pc' := 8) (L' := [some (.ref b), some (.ref p1)]) (st' := [.int 1]) 1 rfl ?_
    exact l1_ret mt_X2_liesUnder rfl rfl rfl
  · refine l1_many mt_X2_liesUnder (pc' := 10) (L' := [some (.ref b), some (.ref p1)]) (st' := [.ref b]) 1 rfl ?_
    refine l1_getI hQ mt_X2_liesUnder rfl (o := b) (ci := 1) (k := 1) (a := 0) (b := 0) hb rfl rfl rfl rfl ?_
    refine l1_many mt_X2_liesUnder (pc' := 14) (L' := [some (.ref b), some (.ref p1)]) (st' := [.ref p1, .int (c.1 b 1)]) 1 rfl ?_
    refine l1_getI hQ mt_X2_liesUnder rfl (o := p1) (ci := 1) (k := 1) (a := 0) (b := 0) hp1 rfl rfl rfl rfl ?_
    refine l1_many mt_X2_liesUnder (pc' := bif am_cc .le (c.1 b 1) ((c.1 p1 1) + 1) then 47 else 22) (L' := [some (.ref b), some (.ref p1)]) (st' := []) 3 rfl ?_
    refine l1_bif rfl ?_ ?_
    · refine l1_many mt_X2_liesUnder (pc' := 48) (L' := [some (.ref b), some (.ref p1)]) (st' := [.int 0]) 1 rfl ?_
      exact l1_ret mt_X2_liesUnder rfl rfl rfl
    · refine l1_many mt_X2_liesUnder (pc' := 24) (L' := [some (.ref b), some (.ref p1)]) (st' := [.ref p1, .ref b]) 2 rfl ?_
      refine l1_getI hQ mt_X2_liesUnder rfl (o := p1) (ci := 1) (k := 1) (a := 0) (b := 0) hp1 rfl rfl rfl rfl ?_
      refine l1_callV hQ mt_X2_liesUnder mt_X2_get rfl rfl (o := b) (ci := 1) (As := [.int (c.1 p1 1)]) (rest := []) rfl rfl hb rfl rfl rfl (st1 := fun x1 => [.int x1]) (fun _ => rfl) (ok_X2_get hQ c b (c.1 p1 1) hb) (fun x1 c2 => ?_)
      refine l1_many mt_X2_liesUnder (pc' := bif am_cc .ne x1 47 then 47 else 35) (L' := [some (.ref b), some (.ref p1)]) (st' := []) 2 rfl ?_
      refine l1_bin rfl ?_ ?_
      · refine l1_many mt_X2_liesUnder (pc' := 37) (L' := [some (.ref b), some (.ref p1)]) (st' := [.ref p1, .ref b]) 2 rfl ?_
        refine l1_callV hQ mt_X2_liesUnder mt_X2_beginsWith rfl rfl (o := b) (ci := 1) (As := [.ref p1]) (rest := []) rfl rfl hb rfl rfl rfl (st1 := fun x3 => [.int x3]) (fun _ => rfl) (ok_X2_beginsWith hQ N c2 b p1 hb hp1) (fun x3 c4 => ?_)
        refine l1_many mt_X2_liesUnder (pc' := bif am_cc .eq x3 0 then 47 else 43) (L' := [some (.ref b), some (.ref p1)]) (st' := []) 1 rfl ?_
        refine l1_bif rfl ?_ ?_
        · refine l1_many mt_X2_liesUnder (pc' := 48) (L' := [some (.ref b), some (.ref p1)]) (st' := [.int 0]) 1 rfl ?_
          exact l1_ret mt_X2_liesUnder rfl rfl rfl
        · refine l1_many mt_X2_liesUnder (pc' := 48) (L' := [some (.ref b), some (.ref p1)]) (st' := [.int 1]) 2 rfl ?_
          exact l1_ret mt_X2_liesUnder rfl rfl rfl
      · refine l1_many mt_X2_liesUnder (pc' := 48) (L' := [some (.ref b), some (.ref p1)]) (st' := [.int 0]) 1 rfl ?_
        exact l1_ret mt_X2_liesUnder rfl rfl rfl
theorem ok_X2_liesUnder {Q : hS → am_H → Prop} (hQ : l1_em kc Q) (N : Nat) (c : hS) (b : Nat) (p1 : Nat) (hb : kc b = 1) (hp1 : kc p1 = 1) : l1_T wI Q am_i_X2_liesUnder [.ref b, .ref p1] c (f_X2_liesUnder N c b p1) := l1_of (en_X2_liesUnder hQ N c b p1 hb hp1) ⟨rfl, rfl, trivial⟩
set_option maxRecDepth 100000 in
theorem ok_X9_isInTheWay_43 {Q : hS → am_H → Prop} (hQ : l1_em kc Q) (N : Nat) (s : Nat) (p1 : Nat) (p2 : Int32) (hs : kc s = 8) (hp1 : kc p1 = 1) {k2 : hS → Int32 → Option (Int32 × hS)} (hk2 : ∀ c v3, l1_G (wN wI) Q am_i_X9_isInTheWay 2 [some (.ref s), some (.ref p1), some (.int p2), some (.int v3)] [] c (k2 c v3)) : ∀ (c : hS) (v3 : Int32) (v4 : Nat) (hv4 : kc v4 = 6), l1_G (wN wI) Q am_i_X9_isInTheWay 43 [some (.ref s), some (.ref p1), some (.int p2), some (.int v3), some (.ref v4)] [] c (f_X9_isInTheWay_43 N s p1 p2 k2 c v3 v4) := by
  intro c v3 v4 hv4
  rw [f_X9_isInTheWay_43]
  refine l1_many mt_X9_isInTheWay (pc' := 45) (L' := [some (.ref s), some (.ref p1), some (.int p2), some (.int v3), some (.ref v4)]) (st' := [.ref v4]) 1 rfl ?_
  refine l1_getI hQ mt_X9_isInTheWay rfl (o := v4) (ci := 6) (k := 2) (a := 2) (b := 0) hv4 rfl rfl rfl rfl ?_
  refine l1_many mt_X9_isInTheWay (pc' := bif am_cc .ne (c.1 v4 2) 0 then 65 else 51) (L' := [some (.ref s), some (.ref p1), some (.int p2), some (.int v3), some (.ref v4)]) (st' := []) 1 rfl ?_
  refine l1_bin rfl ?_ ?_
  · refine l1_many mt_X9_isInTheWay (pc' := 54) (L' := [some (.ref s), some (.ref p1), some (.int p2), some (.int v3), some (.ref v4)]) (st' := [.ref v4, .ref p1]) 2 rfl ?_
    refine l1_getR hQ mt_X9_isInTheWay rfl (o := v4) (ci := 6) (k := 0) (a := 2) (b := 2) hv4 rfl rfl rfl rfl (q := (v4 + 1)) rfl ?_
    refine l1_callV hQ mt_X9_isInTheWay mt_X2_liesUnder rfl rfl (o := p1) (ci := 1) (As := [.ref (v4 + 1)]) (rest := []) rfl rfl hp1 rfl rfl rfl (st1 := fun x1 => [.int x1]) (fun _ => rfl) (ok_X2_liesUnder hQ N c p1 (v4 + 1) hp1 (kc6_0 hv4)) (fun x1 c2 => ?_)
    refine l1_many mt_X9_isInTheWay (pc' := bif am_cc .eq x1 0 then 65 else 63) (L' := [some (.ref s), some (.ref p1), some (.int p2), some (.int v3), some (.ref v4)]) (st' := []) 1 rfl ?_
    refine l1_bif rfl ?_ ?_
    · refine l1_many mt_X9_isInTheWay (pc' := 2) (L' := [some (.ref s), some (.ref p1), some (.int p2), some (.int (v3 + 1)), some (.ref v4)]) (st' := []) 2 rfl ?_
      refine l1_weak (m := [true, true, true, true, false]) (L' := [some (.ref s), some (.ref p1), some (.int p2), some (.int (v3 + 1))]) rfl ?_
      exact hk2 c2 (v3 + 1)
    · refine l1_many mt_X9_isInTheWay (pc' := 64) (L' := [some (.ref s), some (.ref p1), some (.int p2), some (.int v3), some (.ref v4)]) (st' := [.int 1]) 1 rfl ?_
      exact l1_ret mt_X9_isInTheWay rfl rfl rfl
  · refine l1_many mt_X9_isInTheWay (pc' := 2) (L' := [some (.ref s), some (.ref p1), some (.int p2), some (.int (v3 + 1)), some (.ref v4)]) (st' := []) 2 rfl ?_
    refine l1_weak (m := [true, true, true, true, false]) (L' := [some (.ref s), some (.ref p1), some (.int p2), some (.int (v3 + 1))]) rfl ?_
    exact hk2 c (v3 + 1)
set_option maxRecDepth 100000 in
theorem ok_X9_isInTheWay_2 {Q : hS → am_H → Prop} (hQ : l1_em kc Q) (N : Nat) (s : Nat) (p1 : Nat) (p2 : Int32) (hs : kc s = 8) (hp1 : kc p1 = 1) : ∀ n : Nat, ∀ (c : hS) (v3 : Int32), l1_G (wN wI) Q am_i_X9_isInTheWay 2 [some (.ref s), some (.ref p1), some (.int p2), some (.int v3)] [] c (f_X9_isInTheWay_2 N s p1 p2 n c v3) := by
  intro n
  induction n with
  | zero => intro c v3; exact l1_none
  | succ n ih =>
    intro c v3
    rw [f_X9_isInTheWay_2]
    refine l1_many mt_X9_isInTheWay (pc' := 4) (L' := [some (.ref s), some (.ref p1), some (.int p2), some (.int v3)]) (st' := [.ref s, .int v3]) 2 rfl ?_
    refine l1_getI hQ mt_X9_isInTheWay rfl (o := s) (ci := 8) (k := 1) (a := 0) (b := 0) hs rfl rfl rfl rfl ?_
    refine l1_many mt_X9_isInTheWay (pc' := bif am_cc .ge v3 (c.1 s 1) then 71 else 10) (L' := [some (.ref s), some (.ref p1), some (.int p2), some (.int v3)]) (st' := []) 1 rfl ?_
    refine l1_bif rfl ?_ ?_
    · refine l1_many mt_X9_isInTheWay (pc' := 72) (L' := [some (.ref s), some (.ref p1), some (.int p2), some (.int v3)]) (st' := [.int 0]) 1 rfl ?_
      exact l1_ret mt_X9_isInTheWay rfl rfl rfl
    · refine l1_many mt_X9_isInTheWay (pc' := 12) (L' := [some (.ref s), some (.ref p1), some (.int p2), some (.int v3)]) (st' := [.int v3, .ref s]) 2 rfl ?_
      refine l1_callV hQ mt_X9_isInTheWay mt_X9_member rfl rfl (o := s) (ci := 8) (As := [.int v3]) (rest := []) rfl rfl hs rfl rfl rfl (st1 := fun x1 => l1_mv x1 :: []) (fun _ => rfl) (ok_X9_member hQ c s v3 hs) (fun x1 c2 => ?_)
      refine l1_opt (x := x1) ?_ (fun y3 => ?_)
      · refine l1_many mt_X9_isInTheWay (pc' := 2) (L' := [some (.ref s), some (.ref p1), some (.int p2), some (.int (v3 + 1)), some (.null)]) (st' := []) 6 rfl ?_
        refine l1_weak (m := [true, true, true, true, false]) (L' := [some (.ref s), some (.ref p1), some (.int p2), some (.int (v3 + 1))]) rfl ?_
        exact ih c2 (v3 + 1)
      · refine l1_ck (fun hy => ?_)
        have hy3 : kc y3 = 6 := Nat.eq_of_beq_eq_true hy
        refine l1_many mt_X9_isInTheWay (pc' := bif am_cc .ne p2 0 then 43 else 29) (L' := [some (.ref s), some (.ref p1), some (.int p2), some (.int v3), some (.ref y3)]) (st' := []) 5 rfl ?_
        refine l1_bin rfl ?_ ?_
        · refine l1_many mt_X9_isInTheWay (pc' := 31) (L' := [some (.ref s), some (.ref p1), some (.int p2), some (.int v3), some (.ref y3)]) (st' := [.ref y3]) 1 rfl ?_
          refine l1_getR hQ mt_X9_isInTheWay rfl (o := y3) (ci := 6) (k := 0) (a := 2) (b := 2) hy3 rfl rfl rfl rfl (q := (y3 + 1)) rfl ?_
          refine l1_many mt_X9_isInTheWay (pc' := 35) (L' := [some (.ref s), some (.ref p1), some (.int p2), some (.int v3), some (.ref y3)]) (st' := [.ref p1, .ref (y3 + 1)]) 1 rfl ?_
          refine l1_callV hQ mt_X9_isInTheWay mt_X2_liesUnder rfl rfl (o := (y3 + 1)) (ci := 1) (As := [.ref p1]) (rest := []) rfl rfl (kc6_0 hy3) rfl rfl rfl (st1 := fun x4 => [.int x4]) (fun _ => rfl) (ok_X2_liesUnder hQ N c2 (y3 + 1) p1 (kc6_0 hy3) hp1) (fun x4 c5 => ?_)
          refine l1_many mt_X9_isInTheWay (pc' := bif am_cc .eq x4 0 then 43 else 41) (L' := [some (.ref s), some (.ref p1), some (.int p2), some (.int v3), some (.ref y3)]) (st' := []) 1 rfl ?_
          refine l1_bif rfl ?_ ?_
          · exact ok_X9_isInTheWay_43 hQ N s p1 p2 hs hp1 ih c5 v3 y3 hy3
          · refine l1_many mt_X9_isInTheWay (pc' := 42) (L' := [some (.ref s), some (.ref p1), some (.int p2), some (.int v3), some (.ref y3)]) (st' := [.int 1]) 1 rfl ?_
            exact l1_ret mt_X9_isInTheWay rfl rfl rfl
        · exact ok_X9_isInTheWay_43 hQ N s p1 p2 hs hp1 ih c2 v3 y3 hy3
set_option maxRecDepth 100000 in
theorem en_X9_isInTheWay {Q : hS → am_H → Prop} (hQ : l1_em kc Q) (N : Nat) (c : hS) (s : Nat) (p1 : Nat) (p2 : Int32) (hs : kc s = 8) (hp1 : kc p1 = 1) : l1_G (wN wI) Q am_i_X9_isInTheWay 0 [some (.ref s), some (.ref p1), some (.int p2)] [] c (f_X9_isInTheWay N c s p1 p2) := by
  rw [f_X9_isInTheWay]
  refine l1_many mt_X9_isInTheWay (pc' := 2) (L' := [some (.ref s), some (.ref p1), some (.int p2), some (.int 0)]) (st' := []) 2 rfl ?_
  exact ok_X9_isInTheWay_2 hQ N s p1 p2 hs hp1 N c 0
theorem ok_X9_isInTheWay {Q : hS → am_H → Prop} (hQ : l1_em kc Q) (N : Nat) (c : hS) (s : Nat) (p1 : Nat) (p2 : Int32) (hs : kc s = 8) (hp1 : kc p1 = 1) : l1_T wI Q am_i_X9_isInTheWay [.ref s, .ref p1, .int p2] c (f_X9_isInTheWay N c s p1 p2) := l1_of (en_X9_isInTheWay hQ N c s p1 p2 hs hp1) ⟨rfl, rfl, rfl, trivial⟩
set_option maxRecDepth 100000 in
theorem en_X2_add {Q : hS → am_H → Prop} (hQ : l1_em kc Q) (c : hS) (b : Nat) (p1 : Int32) (hb : kc b = 1) : l1_G (wN wV) Q am_i_X2_add 0 [some (.ref b), some (.int p1)] [] c (f_X2_add c b p1) := by
  rw [f_X2_add]
  refine l1_many mt_X2_add (pc' := 1) (L' := [some (.ref b), some (.int p1)]) (st' := [.ref b]) 1 rfl ?_
  refine l1_getI hQ mt_X2_add rfl (o := b) (ci := 1) (k := 1) (a := 0) (b := 0) hb rfl rfl rfl rfl ?_
  refine l1_many mt_X2_add (pc' := bif am_cc .lt (c.1 b 1) 0 then 43 else 7) (L' := [some (.ref b), some (.int p1)]) (st' := []) 1 rfl ?_
  refine l1_bif rfl ?_ ?_
  · exact l1_ret mt_X2_add rfl rfl rfl
  · refine l1_many mt_X2_add (pc' := 8) (L' := [some (.ref b), some (.int p1)]) (st' := [.ref b]) 1 rfl ?_
    refine l1_getI hQ mt_X2_add rfl (o := b) (ci := 1) (k := 1) (a := 0) (b := 0) hb rfl rfl rfl rfl ?_
    refine l1_many mt_X2_add (pc' := 12) (L' := [some (.ref b), some (.int p1)]) (st' := [.ref b, .int (c.1 b 1)]) 1 rfl ?_
    refine l1_getR hQ mt_X2_add rfl (o := b) (ci := 1) (k := 0) (a := 0) (b := 1) hb rfl rfl rfl rfl (q := (b + 1)) rfl ?_
    refine l1_len hQ mt_X2_add rfl (o := (b + 1)) (ci := 20) (kc1_1 hb) rfl rfl ?_
    refine l1_many mt_X2_add (pc' := bif am_cc .ge (c.1 b 1) (Int32.ofNat (ln (b + 1))) then 43 else 19) (L' := [some (.ref b), some (.int p1)]) (st' := []) 1 rfl ?_
    refine l1_bif rfl ?_ ?_
    · exact l1_ret mt_X2_add rfl rfl rfl
    · refine l1_many mt_X2_add (pc' := 20) (L' := [some (.ref b), some (.int p1)]) (st' := [.ref b]) 1 rfl ?_
      refine l1_getR hQ mt_X2_add rfl (o := b) (ci := 1) (k := 0) (a := 0) (b := 1) hb rfl rfl rfl rfl (q := (b + 1)) rfl ?_
      refine l1_many mt_X2_add (pc' := 24) (L' := [some (.ref b), some (.int p1)]) (st' := [.ref b, .ref (b + 1)]) 1 rfl ?_
      refine l1_getI hQ mt_X2_add rfl (o := b) (ci := 1) (k := 1) (a := 0) (b := 0) hb rfl rfl rfl rfl ?_
      refine l1_many mt_X2_add (pc' := 32) (L' := [some (.ref b), some (.int p1)]) (st' := [.int (p1 &&& 255), .int (c.1 b 1), .ref (b + 1)]) 3 rfl ?_
      refine l1_ck (fun hx => ?_)
      refine l1_ast hQ mt_X2_add rfl (o := (b + 1)) (kc1_1 hb) hx (fun c1 => ?_)
      refine l1_many mt_X2_add (pc' := 35) (L' := [some (.ref b), some (.int p1)]) (st' := [.ref b, .ref b]) 2 rfl ?_
      refine l1_getI hQ mt_X2_add rfl (o := b) (ci := 1) (k := 1) (a := 0) (b := 0) hb rfl rfl rfl rfl ?_
      refine l1_many mt_X2_add (pc' := 40) (L' := [some (.ref b), some (.int p1)]) (st' := [.int ((c1.1 b 1) + 1), .ref b]) 2 rfl ?_
      refine l1_putI hQ mt_X2_add rfl (o := b) (ci := 1) (k := 1) (a := 0) hb rfl rfl rfl rfl rfl (fun c2 => ?_)
      exact l1_ret mt_X2_add rfl rfl rfl
theorem ok_X2_add {Q : hS → am_H → Prop} (hQ : l1_em kc Q) (c : hS) (b : Nat) (p1 : Int32) (hb : kc b = 1) : l1_T wV Q am_i_X2_add [.ref b, .int p1] c (f_X2_add c b p1) := l1_of (en_X2_add hQ c b p1 hb) ⟨rfl, rfl, trivial⟩
set_option maxRecDepth 100000 in
theorem ok_X2_addRow_3 {Q : hS → am_H → Prop} (hQ : l1_em kc Q) (N : Nat) (b : Nat) (p1 : Nat) (p2 : Int32) (p3 : Int32) (hb : kc b = 1) (hp1 : kc p1 = 1) : ∀ n : Nat, ∀ (c : hS) (v4 : Int32), l1_G (wN wV) Q am_i_X2_addRow 3 [some (.ref b), some (.ref p1), none, some (.int p3), some (.int v4)] [] c (f_X2_addRow_3 N b p1 p2 p3 n c v4) := by
  intro n
  induction n with
  | zero => intro c v4; exact l1_none
  | succ n ih =>
    intro c v4
    rw [f_X2_addRow_3]
    refine l1_many mt_X2_addRow (pc' := bif am_cc .ge v4 p3 then 25 else 9) (L' := [some (.ref b), some (.ref p1), none, some (.int p3), some (.int v4)]) (st' := []) 3 rfl ?_
    refine l1_bif rfl ?_ ?_
    · exact l1_ret mt_X2_addRow rfl rfl rfl
    · refine l1_many mt_X2_addRow (pc' := 13) (L' := [some (.ref b), some (.ref p1), none, some (.int p3), some (.int v4)]) (st' := [.int v4, .ref p1, .ref b]) 3 rfl ?_
      refine l1_callV hQ mt_X2_addRow mt_X2_get rfl rfl (o := p1) (ci := 1) (As := [.int v4]) (rest := [.ref b]) rfl rfl hp1 rfl rfl rfl (st1 := fun x1 => [.int x1, .ref b]) (fun _ => rfl) (ok_X2_get hQ c p1 v4 hp1) (fun x1 c2 => ?_)
      refine l1_callV hQ mt_X2_addRow mt_X2_add rfl rfl (o := b) (ci := 1) (As := [.int x1]) (rest := []) rfl rfl hb rfl rfl rfl (st1 := fun _ => []) (fun _ => rfl) (ok_X2_add hQ c2 b x1 hb) (fun _ c3 => ?_)
      refine l1_many mt_X2_addRow (pc' := 3) (L' := [some (.ref b), some (.ref p1), none, some (.int p3), some (.int (v4 + 1))]) (st' := []) 2 rfl ?_
      exact ih c3 (v4 + 1)
set_option maxRecDepth 100000 in
theorem en_X2_addRow {Q : hS → am_H → Prop} (hQ : l1_em kc Q) (N : Nat) (c : hS) (b : Nat) (p1 : Nat) (p2 : Int32) (p3 : Int32) (hb : kc b = 1) (hp1 : kc p1 = 1) : l1_G (wN wV) Q am_i_X2_addRow 0 [some (.ref b), some (.ref p1), some (.int p2), some (.int p3)] [] c (f_X2_addRow N c b p1 p2 p3) := by
  rw [f_X2_addRow]
  refine l1_many mt_X2_addRow (pc' := 3) (L' := [some (.ref b), some (.ref p1), some (.int p2), some (.int p3), some (.int p2)]) (st' := []) 2 rfl ?_
  refine l1_weak (m := [true, true, false, true, true]) (L' := [some (.ref b), some (.ref p1), none, some (.int p3), some (.int p2)]) rfl ?_
  exact ok_X2_addRow_3 hQ N b p1 p2 p3 hb hp1 N c p2
theorem ok_X2_addRow {Q : hS → am_H → Prop} (hQ : l1_em kc Q) (N : Nat) (c : hS) (b : Nat) (p1 : Nat) (p2 : Int32) (p3 : Int32) (hb : kc b = 1) (hp1 : kc p1 = 1) : l1_T wV Q am_i_X2_addRow [.ref b, .ref p1, .int p2, .int p3] c (f_X2_addRow N c b p1 p2 p3) := l1_of (en_X2_addRow hQ N c b p1 p2 p3 hb hp1) ⟨rfl, rfl, rfl, rfl, trivial⟩
set_option maxRecDepth 100000 in
theorem en_X2_cutTo {Q : hS → am_H → Prop} (hQ : l1_em kc Q) (c : hS) (b : Nat) (p1 : Int32) (hb : kc b = 1) : l1_G (wN wV) Q am_i_X2_cutTo 0 [some (.ref b), some (.int p1)] [] c (f_X2_cutTo c b p1) := by
  rw [f_X2_cutTo]
  refine l1_many mt_X2_cutTo (pc' := bif am_cc .lt p1 0 then 17 else 4) (L' := [some (.ref b), some (.int p1)]) (st' := []) 2 rfl ?_
  refine l1_bif rfl ?_ ?_
  · exact l1_ret mt_X2_cutTo rfl rfl rfl
  · refine l1_many mt_X2_cutTo (pc' := 6) (L' := [some (.ref b), some (.int p1)]) (st' := [.ref b, .int p1]) 2 rfl ?_
    refine l1_getI hQ mt_X2_cutTo rfl (o := b) (ci := 1) (k := 1) (a := 0) (b := 0) hb rfl rfl rfl rfl ?_
    refine l1_many mt_X2_cutTo (pc' := bif am_cc .ge p1 (c.1 b 1) then 17 else 12) (L' := [some (.ref b), some (.int p1)]) (st' := []) 1 rfl ?_
    refine l1_bif rfl ?_ ?_
    · exact l1_ret mt_X2_cutTo rfl rfl rfl
    · refine l1_many mt_X2_cutTo (pc' := 14) (L' := [some (.ref b), some (.int p1)]) (st' := [.int p1, .ref b]) 2 rfl ?_
      refine l1_putI hQ mt_X2_cutTo rfl (o := b) (ci := 1) (k := 1) (a := 0) hb rfl rfl rfl rfl rfl (fun c1 => ?_)
      exact l1_ret mt_X2_cutTo rfl rfl rfl
theorem ok_X2_cutTo {Q : hS → am_H → Prop} (hQ : l1_em kc Q) (c : hS) (b : Nat) (p1 : Int32) (hb : kc b = 1) : l1_T wV Q am_i_X2_cutTo [.ref b, .int p1] c (f_X2_cutTo c b p1) := l1_of (en_X2_cutTo hQ c b p1 hb) ⟨rfl, rfl, trivial⟩
