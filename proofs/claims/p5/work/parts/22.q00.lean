/-! THE METHODS AS FUNCTIONS, printed by gen_l1.py -/
noncomputable def f_X2_size (c : hS) (b : Nat) : Option (Int32 × hS) :=
  some (c.1 b 1, c)
noncomputable def f_X6_tell (c : hS) (p1 : Int32) (p2 : Int32) : Option (Int32 × hS) :=
  st1 (sI c 9 0 p1) fun c1 =>
  st1 (sI c1 9 1 p2) fun c2 =>
  some (0, c2)
noncomputable def f_X0_reaches (c : hS) (p1 : Int32) : Option (Int32 × hS) :=
  bnd (f_X2_size c 3) fun x1 c2 =>
  if p1 ≤ x1 then
    some (1, c2)
  else
    bnd (f_X2_size c2 3) fun x3 c4 =>
    bnd (f_X6_tell c4 1 x3) fun x5 c6 =>
    if x5 = 0 then
      some (0, c6)
    else
      some (1, c6)
noncomputable def f_X2_get (c : hS) (b : Nat) (p1 : Int32) : Option (Int32 × hS) :=
  if p1 < 0 then
    some (0, c)
  else
    if c.1 b 1 ≤ p1 then
      some (0, c)
    else
      if (Int32.ofNat (ln (b + 1))) ≤ p1 then
        some (0, c)
      else
        bif j_in p1 (ln (b + 1)) then
        some (c.1 (b + 1) p1.toNatClampNeg, c)
        else none
noncomputable def f_X0_isMarked_3 (N : Nat) (p1 : Int32) (p2 : List Int32) (p3 : Int32) : Nat → hS → Int32 → Option (Int32 × hS)
  | 0, _, _ => none
  | n + 1, c, v4 =>
  if (Int32.ofNat p2.length) ≤ v4 then
    some (1, c)
  else
    bnd (f_X2_get c 3 (p1 + v4)) fun x1 c2 =>
    bif j_in v4 p2.length then
    if x1 = p2.getD v4.toNatClampNeg 0 then
      f_X0_isMarked_3 N p1 p2 p3 n c2 (v4 + 1)
    else
      bnd (f_X6_tell c2 p3 (p1 + v4)) fun x3 c4 =>
      bif j_b x3 then some (x3, c4) else none
    else none
noncomputable def f_X0_isMarked (N : Nat) (c : hS) (p1 : Int32) (p2 : List Int32) (p3 : Int32) : Option (Int32 × hS) :=
  f_X0_isMarked_3 N p1 p2 p3 N c 0
noncomputable def f_X0_isZeroFrom_2 (N : Nat) (p1 : Int32) : Nat → hS → Int32 → Option (Int32 × hS)
  | 0, _, _ => none
  | n + 1, c, v2 =>
  bnd (f_X2_size c 3) fun x1 c2 =>
  if x1 ≤ v2 then
    some (1, c2)
  else
    bnd (f_X2_get c2 3 v2) fun x3 c4 =>
    if x3 = 0 then
      f_X0_isZeroFrom_2 N p1 n c4 (v2 + 1)
    else
      bnd (f_X6_tell c4 2 v2) fun x5 c6 =>
      bif j_b x5 then some (x5, c6) else none
noncomputable def f_X0_isZeroFrom (N : Nat) (c : hS) (p1 : Int32) : Option (Int32 × hS) :=
  f_X0_isZeroFrom_2 N p1 N c p1
noncomputable def f_X11_isPart_39 (p0 : Nat) (p1 : Int32) (p2 : Int32) (c : hS) : Option (Int32 × hS) :=
  some (1, c)
noncomputable def f_X11_isPart (c : hS) (p0 : Nat) (p1 : Int32) (p2 : Int32) : Option (Int32 × hS) :=
  if p2 = 0 then
    some (0, c)
  else
    if 2 < p2 then
      f_X11_isPart_39 p0 p1 p2 c
    else
      bnd (f_X2_get c p0 p1) fun x1 c2 =>
      if x1 = 46 then
        bnd (f_X2_get c2 p0 ((p1 + p2) - 1)) fun x3 c4 =>
        if x3 = 46 then
          some (0, c4)
        else
          f_X11_isPart_39 p0 p1 p2 c4
      else
        f_X11_isPart_39 p0 p1 p2 c2
noncomputable def f_X11_isName_49 (N : Nat) (p0 : Nat) (k23 : hS → Int32 → Int32 → Option (Int32 × hS)) (c : hS) (v1 : Int32) (v2 : Int32) (w0 : Int32) : Option (Int32 × hS) :=
  if w0 < 33 then
    some (0, c)
  else
    if w0 ≤ 126 then
      if w0 = 47 then
        bnd (f_X11_isPart c p0 v1 (v2 - v1)) fun x1 c2 =>
        if x1 = 0 then
          some (0, c2)
        else
          k23 c2 (v2 + 1) (v2 + 1)
      else
        k23 c v1 (v2 + 1)
    else
      some (0, c)
noncomputable def f_X11_isName_23 (N : Nat) (p0 : Nat) : Nat → hS → Int32 → Int32 → Option (Int32 × hS)
  | 0, _, _, _ => none
  | n + 1, c, v1, v2 =>
  bnd (f_X2_size c p0) fun x1 c2 =>
  if x1 < v2 then
    some (1, c2)
  else
    bnd (f_X2_size c2 p0) fun x3 c4 =>
    if x3 ≤ v2 then
      f_X11_isName_49 N p0 (f_X11_isName_23 N p0 n) c4 v1 v2 47
    else
      bnd (f_X2_get c4 p0 v2) fun x5 c6 =>
      f_X11_isName_49 N p0 (f_X11_isName_23 N p0 n) c6 v1 v2 x5
noncomputable def f_X11_isName (N : Nat) (c : hS) (p0 : Nat) : Option (Int32 × hS) :=
  bnd (f_X2_size c p0) fun x1 c2 =>
  if x1 < 1 then
    some (0, c2)
  else
    bnd (f_X2_size c2 p0) fun x3 c4 =>
    if x3 ≤ 90 then
      f_X11_isName_23 N p0 N c4 0 0
    else
      some (0, c4)
noncomputable def f_X0_isNamed (N : Nat) (c : hS) (p1 : Int32) : Option (Int32 × hS) :=
  bnd (f_X11_isName N c 5) fun x1 c2 =>
  if x1 = 0 then
    bnd (f_X6_tell c2 10 p1) fun x3 c4 =>
    if x3 = 0 then
      some (0, c4)
    else
      some (1, c4)
  else
    some (1, c2)
noncomputable def f_X2_beginsWith_15 (N : Nat) (b : Nat) (p1 : Nat) : Nat → hS → Int32 → Option (Int32 × hS)
  | 0, _, _ => none
  | n + 1, c, v2 =>
  if c.1 p1 1 ≤ v2 then
    some (1, c)
  else
    bnd (f_X2_get c b v2) fun x1 c2 =>
    bnd (f_X2_get c2 p1 v2) fun x3 c4 =>
    if x1 = x3 then
      f_X2_beginsWith_15 N b p1 n c4 (v2 + 1)
    else
      some (0, c4)
noncomputable def f_X2_beginsWith (N : Nat) (c : hS) (b : Nat) (p1 : Nat) : Option (Int32 × hS) :=
  if c.1 p1 1 ≤ c.1 b 1 then
    f_X2_beginsWith_15 N b p1 N c 0
  else
    some (0, c)
noncomputable def f_X9_member (c : hS) (s : Nat) (p1 : Int32) : Option ((Option Nat) × hS) :=
  if p1 < 0 then
    some (none, c)
  else
    if c.1 s 1 ≤ p1 then
      some (none, c)
    else
      if (Int32.ofNat (ln (s + 1))) ≤ p1 then
        some (none, c)
      else
        bif j_in p1 (ln (s + 1)) then
        bif Nat.beq (kc (c.2.2 (s + 1) p1.toNatClampNeg)) 6 then
        some ((some (c.2.2 (s + 1) p1.toNatClampNeg)), c)
        else none
        else none
noncomputable def f_X9_find_2 (N : Nat) (s : Nat) (p1 : Nat) : Nat → hS → Int32 → Option (Int32 × hS)
  | 0, _, _ => none
  | n + 1, c, v2 =>
  if c.1 s 1 ≤ v2 then
    some ((-1), c)
  else
    bnd (f_X9_member c s v2) fun x1 c2 =>
    opt x1 (
      f_X9_find_2 N s p1 n c2 (v2 + 1)) fun y3 =>
      bif Nat.beq (kc y3) 6 then
      bnd (f_X2_size c2 (y3 + 1)) fun x4 c5 =>
      bnd (f_X2_size c5 p1) fun x6 c7 =>
      if x4 = x6 then
        bnd (f_X2_beginsWith N c7 (y3 + 1) p1) fun x8 c9 =>
        if x8 = 0 then
          f_X9_find_2 N s p1 n c9 (v2 + 1)
        else
          some (v2, c9)
      else
        f_X9_find_2 N s p1 n c7 (v2 + 1)
      else none
noncomputable def f_X9_find (N : Nat) (c : hS) (s : Nat) (p1 : Nat) : Option (Int32 × hS) :=
  f_X9_find_2 N s p1 N c 0
noncomputable def f_X9_hasRoomFor (N : Nat) (c : hS) (s : Nat) (p1 : Nat) : Option (Int32 × hS) :=
  if c.1 s 1 < 16 then
    some (1, c)
  else
    bnd (f_X9_find N c s p1) fun x1 c2 =>
    if x1 = (-1) then
      some (0, c2)
    else
      some (1, c2)
noncomputable def f_X2_liesUnder (N : Nat) (c : hS) (b : Nat) (p1 : Nat) : Option (Int32 × hS) :=
  if c.1 p1 1 = 0 then
    some (1, c)
  else
    if c.1 b 1 ≤ ((c.1 p1 1) + 1) then
      some (0, c)
    else
      bnd (f_X2_get c b (c.1 p1 1)) fun x1 c2 =>
      if x1 = 47 then
        bnd (f_X2_beginsWith N c2 b p1) fun x3 c4 =>
        if x3 = 0 then
          some (0, c4)
        else
          some (1, c4)
      else
        some (0, c2)
noncomputable def f_X9_isInTheWay_43 (N : Nat) (s : Nat) (p1 : Nat) (p2 : Int32) (k2 : hS → Int32 → Option (Int32 × hS)) (c : hS) (v3 : Int32) (v4 : Nat) : Option (Int32 × hS) :=
  if c.1 v4 2 = 0 then
    bnd (f_X2_liesUnder N c p1 (v4 + 1)) fun x1 c2 =>
    if x1 = 0 then
      k2 c2 (v3 + 1)
    else
      some (1, c2)
  else
    k2 c (v3 + 1)
noncomputable def f_X9_isInTheWay_2 (N : Nat) (s : Nat) (p1 : Nat) (p2 : Int32) : Nat → hS → Int32 → Option (Int32 × hS)
  | 0, _, _ => none
  | n + 1, c, v3 =>
  if c.1 s 1 ≤ v3 then
    some (0, c)
  else
    bnd (f_X9_member c s v3) fun x1 c2 =>
    opt x1 (
      f_X9_isInTheWay_2 N s p1 p2 n c2 (v3 + 1)) fun y3 =>
      bif Nat.beq (kc y3) 6 then
      if p2 = 0 then
        bnd (f_X2_liesUnder N c2 (y3 + 1) p1) fun x4 c5 =>
        if x4 = 0 then
          f_X9_isInTheWay_43 N s p1 p2 (f_X9_isInTheWay_2 N s p1 p2 n) c5 v3 y3
        else
          some (1, c5)
      else
        f_X9_isInTheWay_43 N s p1 p2 (f_X9_isInTheWay_2 N s p1 p2 n) c2 v3 y3
      else none
noncomputable def f_X9_isInTheWay (N : Nat) (c : hS) (s : Nat) (p1 : Nat) (p2 : Int32) : Option (Int32 × hS) :=
  f_X9_isInTheWay_2 N s p1 p2 N c 0
noncomputable def f_X2_add (c : hS) (b : Nat) (p1 : Int32) : Option (Unit × hS) :=
  if c.1 b 1 < 0 then
    some ((), c)
  else
    if (Int32.ofNat (ln (b + 1))) ≤ c.1 b 1 then
      some ((), c)
    else
      bif j_in (c.1 b 1) (ln (b + 1)) then
      st1 (sI c (b + 1) (c.1 b 1).toNatClampNeg (p1 &&& 255)) fun c1 =>
      st1 (sI c1 b 1 ((c1.1 b 1) + 1)) fun c2 =>
      some ((), c2)
      else none
noncomputable def f_X2_addRow_3 (N : Nat) (b : Nat) (p1 : Nat) (p2 : Int32) (p3 : Int32) : Nat → hS → Int32 → Option (Unit × hS)
  | 0, _, _ => none
  | n + 1, c, v4 =>
  if p3 ≤ v4 then
    some ((), c)
  else
    bnd (f_X2_get c p1 v4) fun x1 c2 =>
    bnd (f_X2_add c2 b x1) fun _ c3 =>
    f_X2_addRow_3 N b p1 p2 p3 n c3 (v4 + 1)
noncomputable def f_X2_addRow (N : Nat) (c : hS) (b : Nat) (p1 : Nat) (p2 : Int32) (p3 : Int32) : Option (Unit × hS) :=
  f_X2_addRow_3 N b p1 p2 p3 N c p2
noncomputable def f_X2_cutTo (c : hS) (b : Nat) (p1 : Int32) : Option (Unit × hS) :=
  if p1 < 0 then
    some ((), c)
  else
    if c.1 b 1 ≤ p1 then
      some ((), c)
    else
      st1 (sI c b 1 p1) fun c1 =>
      some ((), c1)
noncomputable def f_X9_drop_54 (N : Nat) (s : Nat) (p1 : Int32) (c : hS) (v2 : Nat) : Option (Unit × hS) :=
  st1 (sI c s 1 ((c.1 s 1) - 1)) fun c1 =>
  if c1.1 s 1 < 0 then
    some ((), c1)
  else
    if (Int32.ofNat (ln (s + 1))) ≤ c1.1 s 1 then
      some ((), c1)
    else
      bif j_in (c1.1 s 1) (ln (s + 1)) then
      st1 (sR c1 (s + 1) (c1.1 s 1).toNatClampNeg v2) fun c2 =>
      some ((), c2)
      else none
noncomputable def f_X9_drop_13 (N : Nat) (s : Nat) (p1 : Int32) : Nat → hS → Nat → Int32 → Option (Unit × hS)
  | 0, _, _, _ => none
  | n + 1, c, v2, v3 =>
  if c.1 s 1 ≤ (v3 + 1) then
    f_X9_drop_54 N s p1 c v2
  else
    if (Int32.ofNat (ln (s + 1))) ≤ (v3 + 1) then
      f_X9_drop_54 N s p1 c v2
    else
      bif j_in (v3 + 1) (ln (s + 1)) then
      bif Nat.beq (kc (c.2.2 (s + 1) (v3 + 1).toNatClampNeg)) 6 then
      bif j_in v3 (ln (s + 1)) then
      st1 (sR c (s + 1) v3.toNatClampNeg (c.2.2 (s + 1) (v3 + 1).toNatClampNeg)) fun c2 =>
      f_X9_drop_13 N s p1 n c2 v2 (v3 + 1)
      else none
      else none
      else none
noncomputable def f_X9_drop (N : Nat) (c : hS) (s : Nat) (p1 : Int32) : Option (Unit × hS) :=
  bnd (f_X9_member c s p1) fun x1 c2 =>
  opt x1 (
    some ((), c2)) fun y3 =>
    bif Nat.beq (kc y3) 6 then
    f_X9_drop_13 N s p1 N c2 y3 p1
    else none
noncomputable def f_X9_take (N : Nat) (c : hS) (s : Nat) (p1 : Nat) (p2 : Int32) (p3 : Nat) (p4 : Int32) (p5 : Int32) : Option (Unit × hS) :=
  bnd (f_X9_find N c s p1) fun x1 c2 =>
  bnd (f_X9_drop N c2 s x1) fun _ c3 =>
  if c3.1 s 1 < 0 then
    some ((), c3)
  else
    if c3.1 s 1 < (Int32.ofNat (ln (s + 1))) then
      st1 (sI c3 s 1 ((c3.1 s 1) + 1)) fun c4 =>
      bnd (f_X9_member c4 s ((c4.1 s 1) - 1)) fun x5 c6 =>
      opt x5 (
        some ((), c6)) fun y7 =>
        bif Nat.beq (kc y7) 6 then
        bnd (f_X2_cutTo c6 (y7 + 1) 0) fun _ c8 =>
        bnd (f_X2_size c8 p1) fun x9 c10 =>
        bnd (f_X2_addRow N c10 (y7 + 1) p1 0 x9) fun _ c11 =>
        bnd (f_X2_cutTo c11 (y7 + 3) 0) fun _ c12 =>
        bnd (f_X2_addRow N c12 (y7 + 3) p3 p4 p5) fun _ c13 =>
        bif j_b p2 then
        st1 (sI c13 y7 2 p2) fun c14 =>
        some ((), c14)
        else none
        else none
    else
      some ((), c3)
noncomputable def f_X0_arrives_23 (N : Nat) (p1 : Nat) (p2 : Int32) (p3 : Nat) (p4 : Int32) (p5 : Int32) (p6 : Int32) (c : hS) : Option (Int32 × hS) :=
  bnd (f_X6_tell c 11 p6) fun x1 c2 =>
  bif j_b x1 then some (x1, c2) else none
noncomputable def f_X0_arrives (N : Nat) (c : hS) (p1 : Nat) (p2 : Int32) (p3 : Nat) (p4 : Int32) (p5 : Int32) (p6 : Int32) : Option (Int32 × hS) :=
  bnd (f_X9_isInTheWay N c p1 5 p2) fun x1 c2 =>
  if x1 = 0 then
    bnd (f_X9_hasRoomFor N c2 p1 5) fun x3 c4 =>
    if x3 = 0 then
      f_X0_arrives_23 N p1 p2 p3 p4 p5 p6 c4
    else
      bnd (f_X9_take N c4 p1 5 p2 p3 p4 p5) fun _ c5 =>
      some (1, c5)
  else
    f_X0_arrives_23 N p1 p2 p3 p4 p5 p6 c2
noncomputable def f_X0_addTitle (N : Nat) (c : hS) (p1 : Nat) (p2 : Int32) : Option (Unit × hS) :=
  bnd (f_X2_size c (p1 + 1)) fun x1 c2 =>
  bnd (f_X2_addRow N c2 3 (p1 + 1) 0 x1) fun _ c3 =>
  if p2 = 0 then
    some ((), c3)
  else
    if c3.1 p1 2 = 0 then
      some ((), c3)
    else
      bnd (f_X2_add c3 3 47) fun _ c4 =>
      some ((), c4)
noncomputable def f_X11_roundedUp_12 (p0 : Int32) (p1 : Int32) (c : hS) (w0 : Int32) : Option (Int32 × hS) :=
  if w0 = 0 then
    some (p0, c)
  else
    some (((p0 - w0) + p1), c)
noncomputable def f_X11_roundedUp (c : hS) (p0 : Int32) (p1 : Int32) : Option (Int32 × hS) :=
  if 1 ≤ p1 then
    if p1 = 0 then none else
    f_X11_roundedUp_12 p0 p1 c (j_rem p0 p1)
  else
    f_X11_roundedUp_12 p0 p1 c 0
noncomputable def f_X1_isEmptyBlock_2 (N : Nat) (p1 : Int32) : Nat → hS → Int32 → Option (Int32 × hS)
  | 0, _, _ => none
  | n + 1, c, v2 =>
  if 512 ≤ v2 then
    some (1, c)
  else
    bnd (f_X2_get c 3 (p1 + v2)) fun x1 c2 =>
    if x1 = 0 then
      f_X1_isEmptyBlock_2 N p1 n c2 (v2 + 1)
    else
      some (0, c2)
noncomputable def f_X1_isEmptyBlock (N : Nat) (c : hS) (p1 : Int32) : Option (Int32 × hS) :=
  f_X1_isEmptyBlock_2 N p1 N c 0
noncomputable def f_X1_areDigits_39 (N : Nat) (p1 : Int32) (p2 : Int32) (p3 : Int32) (c : hS) (v4 : Int32) : Option (Int32 × hS) :=
  bnd (f_X6_tell c p3 v4) fun x1 c2 =>
  bif j_b x1 then some (x1, c2) else none
noncomputable def f_X1_areDigits_3 (N : Nat) (p1 : Int32) (p2 : Int32) (p3 : Int32) : Nat → hS → Int32 → Option (Int32 × hS)
  | 0, _, _ => none
  | n + 1, c, v4 =>
  if (p1 + p2) ≤ v4 then
    some (1, c)
  else
    bnd (f_X2_get c 3 v4) fun x1 c2 =>
    if x1 < 48 then
      f_X1_areDigits_39 N p1 p2 p3 c2 v4
    else
      bnd (f_X2_get c2 3 v4) fun x3 c4 =>
      if x3 ≤ 55 then
        f_X1_areDigits_3 N p1 p2 p3 n c4 (v4 + 1)
      else
        f_X1_areDigits_39 N p1 p2 p3 c4 v4
noncomputable def f_X1_areDigits (N : Nat) (c : hS) (p1 : Int32) (p2 : Int32) (p3 : Int32) : Option (Int32 × hS) :=
  f_X1_areDigits_3 N p1 p2 p3 N c p1
noncomputable def f_X1_isOctal (N : Nat) (c : hS) (p1 : Int32) (p2 : Int32) : Option (Int32 × hS) :=
  bnd (f_X1_areDigits N c p1 (p2 - 1) 6) fun x1 c2 =>
  if x1 = 0 then
    some (0, c2)
  else
    bnd (f_X2_get c2 3 ((p1 + p2) - 1)) fun x3 c4 =>
    if x3 = 0 then
      some (1, c4)
    else
      bnd (f_X6_tell c4 6 ((p1 + p2) - 1)) fun x5 c6 =>
      if x5 = 0 then
        some (0, c6)
      else
        some (1, c6)
noncomputable def f_X1_octal_5 (N : Nat) (p1 : Int32) (p2 : Int32) : Nat → hS → Int64 → Int32 → Option (Int64 × hS)
  | 0, _, _, _ => none
  | n + 1, c, v3, v5 =>
  if (p1 + p2) ≤ v5 then
    some (v3, c)
  else
    bnd (f_X2_get c 3 v5) fun x1 c2 =>
    f_X1_octal_5 N p1 p2 n c2 ((j_lshl v3 3) ||| ((x1 &&& 7).toInt64)) (v5 + 1)
noncomputable def f_X1_octal (N : Nat) (c : hS) (p1 : Int32) (p2 : Int32) : Option (Int64 × hS) :=
  f_X1_octal_5 N p1 p2 N c 0 p1
noncomputable def f_X1_isSorted_57 (N : Nat) (p1 : Int32) (c : hS) (w0 : Int32) : Option (Int32 × hS) :=
  bnd (f_X1_octal N c (p1 + 124) 11) fun x1 c2 =>
  if j_cmp x1 w0.toInt64 ≤ 0 then
    some (1, c2)
  else
    bnd (f_X6_tell c2 7 (p1 + 124)) fun x3 c4 =>
    if x3 = 0 then
      some (0, c4)
    else
      some (1, c4)
noncomputable def f_X1_isSorted_44 (N : Nat) (p1 : Int32) (c : hS) (v2 : Int32) : Option (Int32 × hS) :=
  if v2 = 53 then
    f_X1_isSorted_57 N p1 c 0
  else
    f_X1_isSorted_57 N p1 c 400
noncomputable def f_X1_isSorted (N : Nat) (c : hS) (p1 : Int32) : Option (Int32 × hS) :=
  bnd (f_X2_get c 3 (p1 + 156)) fun x1 c2 =>
  if x1 = 48 then
    f_X1_isSorted_44 N p1 c2 x1
  else
    if x1 = 0 then
      f_X1_isSorted_44 N p1 c2 x1
    else
      if x1 = 53 then
        f_X1_isSorted_44 N p1 c2 x1
      else
        bnd (f_X6_tell c2 8 (p1 + 156)) fun x3 c4 =>
        bif j_b x3 then some (x3, c4) else none
noncomputable def f_X1_sumOf_31 (N : Nat) (p1 : Int32) (k4 : hS → Int32 → Int32 → Option (Int32 × hS)) (c : hS) (v3 : Int32) (w0 : Int32) : Option (Int32 × hS) :=
  bnd (f_X2_get c 3 (p1 + v3)) fun x1 c2 =>
  k4 c2 (w0 + x1) (v3 + 1)
noncomputable def f_X1_sumOf_4 (N : Nat) (p1 : Int32) : Nat → hS → Int32 → Int32 → Option (Int32 × hS)
  | 0, _, _, _ => none
  | n + 1, c, v2, v3 =>
  if 512 ≤ v3 then
    some (v2, c)
  else
    if v3 < 148 then
      f_X1_sumOf_31 N p1 (f_X1_sumOf_4 N p1 n) c v3 v2
    else
      if 156 ≤ v3 then
        f_X1_sumOf_31 N p1 (f_X1_sumOf_4 N p1 n) c v3 v2
      else
        f_X1_sumOf_4 N p1 n c (v2 + 32) (v3 + 1)
noncomputable def f_X1_sumOf (N : Nat) (c : hS) (p1 : Int32) : Option (Int32 × hS) :=
  f_X1_sumOf_4 N p1 N c 0 0
noncomputable def f_X1_isSummed (N : Nat) (c : hS) (p1 : Int32) : Option (Int32 × hS) :=
  bnd (f_X1_areDigits N c (p1 + 148) 6 3) fun x1 c2 =>
  if x1 = 0 then
    some (0, c2)
  else
    bnd (f_X2_get c2 3 ((p1 + 148) + 6)) fun x3 c4 =>
    if x3 = 0 then
      bnd (f_X2_get c4 3 ((p1 + 148) + 7)) fun x5 c6 =>
      if x5 = 32 then
        bnd (f_X1_octal N c6 (p1 + 148) 6) fun x7 c8 =>
        bnd (f_X1_sumOf N c8 p1) fun x9 c10 =>
        if j_cmp x7 x9.toInt64 = 0 then
          some (1, c10)
        else
          bnd (f_X6_tell c10 4 (p1 + 148)) fun x11 c12 =>
          if x11 = 0 then
            some (0, c12)
          else
            some (1, c12)
      else
        bnd (f_X6_tell c6 3 ((p1 + 148) + 7)) fun x13 c14 =>
        bif j_b x13 then some (x13, c14) else none
    else
      bnd (f_X6_tell c4 3 ((p1 + 148) + 6)) fun x15 c16 =>
      bif j_b x15 then some (x15, c16) else none
noncomputable def f_X1_isHead (N : Nat) (c : hS) (p1 : Int32) : Option (Int32 × hS) :=
  bnd (f_X1_isSummed N c p1) fun x1 c2 =>
  if x1 = 0 then
    some (0, c2)
  else
    bnd (f_X0_isMarked N c2 (p1 + 257) sa1 5) fun x3 c4 =>
    if x3 = 0 then
      some (0, c4)
    else
      bnd (f_X1_isOctal N c4 (p1 + 100) 8) fun x5 c6 =>
      if x5 = 0 then
        some (0, c6)
      else
        bnd (f_X1_isOctal N c6 (p1 + 108) 8) fun x7 c8 =>
        if x7 = 0 then
          some (0, c8)
        else
          bnd (f_X1_isOctal N c8 (p1 + 116) 8) fun x9 c10 =>
          if x9 = 0 then
            some (0, c10)
          else
            bnd (f_X1_isOctal N c10 (p1 + 124) 12) fun x11 c12 =>
            if x11 = 0 then
              some (0, c12)
            else
              bnd (f_X1_isOctal N c12 (p1 + 136) 12) fun x13 c14 =>
              if x13 = 0 then
                some (0, c14)
              else
                bnd (f_X1_isSorted N c14 p1) fun x15 c16 =>
                if x15 = 0 then
                  some (0, c16)
                else
                  some (1, c16)
noncomputable def f_X1_addToPath_2 (N : Nat) (p1 : Int32) (p2 : Int32) : Nat → hS → Int32 → Option (Unit × hS)
  | 0, _, _ => none
  | n + 1, c, v3 =>
  if (p1 + p2) ≤ v3 then
    some ((), c)
  else
    bnd (f_X2_get c 3 v3) fun x1 c2 =>
    if x1 = 0 then
      some ((), c2)
    else
      bnd (f_X2_get c2 3 v3) fun x3 c4 =>
      bnd (f_X2_add c4 5 x3) fun _ c5 =>
      f_X1_addToPath_2 N p1 p2 n c5 (v3 + 1)
noncomputable def f_X1_addToPath (N : Nat) (c : hS) (p1 : Int32) (p2 : Int32) : Option (Unit × hS) :=
  f_X1_addToPath_2 N p1 p2 N c p1
noncomputable def f_X1_spell_39 (N : Nat) (p1 : Int32) (p2 : Int32) (c : hS) : Option (Unit × hS) :=
  bnd (f_X1_addToPath N c p1 100) fun _ c1 =>
  bnd (f_X2_size c1 5) fun x2 c3 =>
  if p2 = 0 then
    some ((), c3)
  else
    bnd (f_X2_get c3 5 (x2 - 1)) fun x4 c5 =>
    if x4 = 47 then
      bnd (f_X2_cutTo c5 5 (x2 - 1)) fun _ c6 =>
      some ((), c6)
    else
      some ((), c5)
noncomputable def f_X1_spell (N : Nat) (c : hS) (p1 : Int32) (p2 : Int32) : Option (Unit × hS) :=
  bnd (f_X2_cutTo c 5 0) fun _ c1 =>
  bnd (f_X1_addToPath N c1 (p1 + 345) 155) fun _ c2 =>
  bnd (f_X2_size c2 5) fun x3 c4 =>
  if x3 ≤ 0 then
    f_X1_spell_39 N p1 p2 c4
  else
    bnd (f_X2_add c4 5 47) fun _ c5 =>
    f_X1_spell_39 N p1 p2 c5
noncomputable def f_X1_takeIn_92 (N : Nat) (p1 : Nat) (k4 : hS → Int32 → Int32 → Option (Int32 × hS)) (c : hS) (v2 : Int32) (v3 : Int32) (w0 : Int32) : Option (Int32 × hS) :=
  bnd (f_X1_octal N c (v2 + 124) 11) fun x1 c2 =>
  bnd (f_X11_roundedUp c2 x1.toInt32 512) fun x3 c4 =>
  bnd (f_X1_spell N c4 v2 w0) fun _ c5 =>
  bnd (f_X0_isNamed N c5 v2) fun x6 c7 =>
  if x6 = 0 then
    some (0, c7)
  else
    bnd (f_X0_reaches c7 ((v2 + 512) + x3)) fun x8 c9 =>
    if x8 = 0 then
      some (0, c9)
    else
      bnd (f_X0_arrives N c9 p1 w0 3 (v2 + 512) ((v2 + 512) + x1.toInt32) v2) fun x10 c11 =>
      if x10 = 0 then
        some (0, c11)
      else
        k4 c11 ((v2 + 512) + x3) (v3 + 1)
noncomputable def f_X1_takeIn_184 (N : Nat) (p1 : Nat) (c : hS) : Option (Int32 × hS) :=
  bnd (f_X2_size c 3) fun x1 c2 =>
  bnd (f_X6_tell c2 1 x1) fun x3 c4 =>
  bif j_b x3 then some (x3, c4) else none
noncomputable def f_X1_takeIn_4 (N : Nat) (p1 : Nat) : Nat → hS → Int32 → Int32 → Option (Int32 × hS)
  | 0, _, _, _ => none
  | n + 1, c, v2, v3 =>
  if 20000 ≤ v3 then
    f_X1_takeIn_184 N p1 c
  else
    bnd (f_X2_size c 3) fun x1 c2 =>
    if x1 < (v2 + 512) then
      f_X1_takeIn_184 N p1 c2
    else
      bnd (f_X1_isEmptyBlock N c2 v2) fun x3 c4 =>
      if x3 = 0 then
        bnd (f_X1_isHead N c4 v2) fun x5 c6 =>
        if x5 = 0 then
          some (0, c6)
        else
          bnd (f_X2_get c6 3 (v2 + 156)) fun x7 c8 =>
          if x7 = 53 then
            f_X1_takeIn_92 N p1 (f_X1_takeIn_4 N p1 n) c8 v2 v3 1
          else
            f_X1_takeIn_92 N p1 (f_X1_takeIn_4 N p1 n) c8 v2 v3 0
      else
        bnd (f_X0_reaches c4 (v2 + 1024)) fun x9 c10 =>
        if x9 = 0 then
          some (0, c10)
        else
          bnd (f_X0_isZeroFrom N c10 v2) fun x11 c12 =>
          if x11 = 0 then
            some (0, c12)
          else
            some (1, c12)
noncomputable def f_X1_takeIn (N : Nat) (c : hS) (p1 : Nat) : Option (Int32 × hS) :=
  f_X1_takeIn_4 N p1 N c 0 0
noncomputable def f_X1_addOctal_4 (N : Nat) (p1 : Int32) (p2 : Int32) : Nat → hS → Int32 → Option (Unit × hS)
  | 0, _, _ => none
  | n + 1, c, v3 =>
  if v3 < 0 then
    some ((), c)
  else
    bnd (f_X2_add c 3 (48 + ((j_ushr p1 (3 * v3)) &&& 7))) fun _ c1 =>
    f_X1_addOctal_4 N p1 p2 n c1 (v3 + (-1))
noncomputable def f_X1_addOctal (N : Nat) (c : hS) (p1 : Int32) (p2 : Int32) : Option (Unit × hS) :=
  f_X1_addOctal_4 N p1 p2 N c (p2 - 1)
noncomputable def f_X2_set (c : hS) (b : Nat) (p1 : Int32) (p2 : Int32) : Option (Unit × hS) :=
  if p1 < 0 then
    some ((), c)
  else
    if c.1 b 1 ≤ p1 then
      some ((), c)
    else
      if (Int32.ofNat (ln (b + 1))) ≤ p1 then
        some ((), c)
      else
        bif j_in p1 (ln (b + 1)) then
        st1 (sI c (b + 1) p1.toNatClampNeg (p2 &&& 255)) fun c1 =>
        some ((), c1)
        else none
noncomputable def f_X1_setSum_8 (N : Nat) (p1 : Int32) : Nat → hS → Int32 → Int32 → Option (Unit × hS)
  | 0, _, _, _ => none
  | n + 1, c, v2, v3 =>
  if 6 ≤ v3 then
    some ((), c)
  else
    bnd (f_X2_set c 3 ((p1 + 148) + v3) (48 + ((j_ushr v2 (3 * (5 - v3))) &&& 7))) fun _ c1 =>
    f_X1_setSum_8 N p1 n c1 v2 (v3 + 1)
noncomputable def f_X1_setSum (N : Nat) (c : hS) (p1 : Int32) : Option (Unit × hS) :=
  bnd (f_X1_sumOf N c p1) fun x1 c2 =>
  f_X1_setSum_8 N p1 N c2 x1 0
noncomputable def f_X2_addMark_2 (N : Nat) (b : Nat) (p1 : List Int32) : Nat → hS → Int32 → Option (Unit × hS)
  | 0, _, _ => none
  | n + 1, c, v2 =>
  if (Int32.ofNat p1.length) ≤ v2 then
    some ((), c)
  else
    bif j_in v2 p1.length then
    bnd (f_X2_add c b (p1.getD v2.toNatClampNeg 0)) fun _ c1 =>
    f_X2_addMark_2 N b p1 n c1 (v2 + 1)
    else none
noncomputable def f_X2_addMark (N : Nat) (c : hS) (b : Nat) (p1 : List Int32) : Option (Unit × hS) :=
  f_X2_addMark_2 N b p1 N c 0
noncomputable def f_X2_addText_2 (N : Nat) (b : Nat) (p1 : List Int32) : Nat → hS → Int32 → Option (Unit × hS)
  | 0, _, _ => none
  | n + 1, c, v2 =>
  if (Int32.ofNat p1.length) ≤ v2 then
    some ((), c)
  else
    bif j_in v2 p1.length then
    bnd (f_X2_add c b (p1.getD v2.toNatClampNeg 0)) fun _ c1 =>
    f_X2_addText_2 N b p1 n c1 (v2 + 1)
    else none
noncomputable def f_X2_addText (N : Nat) (c : hS) (b : Nat) (p1 : List Int32) : Option (Unit × hS) :=
  f_X2_addText_2 N b p1 N c 0
noncomputable def f_X2_addZeros_2 (N : Nat) (b : Nat) (p1 : Int32) : Nat → hS → Int32 → Option (Unit × hS)
  | 0, _, _ => none
  | n + 1, c, v2 =>
  if p1 ≤ v2 then
    some ((), c)
  else
    bnd (f_X2_add c b 0) fun _ c1 =>
    f_X2_addZeros_2 N b p1 n c1 (v2 + 1)
noncomputable def f_X2_addZeros (N : Nat) (c : hS) (b : Nat) (p1 : Int32) : Option (Unit × hS) :=
  f_X2_addZeros_2 N b p1 N c 0
noncomputable def f_X1_addHead_176 (N : Nat) (p1 : Nat) (c : hS) (v2 : Int32) (w0 : Int32) : Option (Unit × hS) :=
  bnd (f_X2_add c 3 w0) fun _ c1 =>
  bnd (f_X2_size c1 3) fun x2 c3 =>
  bnd (f_X2_addZeros N c3 3 ((v2 + 257) - x2)) fun _ c4 =>
  bnd (f_X2_addMark N c4 3 sa1) fun _ c5 =>
  bnd (f_X2_size c5 3) fun x6 c7 =>
  bnd (f_X2_addZeros N c7 3 ((v2 + 329) - x6)) fun _ c8 =>
  bnd (f_X2_addText N c8 3 tx17) fun _ c9 =>
  bnd (f_X2_add c9 3 0) fun _ c10 =>
  bnd (f_X2_addText N c10 3 tx17) fun _ c11 =>
  bnd (f_X2_size c11 3) fun x12 c13 =>
  bnd (f_X2_addZeros N c13 3 ((v2 + 512) - x12)) fun _ c14 =>
  bnd (f_X1_setSum N c14 v2) fun _ c15 =>
  some ((), c15)
noncomputable def f_X1_addHead_51 (N : Nat) (p1 : Nat) (c : hS) (v2 : Int32) (w0 : List Int32) : Option (Unit × hS) :=
  bnd (f_X2_addText N c 3 w0) fun _ c1 =>
  bnd (f_X2_add c1 3 0) fun _ c2 =>
  bnd (f_X2_addText N c2 3 tx17) fun _ c3 =>
  bnd (f_X2_add c3 3 0) fun _ c4 =>
  bnd (f_X2_addText N c4 3 tx17) fun _ c5 =>
  bnd (f_X2_add c5 3 0) fun _ c6 =>
  bnd (f_X2_size c6 (p1 + 3)) fun x7 c8 =>
  bnd (f_X1_addOctal N c8 x7 11) fun _ c9 =>
  bnd (f_X2_add c9 3 0) fun _ c10 =>
  bnd (f_X1_addOctal N c10 0 11) fun _ c11 =>
  bnd (f_X2_add c11 3 0) fun _ c12 =>
  bnd (f_X2_addText N c12 3 tx18) fun _ c13 =>
  bnd (f_X2_add c13 3 0) fun _ c14 =>
  bnd (f_X2_add c14 3 32) fun _ c15 =>
  if c15.1 p1 2 = 0 then
    f_X1_addHead_176 N p1 c15 v2 48
  else
    f_X1_addHead_176 N p1 c15 v2 53
noncomputable def f_X1_addHead (N : Nat) (c : hS) (p1 : Nat) : Option (Unit × hS) :=
  bnd (f_X2_size c 3) fun x1 c2 =>
  bnd (f_X0_addTitle N c2 p1 1) fun _ c3 =>
  bnd (f_X2_size c3 3) fun x4 c5 =>
  bnd (f_X2_addZeros N c5 3 ((x1 + 100) - x4)) fun _ c6 =>
  if c6.1 p1 2 = 0 then
    f_X1_addHead_51 N p1 c6 x1 tx16
  else
    f_X1_addHead_51 N p1 c6 x1 tx15
noncomputable def f_X9_size (c : hS) (s : Nat) : Option (Int32 × hS) :=
  some (c.1 s 1, c)
noncomputable def f_X1_layOut_2 (N : Nat) (p1 : Nat) (p2 : Int32) : Nat → hS → Int32 → Option (Unit × hS)
  | 0, _, _ => none
  | n + 1, c, v3 =>
  bnd (f_X9_size c p1) fun x1 c2 =>
  if x1 ≤ v3 then
    bnd (f_X2_addZeros N c2 3 1024) fun _ c3 =>
    some ((), c3)
  else
    bnd (f_X9_member c2 p1 v3) fun x4 c5 =>
    opt x4 (
      f_X1_layOut_2 N p1 p2 n c5 (v3 + 1)) fun y6 =>
      bif Nat.beq (kc y6) 6 then
      bnd (f_X1_addHead N c5 y6) fun _ c7 =>
      bnd (f_X2_size c7 (y6 + 3)) fun x8 c9 =>
      bnd (f_X2_addRow N c9 3 (y6 + 3) 0 x8) fun _ c10 =>
      bnd (f_X11_roundedUp c10 x8 512) fun x11 c12 =>
      bnd (f_X2_addZeros N c12 3 (x11 - x8)) fun _ c13 =>
      f_X1_layOut_2 N p1 p2 n c13 (v3 + 1)
      else none
noncomputable def f_X1_layOut (N : Nat) (c : hS) (p1 : Nat) (p2 : Int32) : Option (Unit × hS) :=
  f_X1_layOut_2 N p1 p2 N c 0
noncomputable def f_X2_has (c : hS) (b : Nat) (p1 : Int32) : Option (Int32 × hS) :=
  if p1 < 0 then
    some (0, c)
  else
    if c.1 b 1 ≤ p1 then
      some (0, c)
    else
      some (1, c)
noncomputable def f_X2_addBig_5 (N : Nat) (b : Nat) (p1 : Int64) (p3 : Int32) : Nat → hS → Int32 → Option (Unit × hS)
  | 0, _, _ => none
  | n + 1, c, v4 =>
  if v4 < 0 then
    some ((), c)
  else
    bnd (f_X2_add c b ((j_lushr p1 (8 * v4)).toInt32)) fun _ c1 =>
    f_X2_addBig_5 N b p1 p3 n c1 (v4 + (-1))
noncomputable def f_X2_addBig (N : Nat) (c : hS) (b : Nat) (p1 : Int64) (p3 : Int32) : Option (Unit × hS) :=
  f_X2_addBig_5 N b p1 p3 N c (p3 - 1)
noncomputable def f_X2_addLittle_3 (N : Nat) (b : Nat) (p1 : Int64) (p3 : Int32) : Nat → hS → Int32 → Option (Unit × hS)
  | 0, _, _ => none
  | n + 1, c, v4 =>
  if p3 ≤ v4 then
    some ((), c)
  else
    bnd (f_X2_add c b ((j_lushr p1 (8 * v4)).toInt32)) fun _ c1 =>
    f_X2_addLittle_3 N b p1 p3 n c1 (v4 + 1)
noncomputable def f_X2_addLittle (N : Nat) (c : hS) (b : Nat) (p1 : Int64) (p3 : Int32) : Option (Unit × hS) :=
  f_X2_addLittle_3 N b p1 p3 N c 0
noncomputable def f_X2_little_7 (N : Nat) (b : Nat) (p1 : Int32) (p2 : Int32) : Nat → hS → Int64 → Int32 → Option (Int64 × hS)
  | 0, _, _, _ => none
  | n + 1, c, v3, v5 =>
  if v5 < 0 then
    some (v3, c)
  else
    bnd (f_X2_get c b (p1 + v5)) fun x1 c2 =>
    f_X2_little_7 N b p1 p2 n c2 ((j_lshl v3 8) ||| x1.toInt64) (v5 + (-1))
noncomputable def f_X2_little (N : Nat) (c : hS) (b : Nat) (p1 : Int32) (p2 : Int32) : Option (Int64 × hS) :=
  f_X2_little_7 N b p1 p2 N c 0 (p2 - 1)
noncomputable def f_X2_isText_15 (N : Nat) (b : Nat) (p1 : List Int32) : Nat → hS → Int32 → Option (Int32 × hS)
  | 0, _, _ => none
  | n + 1, c, v2 =>
  if (Int32.ofNat p1.length) ≤ v2 then
    some (1, c)
  else
    bnd (f_X2_get c b v2) fun x1 c2 =>
    bif j_in v2 p1.length then
    if x1 = p1.getD v2.toNatClampNeg 0 then
      f_X2_isText_15 N b p1 n c2 (v2 + 1)
    else
      some (0, c2)
    else none
noncomputable def f_X2_isText (N : Nat) (c : hS) (b : Nat) (p1 : List Int32) : Option (Int32 × hS) :=
  if c.1 b 1 = (Int32.ofNat p1.length) then
    f_X2_isText_15 N b p1 N c 0
  else
    some (0, c)
noncomputable def f_X3_longest (c : hS) (d : Nat) : Option (Int32 × hS) :=
  some (c.1 d 4, c)
noncomputable def f_X3_amount (c : hS) (d : Nat) (p1 : Int32) : Option (Int32 × hS) :=
  if p1 ≤ 0 then
    some (0, c)
  else
    if (Int32.ofNat (ln (d + 1))) ≤ p1 then
      some (0, c)
    else
      bif j_in p1 (ln (d + 1)) then
      some (c.1 (d + 1) p1.toNatClampNeg, c)
      else none
noncomputable def f_X3_symbol (c : hS) (d : Nat) (p1 : Int32) : Option (Int32 × hS) :=
  if p1 < 0 then
    some ((-1), c)
  else
    if c.1 d 3 ≤ p1 then
      some ((-1), c)
    else
      if (Int32.ofNat (ln (d + 3))) ≤ p1 then
        some ((-1), c)
      else
        bif j_in p1 (ln (d + 3)) then
        some (c.1 (d + 3) p1.toNatClampNeg, c)
        else none
noncomputable def f_X3_placeLengths_12 (N : Nat) (d : Nat) : Nat → hS → Int32 → Option (Unit × hS)
  | 0, _, _ => none
  | n + 1, c, v1 =>
  if (Int32.ofNat (ln (d + 1))) ≤ v1 then
    some ((), c)
  else
    if (Int32.ofNat (ln (d + 2))) ≤ v1 then
      some ((), c)
    else
      bif j_in v1 (ln (d + 2)) then
      st1 (sI c (d + 2) v1.toNatClampNeg (c.1 d 3)) fun c1 =>
      bif j_in v1 (ln (d + 1)) then
      st1 (sI c1 d 3 ((c1.1 d 3) + (c1.1 (d + 1) v1.toNatClampNeg))) fun c2 =>
      bif j_in v1 (ln (d + 1)) then
      if c2.1 (d + 1) v1.toNatClampNeg ≤ 0 then
        f_X3_placeLengths_12 N d n c2 (v1 + 1)
      else
        st1 (sI c2 d 4 v1) fun c3 =>
        f_X3_placeLengths_12 N d n c3 (v1 + 1)
      else none
      else none
      else none
noncomputable def f_X3_placeLengths (N : Nat) (c : hS) (d : Nat) : Option (Unit × hS) :=
  st1 (sI c d 3 0) fun c1 =>
  st1 (sI c1 d 4 0) fun c2 =>
  f_X3_placeLengths_12 N d N c2 1
noncomputable def f_X3_placeSymbol_40 (d : Nat) (p1 : Int32) (p2 : Int32) (c : hS) : Option (Unit × hS) :=
  bif j_in p2 (ln (d + 2)) then
  bif j_in p2 (ln (d + 2)) then
  st1 (sI c (d + 2) p2.toNatClampNeg ((c.1 (d + 2) p2.toNatClampNeg) + 1)) fun c1 =>
  some ((), c1)
  else none
  else none
noncomputable def f_X3_placeSymbol (c : hS) (d : Nat) (p1 : Int32) (p2 : Int32) : Option (Unit × hS) :=
  if p2 ≤ 0 then
    some ((), c)
  else
    if (Int32.ofNat (ln (d + 2))) ≤ p2 then
      some ((), c)
    else
      bif j_in p2 (ln (d + 2)) then
      if c.1 (d + 2) p2.toNatClampNeg < 0 then
        f_X3_placeSymbol_40 d p1 p2 c
      else
        if (Int32.ofNat (ln (d + 3))) ≤ c.1 (d + 2) p2.toNatClampNeg then
          f_X3_placeSymbol_40 d p1 p2 c
        else
          bif j_in (c.1 (d + 2) p2.toNatClampNeg) (ln (d + 3)) then
          st1 (sI c (d + 3) (c.1 (d + 2) p2.toNatClampNeg).toNatClampNeg p1) fun c1 =>
          f_X3_placeSymbol_40 d p1 p2 c1
          else none
      else none
noncomputable def f_X3_order_110 (N : Nat) (d : Nat) (p2 : Int32) (p3 : Int32) : Nat → hS → Int32 → Int32 → Option (Unit × hS)
  | 0, _, _, _ => none
  | n + 1, c, v4, v5 =>
  if v4 ≤ v5 then
    some ((), c)
  else
    bif j_in v5 (ln 32) then
    bnd (f_X3_placeSymbol c d (v5 - p2) (c.1 32 v5.toNatClampNeg)) fun _ c1 =>
    f_X3_order_110 N d p2 p3 n c1 v4 (v5 + 1)
    else none
noncomputable def f_X3_order_54 (N : Nat) (d : Nat) (p2 : Int32) (p3 : Int32) : Nat → hS → Int32 → Int32 → Option (Unit × hS)
  | 0, _, _, _ => none
  | n + 1, c, v4, v5 =>
  if v4 ≤ v5 then
    bnd (f_X3_placeLengths N c d) fun _ c1 =>
    f_X3_order_110 N d p2 p3 N c1 v4 (j_max p2 0)
  else
    bif j_in v5 (ln 32) then
    if c.1 32 v5.toNatClampNeg ≤ 0 then
      f_X3_order_54 N d p2 p3 n c v4 (v5 + 1)
    else
      if (Int32.ofNat (ln (d + 1))) ≤ c.1 32 v5.toNatClampNeg then
        f_X3_order_54 N d p2 p3 n c v4 (v5 + 1)
      else
        bif j_in (c.1 32 v5.toNatClampNeg) (ln (d + 1)) then
        bif j_in (c.1 32 v5.toNatClampNeg) (ln (d + 1)) then
        st1 (sI c (d + 1) (c.1 32 v5.toNatClampNeg).toNatClampNeg ((c.1 (d + 1) (c.1 32 v5.toNatClampNeg).toNatClampNeg) + 1)) fun c2 =>
        f_X3_order_54 N d p2 p3 n c2 v4 (v5 + 1)
        else none
        else none
    else none
noncomputable def f_X3_order_3 (N : Nat) (d : Nat) (p2 : Int32) (p3 : Int32) : Nat → hS → Int32 → Option (Unit × hS)
  | 0, _, _ => none
  | n + 1, c, v4 =>
  if (Int32.ofNat (ln (d + 1))) ≤ v4 then
    f_X3_order_54 N d p2 p3 N c (j_min (j_min (p2 + p3) (p2 + (Int32.ofNat (ln (d + 3))))) (Int32.ofNat (ln 32))) (j_max p2 0)
  else
    bif j_in v4 (ln (d + 1)) then
    st1 (sI c (d + 1) v4.toNatClampNeg 0) fun c1 =>
    f_X3_order_3 N d p2 p3 n c1 (v4 + 1)
    else none
noncomputable def f_X3_order (N : Nat) (c : hS) (d : Nat) (p2 : Int32) (p3 : Int32) : Option (Unit × hS) :=
  f_X3_order_3 N d p2 p3 N c 0
noncomputable def f_X3_areComplete_4 (N : Nat) (d : Nat) : Nat → hS → Int32 → Int32 → Option (Int32 × hS)
  | 0, _, _, _ => none
  | n + 1, c, v1, v2 =>
  if (Int32.ofNat (ln (d + 1))) ≤ v2 then
    if v1 = 32768 then
      some (1, c)
    else
      some (0, c)
  else
    bif j_in v2 (ln (d + 1)) then
    f_X3_areComplete_4 N d n c (v1 + (j_shl (c.1 (d + 1) v2.toNatClampNeg) (15 - v2))) (v2 + 1)
    else none
noncomputable def f_X3_areComplete (N : Nat) (c : hS) (d : Nat) : Option (Int32 × hS) :=
  f_X3_areComplete_4 N d N c 0 1
noncomputable def f_X3_areNoneOrOneBit (c : hS) (d : Nat) : Option (Int32 × hS) :=
  if c.1 d 3 = 0 then
    some (1, c)
  else
    if c.1 d 3 = 1 then
      if c.1 d 4 = 1 then
        some (1, c)
      else
        some (0, c)
    else
      some (0, c)
noncomputable def f_X4_sortBits (c : hS) (p0 : Int64) : Option (Int32 × hS) :=
  some (((j_lushr p0 12) &&& 15).toInt32, c)
noncomputable def f_X4_digit_34 (p0 : Int32) (c : hS) : Option (Int32 × hS) :=
  if p0 < 65 then
    some ((-1), c)
  else
    if 70 < p0 then
      some ((-1), c)
    else
      some ((p0 - 55), c)
noncomputable def f_X4_digit_17 (p0 : Int32) (c : hS) : Option (Int32 × hS) :=
  if p0 < 97 then
    f_X4_digit_34 p0 c
  else
    if 102 < p0 then
      f_X4_digit_34 p0 c
    else
      some ((p0 - 87), c)
noncomputable def f_X4_digit (c : hS) (p0 : Int32) : Option (Int32 × hS) :=
  if p0 < 48 then
    f_X4_digit_17 p0 c
  else
    if 57 < p0 then
      f_X4_digit_17 p0 c
    else
      some ((p0 - 48), c)
noncomputable def f_X4_number_5 (N : Nat) (p1 : Int32) : Nat → hS → Int64 → Int32 → Option (Int64 × hS)
  | 0, _, _, _ => none
  | n + 1, c, v2, v4 =>
  if (p1 + 8) ≤ v4 then
    some (v2, c)
  else
    bnd (f_X2_get c 3 v4) fun x1 c2 =>
    bnd (f_X4_digit c2 x1) fun x3 c4 =>
    f_X4_number_5 N p1 n c4 ((j_lshl v2 4) ||| ((x3 &&& 15).toInt64)) (v4 + 1)
noncomputable def f_X4_number (N : Nat) (c : hS) (p1 : Int32) : Option (Int64 × hS) :=
  f_X4_number_5 N p1 N c 0 p1
noncomputable def f_X4_sortOf (N : Nat) (c : hS) (p1 : Int32) : Option (Int32 × hS) :=
  bnd (f_X4_number N c (p1 + 14)) fun x1 c2 =>
  bnd (f_X4_sortBits c2 x1) fun x3 c4 =>
  some (x3, c4)
noncomputable def f_X4_isDirectory (N : Nat) (c : hS) (p1 : Int32) : Option (Int32 × hS) :=
  bnd (f_X4_sortOf N c p1) fun x1 c2 =>
  bnd (f_X4_sortBits c2 16877) fun x3 c4 =>
  if x1 = x3 then
    some (1, c4)
  else
    some (0, c4)
noncomputable def f_X4_isHead_21 (N : Nat) (p1 : Int32) : Nat → hS → Int32 → Option (Int32 × hS)
  | 0, _, _ => none
  | n + 1, c, v2 =>
  if (p1 + 110) ≤ v2 then
    some (1, c)
  else
    bnd (f_X2_get c 3 v2) fun x1 c2 =>
    bnd (f_X4_digit c2 x1) fun x3 c4 =>
    if x3 = (-1) then
      bnd (f_X6_tell c4 6 v2) fun x5 c6 =>
      bif j_b x5 then some (x5, c6) else none
    else
      f_X4_isHead_21 N p1 n c4 (v2 + 1)
noncomputable def f_X4_isHead (N : Nat) (c : hS) (p1 : Int32) : Option (Int32 × hS) :=
  bnd (f_X0_isMarked N c p1 sa2 3) fun x1 c2 =>
  if x1 = 0 then
    some (0, c2)
  else
    f_X4_isHead_21 N p1 N c2 (p1 + (Int32.ofNat sa2.length))
noncomputable def f_X4_isSized (N : Nat) (c : hS) (p1 : Int32) (p2 : Int32) : Option (Int32 × hS) :=
  bnd (f_X4_number N c (p1 + 54)) fun x1 c2 =>
  if j_cmp x1 p2.toInt64 ≤ 0 then
    some (1, c2)
  else
    bnd (f_X6_tell c2 7 (p1 + 54)) fun x3 c4 =>
    if x3 = 0 then
      some (0, c4)
    else
      some (1, c4)
noncomputable def f_X4_isMember_83 (N : Nat) (p1 : Int32) (c : hS) (w0 : Int32) (w1 : Int32) : Option (Int32 × hS) :=
  bnd (f_X4_isSized N c w1 w0) fun x1 c2 =>
  if x1 = 0 then
    some (0, c2)
  else
    bnd (f_X0_isNamed N c2 (p1 + 110)) fun x3 c4 =>
    if x3 = 0 then
      some (0, c4)
    else
      some (1, c4)
noncomputable def f_X4_isMember_40 (N : Nat) (p1 : Int32) (c : hS) : Option (Int32 × hS) :=
  bnd (f_X4_number N c (p1 + 102)) fun x1 c2 =>
  if j_cmp x1 0 = 0 then
    bnd (f_X4_isDirectory N c2 p1) fun x3 c4 =>
    if x3 = 0 then
      f_X4_isMember_83 N p1 c4 400 p1
    else
      f_X4_isMember_83 N p1 c4 0 p1
  else
    bnd (f_X6_tell c2 4 (p1 + 102)) fun x5 c6 =>
    bif j_b x5 then some (x5, c6) else none
noncomputable def f_X4_isMember (N : Nat) (c : hS) (p1 : Int32) : Option (Int32 × hS) :=
  bnd (f_X4_sortOf N c p1) fun x1 c2 =>
  bnd (f_X4_sortBits c2 33188) fun x3 c4 =>
  if x1 = x3 then
    f_X4_isMember_40 N p1 c4
  else
    bnd (f_X4_sortBits c4 16877) fun x5 c6 =>
    if x1 = x5 then
      f_X4_isMember_40 N p1 c6
    else
      bnd (f_X6_tell c6 8 (p1 + 14)) fun x7 c8 =>
      bif j_b x7 then some (x7, c8) else none
noncomputable def f_X4_isSpelt_23 (N : Nat) (p1 : Int32) (c : hS) : Option (Int32 × hS) :=
  bnd (f_X6_tell c 10 (p1 + 94)) fun x1 c2 =>
  bif j_b x1 then some (x1, c2) else none
noncomputable def f_X4_isSpelt (N : Nat) (c : hS) (p1 : Int32) : Option (Int32 × hS) :=
  bnd (f_X4_number N c (p1 + 94)) fun x1 c2 =>
  if j_cmp x1 1 < 0 then
    f_X4_isSpelt_23 N p1 c2
  else
    if j_cmp x1 100 ≤ 0 then
      bnd (f_X0_reaches c2 ((((p1 + 110) + x1.toInt32) - 1) + 1)) fun x3 c4 =>
      if x3 = 0 then
        some (0, c4)
      else
        bnd (f_X2_get c4 3 (((p1 + 110) + x1.toInt32) - 1)) fun x5 c6 =>
        if x5 = 0 then
          bnd (f_X2_cutTo c6 5 0) fun _ c7 =>
          bnd (f_X2_addRow N c7 5 3 (p1 + 110) (((p1 + 110) + x1.toInt32) - 1)) fun _ c8 =>
          some (1, c8)
        else
          bnd (f_X6_tell c6 10 (((p1 + 110) + x1.toInt32) - 1)) fun x9 c10 =>
          bif j_b x9 then some (x9, c10) else none
    else
      f_X4_isSpelt_23 N p1 c2
noncomputable def f_X4_takeIn_180 (N : Nat) (p1 : Nat) (c : hS) : Option (Int32 × hS) :=
  bnd (f_X2_size c 3) fun x1 c2 =>
  bnd (f_X6_tell c2 1 x1) fun x3 c4 =>
  bif j_b x3 then some (x3, c4) else none
noncomputable def f_X4_takeIn_4 (N : Nat) (p1 : Nat) : Nat → hS → Int32 → Int32 → Option (Int32 × hS)
  | 0, _, _, _ => none
  | n + 1, c, v2, v3 =>
  if 20000 ≤ v3 then
    f_X4_takeIn_180 N p1 c
  else
    bnd (f_X2_size c 3) fun x1 c2 =>
    if x1 < (v2 + 110) then
      f_X4_takeIn_180 N p1 c2
    else
      bnd (f_X4_isHead N c2 v2) fun x3 c4 =>
      if x3 = 0 then
        some (0, c4)
      else
        bnd (f_X4_isSpelt N c4 v2) fun x5 c6 =>
        if x5 = 0 then
          some (0, c6)
        else
          bnd (f_X2_size c6 5) fun x7 c8 =>
          bnd (f_X2_isText N c8 5 tx19) fun x9 c10 =>
          if x9 = 0 then
            bnd (f_X4_isMember N c10 v2) fun x11 c12 =>
            if x11 = 0 then
              some (0, c12)
            else
              bnd (f_X11_roundedUp c12 (((v2 + 110) + x7) + 1) 4) fun x13 c14 =>
              bnd (f_X4_number N c14 (v2 + 54)) fun x15 c16 =>
              bnd (f_X11_roundedUp c16 (x13 + x15.toInt32) 4) fun x17 c18 =>
              bnd (f_X0_reaches c18 x17) fun x19 c20 =>
              if x19 = 0 then
                some (0, c20)
              else
                bnd (f_X4_isDirectory N c20 v2) fun x21 c22 =>
                bnd (f_X0_arrives N c22 p1 x21 3 x13 (x13 + x15.toInt32) v2) fun x23 c24 =>
                if x23 = 0 then
                  some (0, c24)
                else
                  f_X4_takeIn_4 N p1 n c24 x17 (v3 + 1)
          else
            bnd (f_X4_isSized N c10 v2 0) fun x25 c26 =>
            if x25 = 0 then
              some (0, c26)
            else
              bnd (f_X0_isZeroFrom N c26 (((v2 + 110) + x7) + 1)) fun x27 c28 =>
              if x27 = 0 then
                some (0, c28)
              else
                some (1, c28)
noncomputable def f_X4_takeIn (N : Nat) (c : hS) (p1 : Nat) : Option (Int32 × hS) :=
  f_X4_takeIn_4 N p1 N c 0 0
noncomputable def f_X4_addNumber_3 (N : Nat) (p1 : Int32) : Nat → hS → Int32 → Option (Unit × hS)
  | 0, _, _ => none
  | n + 1, c, v2 =>
  if v2 < 0 then
    some ((), c)
  else
    if 10 ≤ ((j_ushr p1 v2) &&& 15) then
      bnd (f_X2_add c 3 (87 + ((j_ushr p1 v2) &&& 15))) fun _ c1 =>
      f_X4_addNumber_3 N p1 n c1 (v2 + (-4))
    else
      bnd (f_X2_add c 3 (48 + ((j_ushr p1 v2) &&& 15))) fun _ c2 =>
      f_X4_addNumber_3 N p1 n c2 (v2 + (-4))
noncomputable def f_X4_addNumber (N : Nat) (c : hS) (p1 : Int32) : Option (Unit × hS) :=
  f_X4_addNumber_3 N p1 N c 28
noncomputable def f_X4_addHead_13 (N : Nat) (p1 : Int32) (p2 : Int32) (p3 : Int32) (p4 : Int32) : Nat → hS → Int32 → Option (Unit × hS)
  | 0, _, _ => none
  | n + 1, c, v5 =>
  if 13 ≤ v5 then
    some ((), c)
  else
    if ((Int32.ofNat sa2.length) + (8 * v5)) = 6 then
      bnd (f_X4_addNumber N c p1) fun _ c1 =>
      f_X4_addHead_13 N p1 p2 p3 p4 n c1 (v5 + 1)
    else
    if ((Int32.ofNat sa2.length) + (8 * v5)) = 14 then
      bnd (f_X4_addNumber N c p2) fun _ c2 =>
      f_X4_addHead_13 N p1 p2 p3 p4 n c2 (v5 + 1)
    else
    if ((Int32.ofNat sa2.length) + (8 * v5)) = 22 then
      bnd (f_X4_addNumber N c 1) fun _ c3 =>
      f_X4_addHead_13 N p1 p2 p3 p4 n c3 (v5 + 1)
    else
    if ((Int32.ofNat sa2.length) + (8 * v5)) = 54 then
      bnd (f_X4_addNumber N c p3) fun _ c4 =>
      f_X4_addHead_13 N p1 p2 p3 p4 n c4 (v5 + 1)
    else
    if ((Int32.ofNat sa2.length) + (8 * v5)) = 94 then
      bnd (f_X4_addNumber N c p4) fun _ c5 =>
      f_X4_addHead_13 N p1 p2 p3 p4 n c5 (v5 + 1)
    else
      bnd (f_X4_addNumber N c 0) fun _ c6 =>
      f_X4_addHead_13 N p1 p2 p3 p4 n c6 (v5 + 1)
noncomputable def f_X4_addHead (N : Nat) (c : hS) (p1 : Int32) (p2 : Int32) (p3 : Int32) (p4 : Int32) : Option (Unit × hS) :=
  bnd (f_X2_addMark N c 3 sa2) fun _ c1 =>
  f_X4_addHead_13 N p1 p2 p3 p4 N c1 0
noncomputable def f_X4_addRest (N : Nat) (c : hS) : Option (Unit × hS) :=
  bnd (f_X2_size c 3) fun x1 c2 =>
  bnd (f_X11_roundedUp c2 x1 4) fun x3 c4 =>
  bnd (f_X2_size c4 3) fun x5 c6 =>
  bnd (f_X2_addZeros N c6 3 (x3 - x5)) fun _ c7 =>
  some ((), c7)
noncomputable def f_X4_layOut_48 (N : Nat) (p1 : Nat) (p2 : Int32) (k2 : hS → Int32 → Option (Unit × hS)) (c : hS) (v3 : Int32) (v4 : Nat) (v5 : Int32) (w0 : Int32) : Option (Unit × hS) :=
  bnd (f_X2_size c (v4 + 1)) fun x1 c2 =>
  bnd (f_X4_addHead N c2 (v3 + 1) w0 v5 (x1 + 1)) fun _ c3 =>
  bnd (f_X0_addTitle N c3 v4 0) fun _ c4 =>
  bnd (f_X2_add c4 3 0) fun _ c5 =>
  bnd (f_X4_addRest N c5) fun _ c6 =>
  bnd (f_X2_addRow N c6 3 (v4 + 3) 0 v5) fun _ c7 =>
  bnd (f_X4_addRest N c7) fun _ c8 =>
  k2 c8 (v3 + 1)
noncomputable def f_X4_layOut_2 (N : Nat) (p1 : Nat) (p2 : Int32) : Nat → hS → Int32 → Option (Unit × hS)
  | 0, _, _ => none
  | n + 1, c, v3 =>
  bnd (f_X9_size c p1) fun x1 c2 =>
  if x1 ≤ v3 then
    bnd (f_X4_addHead N c2 0 0 0 ((Int32.ofNat tx19.length) + 1)) fun _ c3 =>
    bnd (f_X2_addText N c3 3 tx19) fun _ c4 =>
    bnd (f_X2_add c4 3 0) fun _ c5 =>
    bnd (f_X4_addRest N c5) fun _ c6 =>
    some ((), c6)
  else
    bnd (f_X9_member c2 p1 v3) fun x7 c8 =>
    opt x7 (
      f_X4_layOut_2 N p1 p2 n c8 (v3 + 1)) fun y9 =>
      bif Nat.beq (kc y9) 6 then
      bnd (f_X2_size c8 (y9 + 3)) fun x10 c11 =>
      if c11.1 y9 2 = 0 then
        f_X4_layOut_48 N p1 p2 (f_X4_layOut_2 N p1 p2 n) c11 v3 y9 x10 33188
      else
        f_X4_layOut_48 N p1 p2 (f_X4_layOut_2 N p1 p2 n) c11 v3 y9 x10 16877
      else none
noncomputable def f_X4_layOut (N : Nat) (c : hS) (p1 : Nat) (p2 : Int32) : Option (Unit × hS) :=
  f_X4_layOut_2 N p1 p2 N c 0
noncomputable def f_X10_fillLengths_3 (N : Nat) (p1 : Int32) (p2 : Int32) (p3 : Int32) : Nat → hS → Int32 → Option (Unit × hS)
  | 0, _, _ => none
  | n + 1, c, v4 =>
  if p2 ≤ v4 then
    some ((), c)
  else
    if v4 < 0 then
      f_X10_fillLengths_3 N p1 p2 p3 n c (v4 + 1)
    else
      if (Int32.ofNat (ln 32)) ≤ v4 then
        f_X10_fillLengths_3 N p1 p2 p3 n c (v4 + 1)
      else
        bif j_in v4 (ln 32) then
        st1 (sI c 32 v4.toNatClampNeg p3) fun c1 =>
        f_X10_fillLengths_3 N p1 p2 p3 n c1 (v4 + 1)
        else none
noncomputable def f_X10_fillLengths (N : Nat) (c : hS) (p1 : Int32) (p2 : Int32) (p3 : Int32) : Option (Unit × hS) :=
  f_X10_fillLengths_3 N p1 p2 p3 N c p1
noncomputable def f_X10_takeBits_35 (N : Nat) (p1 : Int32) : Nat → hS → Int32 → Int32 → Option (Int32 × hS)
  | 0, _, _, _ => none
  | n + 1, c, v2, v3 =>
  if p1 ≤ v3 then
    some (v2, c)
  else
    bnd (f_X2_get c 3 (j_shr (c.1 11 9) 3)) fun x1 c2 =>
    st1 (sI c2 11 9 ((c2.1 11 9) + 1)) fun c3 =>
    f_X10_takeBits_35 N p1 n c3 (v2 ||| (j_shl ((j_shr x1 ((c2.1 11 9) &&& 7)) &&& 1) v3)) (v3 + 1)
noncomputable def f_X10_takeBits (N : Nat) (c : hS) (p1 : Int32) : Option (Int32 × hS) :=
  if p1 ≤ ((c.1 11 10) - (c.1 11 9)) then
    f_X10_takeBits_35 N p1 N c 0 0
  else
    bnd (f_X6_tell c 20 (j_shr (c.1 11 10) 3)) fun x1 c2 =>
    some ((-1), c2)
noncomputable def f_X10_areLengthCodes_177 (N : Nat) (c : hS) : Option (Int32 × hS) :=
  bnd (f_X3_order N c 28 0 (Int32.ofNat sa0.length)) fun _ c1 =>
  bnd (f_X3_areComplete N c1 28) fun x2 c3 =>
  if x2 = 0 then
    bnd (f_X6_tell c3 24 (c3.1 11 12)) fun x4 c5 =>
    if x4 = 0 then
      some (0, c5)
    else
      some (1, c5)
  else
    some (1, c3)
noncomputable def f_X10_areLengthCodes_119 (N : Nat) : Nat → hS → Int32 → Int32 → Option (Int32 × hS)
  | 0, _, _, _ => none
  | n + 1, c, v3, v4 =>
  if (v3 + 4) ≤ v4 then
    f_X10_areLengthCodes_177 N c
  else
    if (Int32.ofNat sa0.length) ≤ v4 then
      f_X10_areLengthCodes_177 N c
    else
      bnd (f_X10_takeBits N c 3) fun x1 c2 =>
      if x1 = (-1) then
        some (0, c2)
      else
        bif j_in v4 sa0.length then
        bif j_in v4 sa0.length then
        bnd (f_X10_fillLengths N c2 (sa0.getD v4.toNatClampNeg 0) ((sa0.getD v4.toNatClampNeg 0) + 1) x1) fun _ c3 =>
        f_X10_areLengthCodes_119 N n c3 v3 (v4 + 1)
        else none
        else none
noncomputable def f_X10_areLengthCodes (N : Nat) (c : hS) : Option (Int32 × hS) :=
  bnd (f_X10_takeBits N c 5) fun x1 c2 =>
  if x1 = (-1) then
    some (0, c2)
  else
    st1 (sI c2 11 13 (x1 + 257)) fun c3 =>
    if c3.1 11 13 ≤ 286 then
      bnd (f_X10_takeBits N c3 5) fun x4 c5 =>
      if x4 = (-1) then
        some (0, c5)
      else
        if (x4 + 1) ≤ 30 then
          st1 (sI c5 11 14 (((c5.1 11 13) + x4) + 1)) fun c6 =>
          bnd (f_X10_takeBits N c6 4) fun x7 c8 =>
          if x7 = (-1) then
            some (0, c8)
          else
            bnd (f_X10_fillLengths N c8 0 (Int32.ofNat sa0.length) 0) fun _ c9 =>
            f_X10_areLengthCodes_119 N N c9 x7 0
        else
          bnd (f_X6_tell c5 24 (c5.1 11 12)) fun x10 c11 =>
          bif j_b x10 then some (x10, c11) else none
    else
      bnd (f_X6_tell c3 24 (c3.1 11 12)) fun x12 c13 =>
      bif j_b x12 then some (x12, c13) else none
noncomputable def f_X10_lengthAt (c : hS) (p1 : Int32) : Option (Int32 × hS) :=
  if p1 < 0 then
    some (0, c)
  else
    if (Int32.ofNat (ln 32)) ≤ p1 then
      some (0, c)
    else
      bif j_in p1 (ln 32) then
      some (c.1 32 p1.toNatClampNeg, c)
      else none
noncomputable def f_X10_areSymbolLengths_29 (N : Nat) (p1 : Int32) (c : hS) : Option (Int32 × hS) :=
  if c.1 11 13 ≤ p1 then
    some (1, c)
  else
    if c.1 11 13 ≤ c.1 11 15 then
      bnd (f_X3_order N c 20 0 (c.1 11 13)) fun _ c1 =>
      bnd (f_X3_areComplete N c1 20) fun x2 c3 =>
      bif j_b x2 then some (x2, c3) else none
    else
      some (1, c)
noncomputable def f_X10_areSymbolLengths (N : Nat) (c : hS) (p1 : Int32) : Option (Int32 × hS) :=
  if 256 < p1 then
    f_X10_areSymbolLengths_29 N p1 c
  else
    if c.1 11 15 ≤ 256 then
      f_X10_areSymbolLengths_29 N p1 c
    else
      bnd (f_X10_lengthAt c 256) fun x1 c2 =>
      if x1 = 0 then
        some (0, c2)
      else
        f_X10_areSymbolLengths_29 N p1 c2
noncomputable def f_X10_isRepeated_113 (N : Nat) (p1 : Int32) (c : hS) (v2 : Int32) (v3 : Int32) (w0 : Int32) : Option (Int32 × hS) :=
  bnd (f_X10_takeBits N c v3) fun x1 c2 =>
  if x1 = (-1) then
    some (0, c2)
  else
    if (((c2.1 11 15) + w0) + x1) ≤ c2.1 11 14 then
      bnd (f_X10_fillLengths N c2 (c2.1 11 15) (((c2.1 11 15) + w0) + x1) v2) fun _ c3 =>
      st1 (sI c3 11 15 (((c2.1 11 15) + w0) + x1)) fun c4 =>
      some (1, c4)
    else
      bnd (f_X6_tell c2 24 (c2.1 11 12)) fun x5 c6 =>
      bif j_b x5 then some (x5, c6) else none
noncomputable def f_X10_isRepeated_90 (N : Nat) (p1 : Int32) (c : hS) (v2 : Int32) (w0 : Int32) : Option (Int32 × hS) :=
  if 16 ≤ p1 then
    if p1 = 18 then
      f_X10_isRepeated_113 N p1 c v2 w0 11
    else
      f_X10_isRepeated_113 N p1 c v2 w0 3
  else
    f_X10_isRepeated_113 N p1 c v2 w0 1
noncomputable def f_X10_isRepeated_57 (N : Nat) (p1 : Int32) (c : hS) (w0 : Int32) : Option (Int32 × hS) :=
  if 16 ≤ p1 then
    if p1 = 16 then
      f_X10_isRepeated_90 N p1 c w0 2
    else
      if p1 = 17 then
        f_X10_isRepeated_90 N p1 c w0 3
      else
        f_X10_isRepeated_90 N p1 c w0 7
  else
    f_X10_isRepeated_90 N p1 c w0 0
noncomputable def f_X10_isRepeated_27 (N : Nat) (p1 : Int32) (c : hS) : Option (Int32 × hS) :=
  if 16 ≤ p1 then
    if p1 = 16 then
      bnd (f_X10_lengthAt c ((c.1 11 15) - 1)) fun x1 c2 =>
      f_X10_isRepeated_57 N p1 c2 x1
    else
      f_X10_isRepeated_57 N p1 c 0
  else
    f_X10_isRepeated_57 N p1 c p1
noncomputable def f_X10_isRepeated (N : Nat) (c : hS) (p1 : Int32) : Option (Int32 × hS) :=
  if p1 = 16 then
    if c.1 11 15 = 0 then
      bnd (f_X6_tell c 24 (c.1 11 12)) fun x1 c2 =>
      bif j_b x1 then some (x1, c2) else none
    else
      f_X10_isRepeated_27 N p1 c
  else
    f_X10_isRepeated_27 N p1 c
noncomputable def f_X10_takeSymbol_148 (N : Nat) (p1 : Nat) (p2 : Int32) (c : hS) : Option (Int32 × hS) :=
  bnd (f_X6_tell c 25 p2) fun x1 c2 =>
  some ((-1), c2)
noncomputable def f_X10_takeSymbol_11 (N : Nat) (p1 : Nat) (p2 : Int32) : Nat → hS → Int32 → Int32 → Int32 → Int32 → Option (Int32 × hS)
  | 0, _, _, _, _, _ => none
  | n + 1, c, v3, v4, v5, v6 =>
  if 15 < v6 then
    f_X10_takeSymbol_148 N p1 p2 c
  else
    if c.1 11 9 < c.1 11 10 then
      bnd (f_X2_get c 3 (j_shr (c.1 11 9) 3)) fun x1 c2 =>
      st1 (sI c2 11 9 ((c2.1 11 9) + 1)) fun c3 =>
      bnd (f_X3_amount c3 p1 v6) fun x4 c5 =>
      if x4 ≤ (((j_shl v3 1) ||| ((j_shr x1 ((c2.1 11 9) &&& 7)) &&& 1)) - v4) then
        bnd (f_X3_longest c5 p1) fun x6 c7 =>
        if v6 < x6 then
          f_X10_takeSymbol_11 N p1 p2 n c7 ((j_shl v3 1) ||| ((j_shr x1 ((c2.1 11 9) &&& 7)) &&& 1)) (j_shl (v4 + x4) 1) (v5 + x4) (v6 + 1)
        else
          f_X10_takeSymbol_148 N p1 p2 c7
      else
        bnd (f_X3_symbol c5 p1 ((v5 + ((j_shl v3 1) ||| ((j_shr x1 ((c2.1 11 9) &&& 7)) &&& 1))) - v4)) fun x8 c9 =>
        some (x8, c9)
    else
      bnd (f_X6_tell c 20 (j_shr (c.1 11 10) 3)) fun x10 c11 =>
      some ((-1), c11)
noncomputable def f_X10_takeSymbol (N : Nat) (c : hS) (p1 : Nat) (p2 : Int32) : Option (Int32 × hS) :=
  f_X10_takeSymbol_11 N p1 p2 N c 0 0 0 1
noncomputable def f_X10_areLengths_88 (N : Nat) (c : hS) : Option (Int32 × hS) :=
  bnd (f_X3_order N c 24 (c.1 11 13) ((c.1 11 14) - (c.1 11 13))) fun _ c1 =>
  bnd (f_X3_areComplete N c1 24) fun x2 c3 =>
  if x2 = 0 then
    bnd (f_X3_areNoneOrOneBit c3 24) fun x4 c5 =>
    if x4 = 0 then
      bnd (f_X6_tell c5 24 (c5.1 11 12)) fun x6 c7 =>
      if x6 = 0 then
        some (0, c7)
      else
        some (1, c7)
    else
      some (1, c5)
  else
    some (1, c3)
noncomputable def f_X10_areLengths_7 (N : Nat) : Nat → hS → Int32 → Option (Int32 × hS)
  | 0, _, _ => none
  | n + 1, c, v1 =>
  if (Int32.ofNat (ln 32)) ≤ v1 then
    f_X10_areLengths_88 N c
  else
    if c.1 11 14 ≤ c.1 11 15 then
      f_X10_areLengths_88 N c
    else
      bnd (f_X10_takeSymbol N c 28 (c.1 11 12)) fun x1 c2 =>
      if x1 = (-1) then
        some (0, c2)
      else
        bnd (f_X10_isRepeated N c2 x1) fun x3 c4 =>
        if x3 = 0 then
          some (0, c4)
        else
          bnd (f_X10_areSymbolLengths N c4 (c.1 11 15)) fun x5 c6 =>
          if x5 = 0 then
            bnd (f_X6_tell c6 24 (c6.1 11 12)) fun x7 c8 =>
            bif j_b x7 then some (x7, c8) else none
          else
            f_X10_areLengths_7 N n c6 (v1 + 1)
noncomputable def f_X10_areLengths (N : Nat) (c : hS) : Option (Int32 × hS) :=
  st1 (sI c 11 15 0) fun c1 =>
  f_X10_areLengths_7 N N c1 0
noncomputable def f_X11_distanceBits (c : hS) (p0 : Int32) : Option (Int32 × hS) :=
  if 4 ≤ p0 then
    some ((j_shr (p0 - 2) 1), c)
  else
    some (0, c)
noncomputable def f_X11_distanceBase (c : hS) (p0 : Int32) : Option (Int32 × hS) :=
  if 4 ≤ p0 then
    bnd (f_X11_distanceBits c p0) fun x1 c2 =>
    some (((j_shl (2 + (p0 &&& 1)) x1) + 1), c2)
  else
    some ((1 + p0), c)
noncomputable def f_X11_lengthBits (c : hS) (p0 : Int32) : Option (Int32 × hS) :=
  if p0 < 8 then
    some (0, c)
  else
    if p0 = 28 then
      some (0, c)
    else
      some ((j_shr (p0 - 4) 2), c)
noncomputable def f_X11_lengthBase (c : hS) (p0 : Int32) : Option (Int32 × hS) :=
  if p0 = 28 then
    some (258, c)
  else
    if 8 ≤ p0 then
      bnd (f_X11_lengthBits c p0) fun x1 c2 =>
      some (((j_shl (4 + (p0 &&& 3)) x1) + 3), c2)
    else
      some ((3 + p0), c)
noncomputable def f_X10_isCopied_144 (N : Nat) (p1 : Int32) (p2 : Nat) (p3 : Int32) : Nat → hS → Int32 → Int32 → Int32 → Option (Int32 × hS)
  | 0, _, _, _, _ => none
  | n + 1, c, v7, v8, v9 =>
  if v7 ≤ v9 then
    some (1, c)
  else
    bnd (f_X2_size c 7) fun x1 c2 =>
    bnd (f_X2_get c2 7 (x1 - v8)) fun x3 c4 =>
    bnd (f_X2_add c4 7 x3) fun _ c5 =>
    f_X10_isCopied_144 N p1 p2 p3 n c5 v7 v8 (v9 + 1)
noncomputable def f_X10_isCopied (N : Nat) (c : hS) (p1 : Int32) (p2 : Nat) (p3 : Int32) : Option (Int32 × hS) :=
  bnd (f_X11_lengthBits c p1) fun x1 c2 =>
  bnd (f_X10_takeBits N c2 x1) fun x3 c4 =>
  if x3 = (-1) then
    some (0, c4)
  else
    bnd (f_X10_takeSymbol N c4 p2 p3) fun x5 c6 =>
    if x5 = (-1) then
      some (0, c6)
    else
      if x5 ≤ 29 then
        bnd (f_X11_distanceBits c6 x5) fun x7 c8 =>
        bnd (f_X10_takeBits N c8 x7) fun x9 c10 =>
        if x9 = (-1) then
          some (0, c10)
        else
          bnd (f_X11_lengthBase c10 p1) fun x11 c12 =>
          bnd (f_X11_distanceBase c12 x5) fun x13 c14 =>
          bnd (f_X2_size c14 7) fun x15 c16 =>
          if (x13 + x9) ≤ x15 then
            bnd (f_X2_size c16 7) fun x17 c18 =>
            if (x17 + (x11 + x3)) ≤ c18.1 11 11 then
              f_X10_isCopied_144 N p1 p2 p3 N c18 (x11 + x3) (x13 + x9) 0
            else
              bnd (f_X6_tell c18 23 p3) fun x19 c20 =>
              bif j_b x19 then some (x19, c20) else none
          else
            bnd (f_X6_tell c16 26 p3) fun x21 c22 =>
            bif j_b x21 then some (x21, c22) else none
      else
        bnd (f_X6_tell c6 25 p3) fun x23 c24 =>
        bif j_b x23 then some (x23, c24) else none
noncomputable def f_X10_areSymbols_2 (N : Nat) (p1 : Nat) (p2 : Nat) : Nat → hS → Int32 → Option (Int32 × hS)
  | 0, _, _ => none
  | n + 1, c, v3 =>
  if 160000 < v3 then
    some (0, c)
  else
    bnd (f_X10_takeSymbol N c p1 (j_shr (c.1 11 9) 3)) fun x1 c2 =>
    if x1 = (-1) then
      some (0, c2)
    else
      if x1 = 256 then
        some (1, c2)
      else
        if x1 ≤ 285 then
          if x1 ≤ 256 then
            bnd (f_X2_size c2 7) fun x3 c4 =>
            if x3 < c4.1 11 11 then
              bnd (f_X2_add c4 7 x1) fun _ c5 =>
              f_X10_areSymbols_2 N p1 p2 n c5 (v3 + 1)
            else
              bnd (f_X6_tell c4 23 (j_shr (c.1 11 9) 3)) fun x6 c7 =>
              bif j_b x6 then some (x6, c7) else none
          else
            bnd (f_X10_isCopied N c2 ((x1 - 256) - 1) p2 (j_shr (c.1 11 9) 3)) fun x8 c9 =>
            if x8 = 0 then
              some (0, c9)
            else
              f_X10_areSymbols_2 N p1 p2 n c9 (v3 + 1)
        else
          bnd (f_X6_tell c2 25 (j_shr (c.1 11 9) 3)) fun x10 c11 =>
          bif j_b x10 then some (x10, c11) else none
noncomputable def f_X10_areSymbols (N : Nat) (c : hS) (p1 : Nat) (p2 : Nat) : Option (Int32 × hS) :=
  f_X10_areSymbols_2 N p1 p2 N c 0
noncomputable def f_X10_isStored_64 (N : Nat) : Nat → hS → Int32 → Int32 → Option (Int32 × hS)
  | 0, _, _, _ => none
  | n + 1, c, v1, v3 =>
  if v1 ≤ v3 then
    some (1, c)
  else
    bnd (f_X10_takeBits N c 8) fun x1 c2 =>
    if x1 = (-1) then
      some (0, c2)
    else
      bnd (f_X2_size c2 7) fun x3 c4 =>
      if x3 < c4.1 11 11 then
        bnd (f_X2_add c4 7 x1) fun _ c5 =>
        f_X10_isStored_64 N n c5 v1 (v3 + 1)
      else
        bnd (f_X6_tell c4 23 (j_shr (c.1 11 9) 3)) fun x6 c7 =>
        bif j_b x6 then some (x6, c7) else none
noncomputable def f_X10_isStored (N : Nat) (c : hS) : Option (Int32 × hS) :=
  st1 (sI c 11 9 (((c.1 11 9) + 7) &&& (-8))) fun c1 =>
  bnd (f_X10_takeBits N c1 16) fun x2 c3 =>
  bnd (f_X10_takeBits N c3 16) fun x4 c5 =>
  if x2 = (-1) then
    some (0, c5)
  else
    if x4 = (-1) then
      some (0, c5)
    else
      if x4 = (65535 - x2) then
        f_X10_isStored_64 N N c5 x2 0
      else
        bnd (f_X6_tell c5 22 (c5.1 11 12)) fun x6 c7 =>
        bif j_b x6 then some (x6, c7) else none
noncomputable def f_X10_open_179 (N : Nat) (p1 : Int32) (p2 : Int32) (p3 : Int32) (k35 : hS → Int32 → Int32 → Option (Int32 × hS)) (c : hS) (v5 : Int32) (v6 : Int32) : Option (Int32 × hS) :=
  if v6 = 1 then
    k35 c 1 (v5 + 1)
  else
    k35 c 0 (v5 + 1)
noncomputable def f_X10_open_142 (N : Nat) (p1 : Int32) (p2 : Int32) (p3 : Int32) (k35 : hS → Int32 → Int32 → Option (Int32 × hS)) (c : hS) (v5 : Int32) (v6 : Int32) (v7 : Int32) : Option (Int32 × hS) :=
  if v7 = 2 then
    bnd (f_X10_areLengthCodes N c) fun x1 c2 =>
    if x1 = 0 then
      some (0, c2)
    else
      bnd (f_X10_areLengths N c2) fun x3 c4 =>
      if x3 = 0 then
        some (0, c4)
      else
        bnd (f_X10_areSymbols N c4 20 24) fun x5 c6 =>
        if x5 = 0 then
          some (0, c6)
        else
          f_X10_open_179 N p1 p2 p3 k35 c6 v5 v6
  else
    f_X10_open_179 N p1 p2 p3 k35 c v5 v6
noncomputable def f_X10_open_119 (N : Nat) (p1 : Int32) (p2 : Int32) (p3 : Int32) (k35 : hS → Int32 → Int32 → Option (Int32 × hS)) (c : hS) (v5 : Int32) (v6 : Int32) (v7 : Int32) : Option (Int32 × hS) :=
  if v7 = 1 then
    bnd (f_X10_areSymbols N c 12 16) fun x1 c2 =>
    if x1 = 0 then
      some (0, c2)
    else
      f_X10_open_142 N p1 p2 p3 k35 c2 v5 v6 v7
  else
    f_X10_open_142 N p1 p2 p3 k35 c v5 v6 v7
noncomputable def f_X10_open_198 (N : Nat) (p1 : Int32) (p2 : Int32) (p3 : Int32) (c : hS) : Option (Int32 × hS) :=
  if (j_shr ((c.1 11 9) + 7) 3) = p2 then
    some (1, c)
  else
    bnd (f_X6_tell c 27 (j_shr ((c.1 11 9) + 7) 3)) fun x1 c2 =>
    if x1 = 0 then
      some (0, c2)
    else
      some (1, c2)
noncomputable def f_X10_open_35 (N : Nat) (p1 : Int32) (p2 : Int32) (p3 : Int32) : Nat → hS → Int32 → Int32 → Option (Int32 × hS)
  | 0, _, _, _ => none
  | n + 1, c, v4, v5 =>
  if 160000 < v5 then
    f_X10_open_198 N p1 p2 p3 c
  else
    if v4 = 0 then
      st1 (sI c 11 12 (j_shr (c.1 11 9) 3)) fun c1 =>
      bnd (f_X10_takeBits N c1 1) fun x2 c3 =>
      bnd (f_X10_takeBits N c3 2) fun x4 c5 =>
      if x2 = (-1) then
        some (0, c5)
      else
        if x4 = (-1) then
          some (0, c5)
        else
          if x4 = 3 then
            bnd (f_X6_tell c5 21 (c5.1 11 12)) fun x8 c9 =>
            bif j_b x8 then some (x8, c9) else none
          else
            if x4 = 0 then
              bnd (f_X10_isStored N c5) fun x6 c7 =>
              if x6 = 0 then
                some (0, c7)
              else
                f_X10_open_119 N p1 p2 p3 (f_X10_open_35 N p1 p2 p3 n) c7 v5 x2 x4
            else
              f_X10_open_119 N p1 p2 p3 (f_X10_open_35 N p1 p2 p3 n) c5 v5 x2 x4
    else
      f_X10_open_198 N p1 p2 p3 c
noncomputable def f_X10_open (N : Nat) (c : hS) (p1 : Int32) (p2 : Int32) (p3 : Int32) : Option (Int32 × hS) :=
  st1 (sI c 11 9 (8 * p1)) fun c1 =>
  st1 (sI c1 11 10 (8 * p2)) fun c2 =>
  st1 (sI c2 11 11 p3) fun c3 =>
  bnd (f_X2_cutTo c3 7 0) fun _ c4 =>
  f_X10_open_35 N p1 p2 p3 N c4 0 0
