section
/-! THE STATE AS DATA: ints, longs, references that may change, by object and slot -/
noncomputable abbrev hS : Type := (Nat → Nat → Int32) × (Nat → Nat → Int64) × (Nat → Nat → Nat)
noncomputable def sI (c : hS) (o j : Nat) (x : Int32) : hS := (fun a b => if a = o ∧ b = j then x else c.1 a b, c.2.1, c.2.2)
noncomputable def sJ (c : hS) (o j : Nat) (x : Int64) : hS := (c.1, fun a b => if a = o ∧ b = j then x else c.2.1 a b, c.2.2)
noncomputable def sR (c : hS) (o j : Nat) (x : Nat) : hS := (c.1, c.2.1, fun a b => if a = o ∧ b = j then x else c.2.2 a b)
noncomputable def bnd {α β : Type} (x : Option (α × hS)) (f : α → hS → Option β) : Option β := match x with
  | some (a, c) => f a c
  | none => none
theorem bnd_some {α β : Type} (a : α) (c : hS) (f : α → hS → Option β) : bnd (some (a, c)) f = f a c := rfl
theorem bnd_none {α β : Type} (f : α → hS → Option β) : bnd none f = none := rfl
noncomputable def j_in (i : Int32) (n : Nat) : Bool := !decide (i < 0) && Nat.blt i.toNatClampNeg n
noncomputable def j_shl (x y : Int32) : Int32 := x <<< (y &&& 31)
noncomputable def j_shr (x y : Int32) : Int32 := x >>> (y &&& 31)
noncomputable def j_ushr (x y : Int32) : Int32 := (x.toUInt32 >>> (y.toUInt32 &&& Int32.toUInt32 31)).toInt32
noncomputable def j_rem (x y : Int32) : Int32 := x - x / y * y
noncomputable def j_lshl (x : Int64) (y : Int32) : Int64 := x <<< (y.toInt64 &&& 63)
noncomputable def j_lshr (x : Int64) (y : Int32) : Int64 := x >>> (y.toInt64 &&& 63)
noncomputable def j_lushr (x : Int64) (y : Int32) : Int64 := (x.toUInt64 >>> (y.toInt64.toUInt64 &&& Int64.toUInt64 63)).toInt64
noncomputable def j_cmp (x y : Int64) : Int32 := if x > y then 1 else if x = y then 0 else -1
noncomputable def j_min (x y : Int32) : Int32 := if y < x then y else x
noncomputable def j_max (x y : Int32) : Int32 := if x < y then y else x
noncomputable def j_z (x : Int32) : Int32 := x &&& 1
noncomputable def j_b (x : Int32) : Bool := decide (x = 0) || decide (x = 1)
/-- the kinds of the class's objects and rows -/
noncomputable def kcl : List Nat := [10, 1, 20, 1, 20, 1, 20, 1, 20, 5, 7, 9, 2, 20, 20, 20, 2, 20, 20, 20, 2, 20, 20, 20, 2, 20, 20, 20, 2, 20, 20, 20, 20, 23, 0, 3, 4, 8, 24, 6, 1, 20, 1, 20, 6, 1, 20, 1, 20, 6, 1, 20, 1, 20, 6, 1, 20, 1, 20, 6, 1, 20, 1, 20, 6, 1, 20, 1, 20, 6, 1, 20, 1, 20, 6, 1, 20, 1, 20, 6, 1, 20, 1, 20, 6, 1, 20, 1, 20, 6, 1, 20, 1, 20, 6, 1, 20, 1, 20, 6, 1, 20, 1, 20, 6, 1, 20, 1, 20, 6, 1, 20, 1, 20, 6, 1, 20, 1, 20, 8, 24, 6, 1, 20, 1, 20, 6, 1, 20, 1, 20, 6, 1, 20, 1, 20, 6, 1, 20, 1, 20, 6, 1, 20, 1, 20, 6, 1, 20, 1, 20, 6, 1, 20, 1, 20, 6, 1, 20, 1, 20, 6, 1, 20, 1, 20, 6, 1, 20, 1, 20, 6, 1, 20, 1, 20, 6, 1, 20, 1, 20, 6, 1, 20, 1, 20, 6, 1, 20, 1, 20, 6, 1, 20, 1, 20, 6, 1, 20, 1, 20]
noncomputable def kc (o : Nat) : Nat := kcl.getD o 99
/-- the kinds of the reference's and of the law's row -/
noncomputable def kml : List Nat := [11, 20, 20, 20, 20, 20, 20, 22, 20, 20, 20, 20, 20, 20, 20, 20, 20, 20, 21]
noncomputable def km (o : Nat) : Nat := bif Nat.blt o 201 then 99 else kml.getD (o - 201) 99
/-- how long the rows are -/
noncomputable def lnl : List Nat := [0, 0, 512, 0, 20000, 0, 256, 0, 512, 0, 0, 0, 0, 16, 16, 288, 0, 16, 16, 32, 0, 16, 16, 288, 0, 16, 16, 32, 0, 16, 16, 19, 320, 3, 0, 0, 0, 0, 16, 0, 0, 90, 0, 400, 0, 0, 90, 0, 400, 0, 0, 90, 0, 400, 0, 0, 90, 0, 400, 0, 0, 90, 0, 400, 0, 0, 90, 0, 400, 0, 0, 90, 0, 400, 0, 0, 90, 0, 400, 0, 0, 90, 0, 400, 0, 0, 90, 0, 400, 0, 0, 90, 0, 400, 0, 0, 90, 0, 400, 0, 0, 90, 0, 400, 0, 0, 90, 0, 400, 0, 0, 90, 0, 400, 0, 0, 90, 0, 400, 0, 16, 0, 0, 90, 0, 400, 0, 0, 90, 0, 400, 0, 0, 90, 0, 400, 0, 0, 90, 0, 400, 0, 0, 90, 0, 400, 0, 0, 90, 0, 400, 0, 0, 90, 0, 400, 0, 0, 90, 0, 400, 0, 0, 90, 0, 400, 0, 0, 90, 0, 400, 0, 0, 90, 0, 400, 0, 0, 90, 0, 400, 0, 0, 90, 0, 400, 0, 0, 90, 0, 400, 0, 0, 90, 0, 400, 0, 0, 90, 0, 400, 0, 512, 20000, 34, 3060, 34, 13600, 34, 300, 600, 512, 360, 360, 330, 512, 16, 16, 16, 1]
noncomputable def ln (o : Nat) : Nat := lnl.getD o 0
noncomputable def st1 {β : Type} (c : hS) (f : hS → Option β) : Option β := f c
noncomputable def opt {β : Type} (x : Option Nat) (a : Option β) (f : Nat → Option β) : Option β := match x with
  | none => a
  | some y => f y
/-- the static rows and the texts -/
noncomputable def sa0 : List Int32 := [16, 17, 18, 0, 8, 7, 9, 6, 10, 5, 11, 4, 12, 3, 13, 2, 14, 1, 15]
noncomputable def sa1 : List Int32 := [117, 115, 116, 97, 114, 0, 48, 48]
noncomputable def sa2 : List Int32 := [48, 55, 48, 55, 48, 49]
noncomputable def sa3 : List Int32 := [80, 75, 3, 4]
noncomputable def sa4 : List Int32 := [80, 75, 1, 2]
noncomputable def sa5 : List Int32 := [80, 75, 5, 6]
noncomputable def sa6 : List Int32 := [6, 8, 14, 18, 22, 26]
noncomputable def sa7 : List Int32 := [2, 2, 4, 4, 4, 2]
noncomputable def tx15 : List Int32 := [48, 48, 48, 48, 55, 53, 53]
noncomputable def tx16 : List Int32 := [48, 48, 48, 48, 54, 52, 52]
noncomputable def tx17 : List Int32 := [48, 48, 48, 48, 48, 48, 48]
noncomputable def tx18 : List Int32 := [48, 48, 48, 48, 48, 48]
noncomputable def tx19 : List Int32 := [84, 82, 65, 73, 76, 69, 82, 33, 33, 33]
end
section
/-! THE METHODS AS FUNCTIONS, printed by gen_l1.py -/
noncomputable def f_X2_size (c : hS) (b : Nat) : Option (Int32 × hS) :=
  some (c.1 b 1, c)
noncomputable def f_X6_tell (c : hS) (p1 : Int32) (p2 : Int32) : Option (Int32 × hS) :=
  st1 (sI c 9 0 p1) fun c1 =>
  st1 (sI c1 9 1 p2) fun c2 =>
  some (0, c2)
noncomputable def f_X0_reaches (c : hS) (p1 : Int32) : Option (Int32 × hS) :=
  bnd (f_X2_size c 3) fun x1 c2 =>
  if p1 ≤ x1 then
    some (1, c2)
  else
    bnd (f_X2_size c2 3) fun x3 c4 =>
    bnd (f_X6_tell c4 1 x3) fun x5 c6 =>
    if x5 = 0 then
      some (0, c6)
    else
      some (1, c6)
noncomputable def f_X2_get (c : hS) (b : Nat) (p1 : Int32) : Option (Int32 × hS) :=
  if p1 < 0 then
    some (0, c)
  else
    if c.1 b 1 ≤ p1 then
      some (0, c)
    else
      if (Int32.ofNat (ln (b + 1))) ≤ p1 then
        some (0, c)
      else
        bif j_in p1 (ln (b + 1)) then
        some (c.1 (b + 1) p1.toNatClampNeg, c)
        else none
noncomputable def f_X0_isMarked_3 (N : Nat) (p1 : Int32) (p2 : List Int32) (p3 : Int32) : Nat → hS → Int32 → Option (Int32 × hS)
  | 0, _, _ => none
  | n + 1, c, v4 =>
  if (Int32.ofNat p2.length) ≤ v4 then
    some (1, c)
  else
    bnd (f_X2_get c 3 (p1 + v4)) fun x1 c2 =>
    bif j_in v4 p2.length then
    if x1 = p2.getD v4.toNatClampNeg 0 then
      f_X0_isMarked_3 N p1 p2 p3 n c2 (v4 + 1)
    else
      bnd (f_X6_tell c2 p3 (p1 + v4)) fun x3 c4 =>
      bif j_b x3 then some (x3, c4) else none
    else none
noncomputable def f_X0_isMarked (N : Nat) (c : hS) (p1 : Int32) (p2 : List Int32) (p3 : Int32) : Option (Int32 × hS) :=
  f_X0_isMarked_3 N p1 p2 p3 N c 0
noncomputable def f_X0_isZeroFrom_2 (N : Nat) (p1 : Int32) : Nat → hS → Int32 → Option (Int32 × hS)
  | 0, _, _ => none
  | n + 1, c, v2 =>
  bnd (f_X2_size c 3) fun x1 c2 =>
  if x1 ≤ v2 then
    some (1, c2)
  else
    bnd (f_X2_get c2 3 v2) fun x3 c4 =>
    if x3 = 0 then
      f_X0_isZeroFrom_2 N p1 n c4 (v2 + 1)
    else
      bnd (f_X6_tell c4 2 v2) fun x5 c6 =>
      bif j_b x5 then some (x5, c6) else none
noncomputable def f_X0_isZeroFrom (N : Nat) (c : hS) (p1 : Int32) : Option (Int32 × hS) :=
  f_X0_isZeroFrom_2 N p1 N c p1
noncomputable def f_X11_isPart_39 (p0 : Nat) (p1 : Int32) (p2 : Int32) (c : hS) : Option (Int32 × hS) :=
  some (1, c)
noncomputable def f_X11_isPart (c : hS) (p0 : Nat) (p1 : Int32) (p2 : Int32) : Option (Int32 × hS) :=
  if p2 = 0 then
    some (0, c)
  else
    if 2 < p2 then
      f_X11_isPart_39 p0 p1 p2 c
    else
      bnd (f_X2_get c p0 p1) fun x1 c2 =>
      if x1 = 46 then
        bnd (f_X2_get c2 p0 ((p1 + p2) - 1)) fun x3 c4 =>
        if x3 = 46 then
          some (0, c4)
        else
          f_X11_isPart_39 p0 p1 p2 c4
      else
        f_X11_isPart_39 p0 p1 p2 c2
noncomputable def f_X11_isName_49 (N : Nat) (p0 : Nat) (k23 : hS → Int32 → Int32 → Option (Int32 × hS)) (c : hS) (v1 : Int32) (v2 : Int32) (w0 : Int32) : Option (Int32 × hS) :=
  if w0 < 33 then
    some (0, c)
  else
    if w0 ≤ 126 then
      if w0 = 47 then
        bnd (f_X11_isPart c p0 v1 (v2 - v1)) fun x1 c2 =>
        if x1 = 0 then
          some (0, c2)
        else
          k23 c2 (v2 + 1) (v2 + 1)
      else
        k23 c v1 (v2 + 1)
    else
      some (0, c)
noncomputable def f_X11_isName_23 (N : Nat) (p0 : Nat) : Nat → hS → Int32 → Int32 → Option (Int32 × hS)
  | 0, _, _, _ => none
  | n + 1, c, v1, v2 =>
  bnd (f_X2_size c p0) fun x1 c2 =>
  if x1 < v2 then
    some (1, c2)
  else
    bnd (f_X2_size c2 p0) fun x3 c4 =>
    if x3 ≤ v2 then
      f_X11_isName_49 N p0 (f_X11_isName_23 N p0 n) c4 v1 v2 47
    else
      bnd (f_X2_get c4 p0 v2) fun x5 c6 =>
      f_X11_isName_49 N p0 (f_X11_isName_23 N p0 n) c6 v1 v2 x5
noncomputable def f_X11_isName (N : Nat) (c : hS) (p0 : Nat) : Option (Int32 × hS) :=
  bnd (f_X2_size c p0) fun x1 c2 =>
  if x1 < 1 then
    some (0, c2)
  else
    bnd (f_X2_size c2 p0) fun x3 c4 =>
    if x3 ≤ 90 then
      f_X11_isName_23 N p0 N c4 0 0
    else
      some (0, c4)
noncomputable def f_X0_isNamed (N : Nat) (c : hS) (p1 : Int32) : Option (Int32 × hS) :=
  bnd (f_X11_isName N c 5) fun x1 c2 =>
  if x1 = 0 then
    bnd (f_X6_tell c2 10 p1) fun x3 c4 =>
    if x3 = 0 then
      some (0, c4)
    else
      some (1, c4)
  else
    some (1, c2)
noncomputable def f_X2_beginsWith_15 (N : Nat) (b : Nat) (p1 : Nat) : Nat → hS → Int32 → Option (Int32 × hS)
  | 0, _, _ => none
  | n + 1, c, v2 =>
  if c.1 p1 1 ≤ v2 then
    some (1, c)
  else
    bnd (f_X2_get c b v2) fun x1 c2 =>
    bnd (f_X2_get c2 p1 v2) fun x3 c4 =>
    if x1 = x3 then
      f_X2_beginsWith_15 N b p1 n c4 (v2 + 1)
    else
      some (0, c4)
noncomputable def f_X2_beginsWith (N : Nat) (c : hS) (b : Nat) (p1 : Nat) : Option (Int32 × hS) :=
  if c.1 p1 1 ≤ c.1 b 1 then
    f_X2_beginsWith_15 N b p1 N c 0
  else
    some (0, c)
noncomputable def f_X9_member (c : hS) (s : Nat) (p1 : Int32) : Option ((Option Nat) × hS) :=
  if p1 < 0 then
    some (none, c)
  else
    if c.1 s 1 ≤ p1 then
      some (none, c)
    else
      if (Int32.ofNat (ln (s + 1))) ≤ p1 then
        some (none, c)
      else
        bif j_in p1 (ln (s + 1)) then
        bif Nat.beq (kc (c.2.2 (s + 1) p1.toNatClampNeg)) 6 then
        some ((some (c.2.2 (s + 1) p1.toNatClampNeg)), c)
        else none
        else none
noncomputable def f_X9_find_2 (N : Nat) (s : Nat) (p1 : Nat) : Nat → hS → Int32 → Option (Int32 × hS)
  | 0, _, _ => none
  | n + 1, c, v2 =>
  if c.1 s 1 ≤ v2 then
    some ((-1), c)
  else
    bnd (f_X9_member c s v2) fun x1 c2 =>
    opt x1 (
      f_X9_find_2 N s p1 n c2 (v2 + 1)) fun y3 =>
      bif Nat.beq (kc y3) 6 then
      bnd (f_X2_size c2 (y3 + 1)) fun x4 c5 =>
      bnd (f_X2_size c5 p1) fun x6 c7 =>
      if x4 = x6 then
        bnd (f_X2_beginsWith N c7 (y3 + 1) p1) fun x8 c9 =>
        if x8 = 0 then
          f_X9_find_2 N s p1 n c9 (v2 + 1)
        else
          some (v2, c9)
      else
        f_X9_find_2 N s p1 n c7 (v2 + 1)
      else none
noncomputable def f_X9_find (N : Nat) (c : hS) (s : Nat) (p1 : Nat) : Option (Int32 × hS) :=
  f_X9_find_2 N s p1 N c 0
noncomputable def f_X9_hasRoomFor (N : Nat) (c : hS) (s : Nat) (p1 : Nat) : Option (Int32 × hS) :=
  if c.1 s 1 < 16 then
    some (1, c)
  else
    bnd (f_X9_find N c s p1) fun x1 c2 =>
    if x1 = (-1) then
      some (0, c2)
    else
      some (1, c2)
noncomputable def f_X2_liesUnder (N : Nat) (c : hS) (b : Nat) (p1 : Nat) : Option (Int32 × hS) :=
  if c.1 p1 1 = 0 then
    some (1, c)
  else
    if c.1 b 1 ≤ ((c.1 p1 1) + 1) then
      some (0, c)
    else
      bnd (f_X2_get c b (c.1 p1 1)) fun x1 c2 =>
      if x1 = 47 then
        bnd (f_X2_beginsWith N c2 b p1) fun x3 c4 =>
        if x3 = 0 then
          some (0, c4)
        else
          some (1, c4)
      else
        some (0, c2)
noncomputable def f_X9_isInTheWay_43 (N : Nat) (s : Nat) (p1 : Nat) (p2 : Int32) (k2 : hS → Int32 → Option (Int32 × hS)) (c : hS) (v3 : Int32) (v4 : Nat) : Option (Int32 × hS) :=
  if c.1 v4 2 = 0 then
    bnd (f_X2_liesUnder N c p1 (v4 + 1)) fun x1 c2 =>
    if x1 = 0 then
      k2 c2 (v3 + 1)
    else
      some (1, c2)
  else
    k2 c (v3 + 1)
noncomputable def f_X9_isInTheWay_2 (N : Nat) (s : Nat) (p1 : Nat) (p2 : Int32) : Nat → hS → Int32 → Option (Int32 × hS)
  | 0, _, _ => none
  | n + 1, c, v3 =>
  if c.1 s 1 ≤ v3 then
    some (0, c)
  else
    bnd (f_X9_member c s v3) fun x1 c2 =>
    opt x1 (
      f_X9_isInTheWay_2 N s p1 p2 n c2 (v3 + 1)) fun y3 =>
      bif Nat.beq (kc y3) 6 then
      if p2 = 0 then
        bnd (f_X2_liesUnder N c2 (y3 + 1) p1) fun x4 c5 =>
        if x4 = 0 then
          f_X9_isInTheWay_43 N s p1 p2 (f_X9_isInTheWay_2 N s p1 p2 n) c5 v3 y3
        else
          some (1, c5)
      else
        f_X9_isInTheWay_43 N s p1 p2 (f_X9_isInTheWay_2 N s p1 p2 n) c2 v3 y3
      else none
noncomputable def f_X9_isInTheWay (N : Nat) (c : hS) (s : Nat) (p1 : Nat) (p2 : Int32) : Option (Int32 × hS) :=
  f_X9_isInTheWay_2 N s p1 p2 N c 0
noncomputable def f_X2_add (c : hS) (b : Nat) (p1 : Int32) : Option (Unit × hS) :=
  if c.1 b 1 < 0 then
    some ((), c)
  else
    if (Int32.ofNat (ln (b + 1))) ≤ c.1 b 1 then
      some ((), c)
    else
      bif j_in (c.1 b 1) (ln (b + 1)) then
      st1 (sI c (b + 1) (c.1 b 1).toNatClampNeg (p1 &&& 255)) fun c1 =>
      st1 (sI c1 b 1 ((c1.1 b 1) + 1)) fun c2 =>
      some ((), c2)
      else none
noncomputable def f_X2_addRow_3 (N : Nat) (b : Nat) (p1 : Nat) (p2 : Int32) (p3 : Int32) : Nat → hS → Int32 → Option (Unit × hS)
  | 0, _, _ => none
  | n + 1, c, v4 =>
  if p3 ≤ v4 then
    some ((), c)
  else
    bnd (f_X2_get c p1 v4) fun x1 c2 =>
    bnd (f_X2_add c2 b x1) fun _ c3 =>
    f_X2_addRow_3 N b p1 p2 p3 n c3 (v4 + 1)
noncomputable def f_X2_addRow (N : Nat) (c : hS) (b : Nat) (p1 : Nat) (p2 : Int32) (p3 : Int32) : Option (Unit × hS) :=
  f_X2_addRow_3 N b p1 p2 p3 N c p2
noncomputable def f_X2_cutTo (c : hS) (b : Nat) (p1 : Int32) : Option (Unit × hS) :=
  if p1 < 0 then
    some ((), c)
  else
    if c.1 b 1 ≤ p1 then
      some ((), c)
    else
      st1 (sI c b 1 p1) fun c1 =>
      some ((), c1)
noncomputable def f_X9_drop_54 (N : Nat) (s : Nat) (p1 : Int32) (c : hS) (v2 : Nat) : Option (Unit × hS) :=
  st1 (sI c s 1 ((c.1 s 1) - 1)) fun c1 =>
  if c1.1 s 1 < 0 then
    some ((), c1)
  else
    if (Int32.ofNat (ln (s + 1))) ≤ c1.1 s 1 then
      some ((), c1)
    else
      bif j_in (c1.1 s 1) (ln (s + 1)) then
      st1 (sR c1 (s + 1) (c1.1 s 1).toNatClampNeg v2) fun c2 =>
      some ((), c2)
      else none
noncomputable def f_X9_drop_13 (N : Nat) (s : Nat) (p1 : Int32) : Nat → hS → Nat → Int32 → Option (Unit × hS)
  | 0, _, _, _ => none
  | n + 1, c, v2, v3 =>
  if c.1 s 1 ≤ (v3 + 1) then
    f_X9_drop_54 N s p1 c v2
  else
    if (Int32.ofNat (ln (s + 1))) ≤ (v3 + 1) then
      f_X9_drop_54 N s p1 c v2
    else
      bif j_in (v3 + 1) (ln (s + 1)) then
      bif Nat.beq (kc (c.2.2 (s + 1) (v3 + 1).toNatClampNeg)) 6 then
      bif j_in v3 (ln (s + 1)) then
      st1 (sR c (s + 1) v3.toNatClampNeg (c.2.2 (s + 1) (v3 + 1).toNatClampNeg)) fun c2 =>
      f_X9_drop_13 N s p1 n c2 v2 (v3 + 1)
      else none
      else none
      else none
noncomputable def f_X9_drop (N : Nat) (c : hS) (s : Nat) (p1 : Int32) : Option (Unit × hS) :=
  bnd (f_X9_member c s p1) fun x1 c2 =>
  opt x1 (
    some ((), c2)) fun y3 =>
    bif Nat.beq (kc y3) 6 then
    f_X9_drop_13 N s p1 N c2 y3 p1
    else none
noncomputable def f_X9_take (N : Nat) (c : hS) (s : Nat) (p1 : Nat) (p2 : Int32) (p3 : Nat) (p4 : Int32) (p5 : Int32) : Option (Unit × hS) :=
  bnd (f_X9_find N c s p1) fun x1 c2 =>
  bnd (f_X9_drop N c2 s x1) fun _ c3 =>
  if c3.1 s 1 < 0 then
    some ((), c3)
  else
    if c3.1 s 1 < (Int32.ofNat (ln (s + 1))) then
      st1 (sI c3 s 1 ((c3.1 s 1) + 1)) fun c4 =>
      bnd (f_X9_member c4 s ((c4.1 s 1) - 1)) fun x5 c6 =>
      opt x5 (
        some ((), c6)) fun y7 =>
        bif Nat.beq (kc y7) 6 then
        bnd (f_X2_cutTo c6 (y7 + 1) 0) fun _ c8 =>
        bnd (f_X2_size c8 p1) fun x9 c10 =>
        bnd (f_X2_addRow N c10 (y7 + 1) p1 0 x9) fun _ c11 =>
        bnd (f_X2_cutTo c11 (y7 + 3) 0) fun _ c12 =>
        bnd (f_X2_addRow N c12 (y7 + 3) p3 p4 p5) fun _ c13 =>
        bif j_b p2 then
        st1 (sI c13 y7 2 p2) fun c14 =>
        some ((), c14)
        else none
        else none
    else
      some ((), c3)
noncomputable def f_X0_arrives_23 (N : Nat) (p1 : Nat) (p2 : Int32) (p3 : Nat) (p4 : Int32) (p5 : Int32) (p6 : Int32) (c : hS) : Option (Int32 × hS) :=
  bnd (f_X6_tell c 11 p6) fun x1 c2 =>
  bif j_b x1 then some (x1, c2) else none
noncomputable def f_X0_arrives (N : Nat) (c : hS) (p1 : Nat) (p2 : Int32) (p3 : Nat) (p4 : Int32) (p5 : Int32) (p6 : Int32) : Option (Int32 × hS) :=
  bnd (f_X9_isInTheWay N c p1 5 p2) fun x1 c2 =>
  if x1 = 0 then
    bnd (f_X9_hasRoomFor N c2 p1 5) fun x3 c4 =>
    if x3 = 0 then
      f_X0_arrives_23 N p1 p2 p3 p4 p5 p6 c4
    else
      bnd (f_X9_take N c4 p1 5 p2 p3 p4 p5) fun _ c5 =>
      some (1, c5)
  else
    f_X0_arrives_23 N p1 p2 p3 p4 p5 p6 c2
noncomputable def f_X0_addTitle (N : Nat) (c : hS) (p1 : Nat) (p2 : Int32) : Option (Unit × hS) :=
  bnd (f_X2_size c (p1 + 1)) fun x1 c2 =>
  bnd (f_X2_addRow N c2 3 (p1 + 1) 0 x1) fun _ c3 =>
  if p2 = 0 then
    some ((), c3)
  else
    if c3.1 p1 2 = 0 then
      some ((), c3)
    else
      bnd (f_X2_add c3 3 47) fun _ c4 =>
      some ((), c4)
noncomputable def f_X11_roundedUp_12 (p0 : Int32) (p1 : Int32) (c : hS) (w0 : Int32) : Option (Int32 × hS) :=
  if w0 = 0 then
    some (p0, c)
  else
    some (((p0 - w0) + p1), c)
noncomputable def f_X11_roundedUp (c : hS) (p0 : Int32) (p1 : Int32) : Option (Int32 × hS) :=
  if 1 ≤ p1 then
    if p1 = 0 then none else
    f_X11_roundedUp_12 p0 p1 c (j_rem p0 p1)
  else
    f_X11_roundedUp_12 p0 p1 c 0
noncomputable def f_X1_isEmptyBlock_2 (N : Nat) (p1 : Int32) : Nat → hS → Int32 → Option (Int32 × hS)
  | 0, _, _ => none
  | n + 1, c, v2 =>
  if 512 ≤ v2 then
    some (1, c)
  else
    bnd (f_X2_get c 3 (p1 + v2)) fun x1 c2 =>
    if x1 = 0 then
      f_X1_isEmptyBlock_2 N p1 n c2 (v2 + 1)
    else
      some (0, c2)
noncomputable def f_X1_isEmptyBlock (N : Nat) (c : hS) (p1 : Int32) : Option (Int32 × hS) :=
  f_X1_isEmptyBlock_2 N p1 N c 0
noncomputable def f_X1_areDigits_39 (N : Nat) (p1 : Int32) (p2 : Int32) (p3 : Int32) (c : hS) (v4 : Int32) : Option (Int32 × hS) :=
  bnd (f_X6_tell c p3 v4) fun x1 c2 =>
  bif j_b x1 then some (x1, c2) else none
noncomputable def f_X1_areDigits_3 (N : Nat) (p1 : Int32) (p2 : Int32) (p3 : Int32) : Nat → hS → Int32 → Option (Int32 × hS)
  | 0, _, _ => none
  | n + 1, c, v4 =>
  if (p1 + p2) ≤ v4 then
    some (1, c)
  else
    bnd (f_X2_get c 3 v4) fun x1 c2 =>
    if x1 < 48 then
      f_X1_areDigits_39 N p1 p2 p3 c2 v4
    else
      bnd (f_X2_get c2 3 v4) fun x3 c4 =>
      if x3 ≤ 55 then
        f_X1_areDigits_3 N p1 p2 p3 n c4 (v4 + 1)
      else
        f_X1_areDigits_39 N p1 p2 p3 c4 v4
noncomputable def f_X1_areDigits (N : Nat) (c : hS) (p1 : Int32) (p2 : Int32) (p3 : Int32) : Option (Int32 × hS) :=
  f_X1_areDigits_3 N p1 p2 p3 N c p1
noncomputable def f_X1_isOctal (N : Nat) (c : hS) (p1 : Int32) (p2 : Int32) : Option (Int32 × hS) :=
  bnd (f_X1_areDigits N c p1 (p2 - 1) 6) fun x1 c2 =>
  if x1 = 0 then
    some (0, c2)
  else
    bnd (f_X2_get c2 3 ((p1 + p2) - 1)) fun x3 c4 =>
    if x3 = 0 then
      some (1, c4)
    else
      bnd (f_X6_tell c4 6 ((p1 + p2) - 1)) fun x5 c6 =>
      if x5 = 0 then
        some (0, c6)
      else
        some (1, c6)
noncomputable def f_X1_octal_5 (N : Nat) (p1 : Int32) (p2 : Int32) : Nat → hS → Int64 → Int32 → Option (Int64 × hS)
  | 0, _, _, _ => none
  | n + 1, c, v3, v5 =>
  if (p1 + p2) ≤ v5 then
    some (v3, c)
  else
    bnd (f_X2_get c 3 v5) fun x1 c2 =>
    f_X1_octal_5 N p1 p2 n c2 ((j_lshl v3 3) ||| ((x1 &&& 7).toInt64)) (v5 + 1)
noncomputable def f_X1_octal (N : Nat) (c : hS) (p1 : Int32) (p2 : Int32) : Option (Int64 × hS) :=
  f_X1_octal_5 N p1 p2 N c 0 p1
noncomputable def f_X1_isSorted_57 (N : Nat) (p1 : Int32) (c : hS) (w0 : Int32) : Option (Int32 × hS) :=
  bnd (f_X1_octal N c (p1 + 124) 11) fun x1 c2 =>
  if j_cmp x1 w0.toInt64 ≤ 0 then
    some (1, c2)
  else
    bnd (f_X6_tell c2 7 (p1 + 124)) fun x3 c4 =>
    if x3 = 0 then
      some (0, c4)
    else
      some (1, c4)
noncomputable def f_X1_isSorted_44 (N : Nat) (p1 : Int32) (c : hS) (v2 : Int32) : Option (Int32 × hS) :=
  if v2 = 53 then
    f_X1_isSorted_57 N p1 c 0
  else
    f_X1_isSorted_57 N p1 c 400
noncomputable def f_X1_isSorted (N : Nat) (c : hS) (p1 : Int32) : Option (Int32 × hS) :=
  bnd (f_X2_get c 3 (p1 + 156)) fun x1 c2 =>
  if x1 = 48 then
    f_X1_isSorted_44 N p1 c2 x1
  else
    if x1 = 0 then
      f_X1_isSorted_44 N p1 c2 x1
    else
      if x1 = 53 then
        f_X1_isSorted_44 N p1 c2 x1
      else
        bnd (f_X6_tell c2 8 (p1 + 156)) fun x3 c4 =>
        bif j_b x3 then some (x3, c4) else none
noncomputable def f_X1_sumOf_31 (N : Nat) (p1 : Int32) (k4 : hS → Int32 → Int32 → Option (Int32 × hS)) (c : hS) (v3 : Int32) (w0 : Int32) : Option (Int32 × hS) :=
  bnd (f_X2_get c 3 (p1 + v3)) fun x1 c2 =>
  k4 c2 (w0 + x1) (v3 + 1)
noncomputable def f_X1_sumOf_4 (N : Nat) (p1 : Int32) : Nat → hS → Int32 → Int32 → Option (Int32 × hS)
  | 0, _, _, _ => none
  | n + 1, c, v2, v3 =>
  if 512 ≤ v3 then
    some (v2, c)
  else
    if v3 < 148 then
      f_X1_sumOf_31 N p1 (f_X1_sumOf_4 N p1 n) c v3 v2
    else
      if 156 ≤ v3 then
        f_X1_sumOf_31 N p1 (f_X1_sumOf_4 N p1 n) c v3 v2
      else
        f_X1_sumOf_4 N p1 n c (v2 + 32) (v3 + 1)
noncomputable def f_X1_sumOf (N : Nat) (c : hS) (p1 : Int32) : Option (Int32 × hS) :=
  f_X1_sumOf_4 N p1 N c 0 0
noncomputable def f_X1_isSummed (N : Nat) (c : hS) (p1 : Int32) : Option (Int32 × hS) :=
  bnd (f_X1_areDigits N c (p1 + 148) 6 3) fun x1 c2 =>
  if x1 = 0 then
    some (0, c2)
  else
    bnd (f_X2_get c2 3 ((p1 + 148) + 6)) fun x3 c4 =>
    if x3 = 0 then
      bnd (f_X2_get c4 3 ((p1 + 148) + 7)) fun x5 c6 =>
      if x5 = 32 then
        bnd (f_X1_octal N c6 (p1 + 148) 6) fun x7 c8 =>
        bnd (f_X1_sumOf N c8 p1) fun x9 c10 =>
        if j_cmp x7 x9.toInt64 = 0 then
          some (1, c10)
        else
          bnd (f_X6_tell c10 4 (p1 + 148)) fun x11 c12 =>
          if x11 = 0 then
            some (0, c12)
          else
            some (1, c12)
      else
        bnd (f_X6_tell c6 3 ((p1 + 148) + 7)) fun x13 c14 =>
        bif j_b x13 then some (x13, c14) else none
    else
      bnd (f_X6_tell c4 3 ((p1 + 148) + 6)) fun x15 c16 =>
      bif j_b x15 then some (x15, c16) else none
noncomputable def f_X1_isHead (N : Nat) (c : hS) (p1 : Int32) : Option (Int32 × hS) :=
  bnd (f_X1_isSummed N c p1) fun x1 c2 =>
  if x1 = 0 then
    some (0, c2)
  else
    bnd (f_X0_isMarked N c2 (p1 + 257) sa1 5) fun x3 c4 =>
    if x3 = 0 then
      some (0, c4)
    else
      bnd (f_X1_isOctal N c4 (p1 + 100) 8) fun x5 c6 =>
      if x5 = 0 then
        some (0, c6)
      else
        bnd (f_X1_isOctal N c6 (p1 + 108) 8) fun x7 c8 =>
        if x7 = 0 then
          some (0, c8)
        else
          bnd (f_X1_isOctal N c8 (p1 + 116) 8) fun x9 c10 =>
          if x9 = 0 then
            some (0, c10)
          else
            bnd (f_X1_isOctal N c10 (p1 + 124) 12) fun x11 c12 =>
            if x11 = 0 then
              some (0, c12)
            else
              bnd (f_X1_isOctal N c12 (p1 + 136) 12) fun x13 c14 =>
              if x13 = 0 then
                some (0, c14)
              else
                bnd (f_X1_isSorted N c14 p1) fun x15 c16 =>
                if x15 = 0 then
                  some (0, c16)
                else
                  some (1, c16)
noncomputable def f_X1_addToPath_2 (N : Nat) (p1 : Int32) (p2 : Int32) : Nat → hS → Int32 → Option (Unit × hS)
  | 0, _, _ => none
  | n + 1, c, v3 =>
  if (p1 + p2) ≤ v3 then
    some ((), c)
  else
    bnd (f_X2_get c 3 v3) fun x1 c2 =>
    if x1 = 0 then
      some ((), c2)
    else
      bnd (f_X2_get c2 3 v3) fun x3 c4 =>
      bnd (f_X2_add c4 5 x3) fun _ c5 =>
      f_X1_addToPath_2 N p1 p2 n c5 (v3 + 1)
noncomputable def f_X1_addToPath (N : Nat) (c : hS) (p1 : Int32) (p2 : Int32) : Option (Unit × hS) :=
  f_X1_addToPath_2 N p1 p2 N c p1
noncomputable def f_X1_spell_39 (N : Nat) (p1 : Int32) (p2 : Int32) (c : hS) : Option (Unit × hS) :=
  bnd (f_X1_addToPath N c p1 100) fun _ c1 =>
  bnd (f_X2_size c1 5) fun x2 c3 =>
  if p2 = 0 then
    some ((), c3)
  else
    bnd (f_X2_get c3 5 (x2 - 1)) fun x4 c5 =>
    if x4 = 47 then
      bnd (f_X2_cutTo c5 5 (x2 - 1)) fun _ c6 =>
      some ((), c6)
    else
      some ((), c5)
noncomputable def f_X1_spell (N : Nat) (c : hS) (p1 : Int32) (p2 : Int32) : Option (Unit × hS) :=
  bnd (f_X2_cutTo c 5 0) fun _ c1 =>
  bnd (f_X1_addToPath N c1 (p1 + 345) 155) fun _ c2 =>
  bnd (f_X2_size c2 5) fun x3 c4 =>
  if x3 ≤ 0 then
    f_X1_spell_39 N p1 p2 c4
  else
    bnd (f_X2_add c4 5 47) fun _ c5 =>
    f_X1_spell_39 N p1 p2 c5
noncomputable def f_X1_takeIn_92 (N : Nat) (p1 : Nat) (k4 : hS → Int32 → Int32 → Option (Int32 × hS)) (c : hS) (v2 : Int32) (v3 : Int32) (w0 : Int32) : Option (Int32 × hS) :=
  bnd (f_X1_octal N c (v2 + 124) 11) fun x1 c2 =>
  bnd (f_X11_roundedUp c2 x1.toInt32 512) fun x3 c4 =>
  bnd (f_X1_spell N c4 v2 w0) fun _ c5 =>
  bnd (f_X0_isNamed N c5 v2) fun x6 c7 =>
  if x6 = 0 then
    some (0, c7)
  else
    bnd (f_X0_reaches c7 ((v2 + 512) + x3)) fun x8 c9 =>
    if x8 = 0 then
      some (0, c9)
    else
      bnd (f_X0_arrives N c9 p1 w0 3 (v2 + 512) ((v2 + 512) + x1.toInt32) v2) fun x10 c11 =>
      if x10 = 0 then
        some (0, c11)
      else
        k4 c11 ((v2 + 512) + x3) (v3 + 1)
noncomputable def f_X1_takeIn_184 (N : Nat) (p1 : Nat) (c : hS) : Option (Int32 × hS) :=
  bnd (f_X2_size c 3) fun x1 c2 =>
  bnd (f_X6_tell c2 1 x1) fun x3 c4 =>
  bif j_b x3 then some (x3, c4) else none
noncomputable def f_X1_takeIn_4 (N : Nat) (p1 : Nat) : Nat → hS → Int32 → Int32 → Option (Int32 × hS)
  | 0, _, _, _ => none
  | n + 1, c, v2, v3 =>
  if 20000 ≤ v3 then
    f_X1_takeIn_184 N p1 c
  else
    bnd (f_X2_size c 3) fun x1 c2 =>
    if x1 < (v2 + 512) then
      f_X1_takeIn_184 N p1 c2
    else
      bnd (f_X1_isEmptyBlock N c2 v2) fun x3 c4 =>
      if x3 = 0 then
        bnd (f_X1_isHead N c4 v2) fun x5 c6 =>
        if x5 = 0 then
          some (0, c6)
        else
          bnd (f_X2_get c6 3 (v2 + 156)) fun x7 c8 =>
          if x7 = 53 then
            f_X1_takeIn_92 N p1 (f_X1_takeIn_4 N p1 n) c8 v2 v3 1
          else
            f_X1_takeIn_92 N p1 (f_X1_takeIn_4 N p1 n) c8 v2 v3 0
      else
        bnd (f_X0_reaches c4 (v2 + 1024)) fun x9 c10 =>
        if x9 = 0 then
          some (0, c10)
        else
          bnd (f_X0_isZeroFrom N c10 v2) fun x11 c12 =>
          if x11 = 0 then
            some (0, c12)
          else
            some (1, c12)
noncomputable def f_X1_takeIn (N : Nat) (c : hS) (p1 : Nat) : Option (Int32 × hS) :=
  f_X1_takeIn_4 N p1 N c 0 0
noncomputable def f_X1_addOctal_4 (N : Nat) (p1 : Int32) (p2 : Int32) : Nat → hS → Int32 → Option (Unit × hS)
  | 0, _, _ => none
  | n + 1, c, v3 =>
  if v3 < 0 then
    some ((), c)
  else
    bnd (f_X2_add c 3 (48 + ((j_ushr p1 (3 * v3)) &&& 7))) fun _ c1 =>
    f_X1_addOctal_4 N p1 p2 n c1 (v3 + (-1))
noncomputable def f_X1_addOctal (N : Nat) (c : hS) (p1 : Int32) (p2 : Int32) : Option (Unit × hS) :=
  f_X1_addOctal_4 N p1 p2 N c (p2 - 1)
noncomputable def f_X2_set (c : hS) (b : Nat) (p1 : Int32) (p2 : Int32) : Option (Unit × hS) :=
  if p1 < 0 then
    some ((), c)
  else
    if c.1 b 1 ≤ p1 then
      some ((), c)
    else
      if (Int32.ofNat (ln (b + 1))) ≤ p1 then
        some ((), c)
      else
        bif j_in p1 (ln (b + 1)) then
        st1 (sI c (b + 1) p1.toNatClampNeg (p2 &&& 255)) fun c1 =>
        some ((), c1)
        else none
noncomputable def f_X1_setSum_8 (N : Nat) (p1 : Int32) : Nat → hS → Int32 → Int32 → Option (Unit × hS)
  | 0, _, _, _ => none
  | n + 1, c, v2, v3 =>
  if 6 ≤ v3 then
    some ((), c)
  else
    bnd (f_X2_set c 3 ((p1 + 148) + v3) (48 + ((j_ushr v2 (3 * (5 - v3))) &&& 7))) fun _ c1 =>
    f_X1_setSum_8 N p1 n c1 v2 (v3 + 1)
noncomputable def f_X1_setSum (N : Nat) (c : hS) (p1 : Int32) : Option (Unit × hS) :=
  bnd (f_X1_sumOf N c p1) fun x1 c2 =>
  f_X1_setSum_8 N p1 N c2 x1 0
noncomputable def f_X2_addMark_2 (N : Nat) (b : Nat) (p1 : List Int32) : Nat → hS → Int32 → Option (Unit × hS)
  | 0, _, _ => none
  | n + 1, c, v2 =>
  if (Int32.ofNat p1.length) ≤ v2 then
    some ((), c)
  else
    bif j_in v2 p1.length then
    bnd (f_X2_add c b (p1.getD v2.toNatClampNeg 0)) fun _ c1 =>
    f_X2_addMark_2 N b p1 n c1 (v2 + 1)
    else none
noncomputable def f_X2_addMark (N : Nat) (c : hS) (b : Nat) (p1 : List Int32) : Option (Unit × hS) :=
  f_X2_addMark_2 N b p1 N c 0
noncomputable def f_X2_addText_2 (N : Nat) (b : Nat) (p1 : List Int32) : Nat → hS → Int32 → Option (Unit × hS)
  | 0, _, _ => none
  | n + 1, c, v2 =>
  if (Int32.ofNat p1.length) ≤ v2 then
    some ((), c)
  else
    bif j_in v2 p1.length then
    bnd (f_X2_add c b (p1.getD v2.toNatClampNeg 0)) fun _ c1 =>
    f_X2_addText_2 N b p1 n c1 (v2 + 1)
    else none
noncomputable def f_X2_addText (N : Nat) (c : hS) (b : Nat) (p1 : List Int32) : Option (Unit × hS) :=
  f_X2_addText_2 N b p1 N c 0
noncomputable def f_X2_addZeros_2 (N : Nat) (b : Nat) (p1 : Int32) : Nat → hS → Int32 → Option (Unit × hS)
  | 0, _, _ => none
  | n + 1, c, v2 =>
  if p1 ≤ v2 then
    some ((), c)
  else
    bnd (f_X2_add c b 0) fun _ c1 =>
    f_X2_addZeros_2 N b p1 n c1 (v2 + 1)
noncomputable def f_X2_addZeros (N : Nat) (c : hS) (b : Nat) (p1 : Int32) : Option (Unit × hS) :=
  f_X2_addZeros_2 N b p1 N c 0
noncomputable def f_X1_addHead_176 (N : Nat) (p1 : Nat) (c : hS) (v2 : Int32) (w0 : Int32) : Option (Unit × hS) :=
  bnd (f_X2_add c 3 w0) fun _ c1 =>
  bnd (f_X2_size c1 3) fun x2 c3 =>
  bnd (f_X2_addZeros N c3 3 ((v2 + 257) - x2)) fun _ c4 =>
  bnd (f_X2_addMark N c4 3 sa1) fun _ c5 =>
  bnd (f_X2_size c5 3) fun x6 c7 =>
  bnd (f_X2_addZeros N c7 3 ((v2 + 329) - x6)) fun _ c8 =>
  bnd (f_X2_addText N c8 3 tx17) fun _ c9 =>
  bnd (f_X2_add c9 3 0) fun _ c10 =>
  bnd (f_X2_addText N c10 3 tx17) fun _ c11 =>
  bnd (f_X2_size c11 3) fun x12 c13 =>
  bnd (f_X2_addZeros N c13 3 ((v2 + 512) - x12)) fun _ c14 =>
  bnd (f_X1_setSum N c14 v2) fun _ c15 =>
  some ((), c15)
noncomputable def f_X1_addHead_51 (N : Nat) (p1 : Nat) (c : hS) (v2 : Int32) (w0 : List Int32) : Option (Unit × hS) :=
  bnd (f_X2_addText N c 3 w0) fun _ c1 =>
  bnd (f_X2_add c1 3 0) fun _ c2 =>
  bnd (f_X2_addText N c2 3 tx17) fun _ c3 =>
  bnd (f_X2_add c3 3 0) fun _ c4 =>
  bnd (f_X2_addText N c4 3 tx17) fun _ c5 =>
  bnd (f_X2_add c5 3 0) fun _ c6 =>
  bnd (f_X2_size c6 (p1 + 3)) fun x7 c8 =>
  bnd (f_X1_addOctal N c8 x7 11) fun _ c9 =>
  bnd (f_X2_add c9 3 0) fun _ c10 =>
  bnd (f_X1_addOctal N c10 0 11) fun _ c11 =>
  bnd (f_X2_add c11 3 0) fun _ c12 =>
  bnd (f_X2_addText N c12 3 tx18) fun _ c13 =>
  bnd (f_X2_add c13 3 0) fun _ c14 =>
  bnd (f_X2_add c14 3 32) fun _ c15 =>
  if c15.1 p1 2 = 0 then
    f_X1_addHead_176 N p1 c15 v2 48
  else
    f_X1_addHead_176 N p1 c15 v2 53
noncomputable def f_X1_addHead (N : Nat) (c : hS) (p1 : Nat) : Option (Unit × hS) :=
  bnd (f_X2_size c 3) fun x1 c2 =>
  bnd (f_X0_addTitle N c2 p1 1) fun _ c3 =>
  bnd (f_X2_size c3 3) fun x4 c5 =>
  bnd (f_X2_addZeros N c5 3 ((x1 + 100) - x4)) fun _ c6 =>
  if c6.1 p1 2 = 0 then
    f_X1_addHead_51 N p1 c6 x1 tx16
  else
    f_X1_addHead_51 N p1 c6 x1 tx15
noncomputable def f_X9_size (c : hS) (s : Nat) : Option (Int32 × hS) :=
  some (c.1 s 1, c)
noncomputable def f_X1_layOut_2 (N : Nat) (p1 : Nat) (p2 : Int32) : Nat → hS → Int32 → Option (Unit × hS)
  | 0, _, _ => none
  | n + 1, c, v3 =>
  bnd (f_X9_size c p1) fun x1 c2 =>
  if x1 ≤ v3 then
    bnd (f_X2_addZeros N c2 3 1024) fun _ c3 =>
    some ((), c3)
  else
    bnd (f_X9_member c2 p1 v3) fun x4 c5 =>
    opt x4 (
      f_X1_layOut_2 N p1 p2 n c5 (v3 + 1)) fun y6 =>
      bif Nat.beq (kc y6) 6 then
      bnd (f_X1_addHead N c5 y6) fun _ c7 =>
      bnd (f_X2_size c7 (y6 + 3)) fun x8 c9 =>
      bnd (f_X2_addRow N c9 3 (y6 + 3) 0 x8) fun _ c10 =>
      bnd (f_X11_roundedUp c10 x8 512) fun x11 c12 =>
      bnd (f_X2_addZeros N c12 3 (x11 - x8)) fun _ c13 =>
      f_X1_layOut_2 N p1 p2 n c13 (v3 + 1)
      else none
noncomputable def f_X1_layOut (N : Nat) (c : hS) (p1 : Nat) (p2 : Int32) : Option (Unit × hS) :=
  f_X1_layOut_2 N p1 p2 N c 0
noncomputable def f_X2_has (c : hS) (b : Nat) (p1 : Int32) : Option (Int32 × hS) :=
  if p1 < 0 then
    some (0, c)
  else
    if c.1 b 1 ≤ p1 then
      some (0, c)
    else
      some (1, c)
noncomputable def f_X2_addBig_5 (N : Nat) (b : Nat) (p1 : Int64) (p3 : Int32) : Nat → hS → Int32 → Option (Unit × hS)
  | 0, _, _ => none
  | n + 1, c, v4 =>
  if v4 < 0 then
    some ((), c)
  else
    bnd (f_X2_add c b ((j_lushr p1 (8 * v4)).toInt32)) fun _ c1 =>
    f_X2_addBig_5 N b p1 p3 n c1 (v4 + (-1))
noncomputable def f_X2_addBig (N : Nat) (c : hS) (b : Nat) (p1 : Int64) (p3 : Int32) : Option (Unit × hS) :=
  f_X2_addBig_5 N b p1 p3 N c (p3 - 1)
noncomputable def f_X2_addLittle_3 (N : Nat) (b : Nat) (p1 : Int64) (p3 : Int32) : Nat → hS → Int32 → Option (Unit × hS)
  | 0, _, _ => none
  | n + 1, c, v4 =>
  if p3 ≤ v4 then
    some ((), c)
  else
    bnd (f_X2_add c b ((j_lushr p1 (8 * v4)).toInt32)) fun _ c1 =>
    f_X2_addLittle_3 N b p1 p3 n c1 (v4 + 1)
noncomputable def f_X2_addLittle (N : Nat) (c : hS) (b : Nat) (p1 : Int64) (p3 : Int32) : Option (Unit × hS) :=
  f_X2_addLittle_3 N b p1 p3 N c 0
noncomputable def f_X2_little_7 (N : Nat) (b : Nat) (p1 : Int32) (p2 : Int32) : Nat → hS → Int64 → Int32 → Option (Int64 × hS)
  | 0, _, _, _ => none
  | n + 1, c, v3, v5 =>
  if v5 < 0 then
    some (v3, c)
  else
    bnd (f_X2_get c b (p1 + v5)) fun x1 c2 =>
    f_X2_little_7 N b p1 p2 n c2 ((j_lshl v3 8) ||| x1.toInt64) (v5 + (-1))
noncomputable def f_X2_little (N : Nat) (c : hS) (b : Nat) (p1 : Int32) (p2 : Int32) : Option (Int64 × hS) :=
  f_X2_little_7 N b p1 p2 N c 0 (p2 - 1)
noncomputable def f_X2_isText_15 (N : Nat) (b : Nat) (p1 : List Int32) : Nat → hS → Int32 → Option (Int32 × hS)
  | 0, _, _ => none
  | n + 1, c, v2 =>
  if (Int32.ofNat p1.length) ≤ v2 then
    some (1, c)
  else
    bnd (f_X2_get c b v2) fun x1 c2 =>
    bif j_in v2 p1.length then
    if x1 = p1.getD v2.toNatClampNeg 0 then
      f_X2_isText_15 N b p1 n c2 (v2 + 1)
    else
      some (0, c2)
    else none
noncomputable def f_X2_isText (N : Nat) (c : hS) (b : Nat) (p1 : List Int32) : Option (Int32 × hS) :=
  if c.1 b 1 = (Int32.ofNat p1.length) then
    f_X2_isText_15 N b p1 N c 0
  else
    some (0, c)
noncomputable def f_X3_longest (c : hS) (d : Nat) : Option (Int32 × hS) :=
  some (c.1 d 4, c)
noncomputable def f_X3_amount (c : hS) (d : Nat) (p1 : Int32) : Option (Int32 × hS) :=
  if p1 ≤ 0 then
    some (0, c)
  else
    if (Int32.ofNat (ln (d + 1))) ≤ p1 then
      some (0, c)
    else
      bif j_in p1 (ln (d + 1)) then
      some (c.1 (d + 1) p1.toNatClampNeg, c)
      else none
noncomputable def f_X3_symbol (c : hS) (d : Nat) (p1 : Int32) : Option (Int32 × hS) :=
  if p1 < 0 then
    some ((-1), c)
  else
    if c.1 d 3 ≤ p1 then
      some ((-1), c)
    else
      if (Int32.ofNat (ln (d + 3))) ≤ p1 then
        some ((-1), c)
      else
        bif j_in p1 (ln (d + 3)) then
        some (c.1 (d + 3) p1.toNatClampNeg, c)
        else none
noncomputable def f_X3_placeLengths_12 (N : Nat) (d : Nat) : Nat → hS → Int32 → Option (Unit × hS)
  | 0, _, _ => none
  | n + 1, c, v1 =>
  if (Int32.ofNat (ln (d + 1))) ≤ v1 then
    some ((), c)
  else
    if (Int32.ofNat (ln (d + 2))) ≤ v1 then
      some ((), c)
    else
      bif j_in v1 (ln (d + 2)) then
      st1 (sI c (d + 2) v1.toNatClampNeg (c.1 d 3)) fun c1 =>
      bif j_in v1 (ln (d + 1)) then
      st1 (sI c1 d 3 ((c1.1 d 3) + (c1.1 (d + 1) v1.toNatClampNeg))) fun c2 =>
      bif j_in v1 (ln (d + 1)) then
      if c2.1 (d + 1) v1.toNatClampNeg ≤ 0 then
        f_X3_placeLengths_12 N d n c2 (v1 + 1)
      else
        st1 (sI c2 d 4 v1) fun c3 =>
        f_X3_placeLengths_12 N d n c3 (v1 + 1)
      else none
      else none
      else none
noncomputable def f_X3_placeLengths (N : Nat) (c : hS) (d : Nat) : Option (Unit × hS) :=
  st1 (sI c d 3 0) fun c1 =>
  st1 (sI c1 d 4 0) fun c2 =>
  f_X3_placeLengths_12 N d N c2 1
noncomputable def f_X3_placeSymbol_40 (d : Nat) (p1 : Int32) (p2 : Int32) (c : hS) : Option (Unit × hS) :=
  bif j_in p2 (ln (d + 2)) then
  bif j_in p2 (ln (d + 2)) then
  st1 (sI c (d + 2) p2.toNatClampNeg ((c.1 (d + 2) p2.toNatClampNeg) + 1)) fun c1 =>
  some ((), c1)
  else none
  else none
noncomputable def f_X3_placeSymbol (c : hS) (d : Nat) (p1 : Int32) (p2 : Int32) : Option (Unit × hS) :=
  if p2 ≤ 0 then
    some ((), c)
  else
    if (Int32.ofNat (ln (d + 2))) ≤ p2 then
      some ((), c)
    else
      bif j_in p2 (ln (d + 2)) then
      if c.1 (d + 2) p2.toNatClampNeg < 0 then
        f_X3_placeSymbol_40 d p1 p2 c
      else
        if (Int32.ofNat (ln (d + 3))) ≤ c.1 (d + 2) p2.toNatClampNeg then
          f_X3_placeSymbol_40 d p1 p2 c
        else
          bif j_in (c.1 (d + 2) p2.toNatClampNeg) (ln (d + 3)) then
          st1 (sI c (d + 3) (c.1 (d + 2) p2.toNatClampNeg).toNatClampNeg p1) fun c1 =>
          f_X3_placeSymbol_40 d p1 p2 c1
          else none
      else none
noncomputable def f_X3_order_110 (N : Nat) (d : Nat) (p2 : Int32) (p3 : Int32) : Nat → hS → Int32 → Int32 → Option (Unit × hS)
  | 0, _, _, _ => none
  | n + 1, c, v4, v5 =>
  if v4 ≤ v5 then
    some ((), c)
  else
    bif j_in v5 (ln 32) then
    bnd (f_X3_placeSymbol c d (v5 - p2) (c.1 32 v5.toNatClampNeg)) fun _ c1 =>
    f_X3_order_110 N d p2 p3 n c1 v4 (v5 + 1)
    else none
noncomputable def f_X3_order_54 (N : Nat) (d : Nat) (p2 : Int32) (p3 : Int32) : Nat → hS → Int32 → Int32 → Option (Unit × hS)
  | 0, _, _, _ => none
  | n + 1, c, v4, v5 =>
  if v4 ≤ v5 then
    bnd (f_X3_placeLengths N c d) fun _ c1 =>
    f_X3_order_110 N d p2 p3 N c1 v4 (j_max p2 0)
  else
    bif j_in v5 (ln 32) then
    if c.1 32 v5.toNatClampNeg ≤ 0 then
      f_X3_order_54 N d p2 p3 n c v4 (v5 + 1)
    else
      if (Int32.ofNat (ln (d + 1))) ≤ c.1 32 v5.toNatClampNeg then
        f_X3_order_54 N d p2 p3 n c v4 (v5 + 1)
      else
        bif j_in (c.1 32 v5.toNatClampNeg) (ln (d + 1)) then
        bif j_in (c.1 32 v5.toNatClampNeg) (ln (d + 1)) then
        st1 (sI c (d + 1) (c.1 32 v5.toNatClampNeg).toNatClampNeg ((c.1 (d + 1) (c.1 32 v5.toNatClampNeg).toNatClampNeg) + 1)) fun c2 =>
        f_X3_order_54 N d p2 p3 n c2 v4 (v5 + 1)
        else none
        else none
    else none
noncomputable def f_X3_order_3 (N : Nat) (d : Nat) (p2 : Int32) (p3 : Int32) : Nat → hS → Int32 → Option (Unit × hS)
  | 0, _, _ => none
  | n + 1, c, v4 =>
  if (Int32.ofNat (ln (d + 1))) ≤ v4 then
    f_X3_order_54 N d p2 p3 N c (j_min (j_min (p2 + p3) (p2 + (Int32.ofNat (ln (d + 3))))) (Int32.ofNat (ln 32))) (j_max p2 0)
  else
    bif j_in v4 (ln (d + 1)) then
    st1 (sI c (d + 1) v4.toNatClampNeg 0) fun c1 =>
    f_X3_order_3 N d p2 p3 n c1 (v4 + 1)
    else none
noncomputable def f_X3_order (N : Nat) (c : hS) (d : Nat) (p2 : Int32) (p3 : Int32) : Option (Unit × hS) :=
  f_X3_order_3 N d p2 p3 N c 0
noncomputable def f_X3_areComplete_4 (N : Nat) (d : Nat) : Nat → hS → Int32 → Int32 → Option (Int32 × hS)
  | 0, _, _, _ => none
  | n + 1, c, v1, v2 =>
  if (Int32.ofNat (ln (d + 1))) ≤ v2 then
    if v1 = 32768 then
      some (1, c)
    else
      some (0, c)
  else
    bif j_in v2 (ln (d + 1)) then
    f_X3_areComplete_4 N d n c (v1 + (j_shl (c.1 (d + 1) v2.toNatClampNeg) (15 - v2))) (v2 + 1)
    else none
noncomputable def f_X3_areComplete (N : Nat) (c : hS) (d : Nat) : Option (Int32 × hS) :=
  f_X3_areComplete_4 N d N c 0 1
noncomputable def f_X3_areNoneOrOneBit (c : hS) (d : Nat) : Option (Int32 × hS) :=
  if c.1 d 3 = 0 then
    some (1, c)
  else
    if c.1 d 3 = 1 then
      if c.1 d 4 = 1 then
        some (1, c)
      else
        some (0, c)
    else
      some (0, c)
noncomputable def f_X4_sortBits (c : hS) (p0 : Int64) : Option (Int32 × hS) :=
  some (((j_lushr p0 12) &&& 15).toInt32, c)
noncomputable def f_X4_digit_34 (p0 : Int32) (c : hS) : Option (Int32 × hS) :=
  if p0 < 65 then
    some ((-1), c)
  else
    if 70 < p0 then
      some ((-1), c)
    else
      some ((p0 - 55), c)
noncomputable def f_X4_digit_17 (p0 : Int32) (c : hS) : Option (Int32 × hS) :=
  if p0 < 97 then
    f_X4_digit_34 p0 c
  else
    if 102 < p0 then
      f_X4_digit_34 p0 c
    else
      some ((p0 - 87), c)
noncomputable def f_X4_digit (c : hS) (p0 : Int32) : Option (Int32 × hS) :=
  if p0 < 48 then
    f_X4_digit_17 p0 c
  else
    if 57 < p0 then
      f_X4_digit_17 p0 c
    else
      some ((p0 - 48), c)
noncomputable def f_X4_number_5 (N : Nat) (p1 : Int32) : Nat → hS → Int64 → Int32 → Option (Int64 × hS)
  | 0, _, _, _ => none
  | n + 1, c, v2, v4 =>
  if (p1 + 8) ≤ v4 then
    some (v2, c)
  else
    bnd (f_X2_get c 3 v4) fun x1 c2 =>
    bnd (f_X4_digit c2 x1) fun x3 c4 =>
    f_X4_number_5 N p1 n c4 ((j_lshl v2 4) ||| ((x3 &&& 15).toInt64)) (v4 + 1)
noncomputable def f_X4_number (N : Nat) (c : hS) (p1 : Int32) : Option (Int64 × hS) :=
  f_X4_number_5 N p1 N c 0 p1
noncomputable def f_X4_sortOf (N : Nat) (c : hS) (p1 : Int32) : Option (Int32 × hS) :=
  bnd (f_X4_number N c (p1 + 14)) fun x1 c2 =>
  bnd (f_X4_sortBits c2 x1) fun x3 c4 =>
  some (x3, c4)
noncomputable def f_X4_isDirectory (N : Nat) (c : hS) (p1 : Int32) : Option (Int32 × hS) :=
  bnd (f_X4_sortOf N c p1) fun x1 c2 =>
  bnd (f_X4_sortBits c2 16877) fun x3 c4 =>
  if x1 = x3 then
    some (1, c4)
  else
    some (0, c4)
noncomputable def f_X4_isHead_21 (N : Nat) (p1 : Int32) : Nat → hS → Int32 → Option (Int32 × hS)
  | 0, _, _ => none
  | n + 1, c, v2 =>
  if (p1 + 110) ≤ v2 then
    some (1, c)
  else
    bnd (f_X2_get c 3 v2) fun x1 c2 =>
    bnd (f_X4_digit c2 x1) fun x3 c4 =>
    if x3 = (-1) then
      bnd (f_X6_tell c4 6 v2) fun x5 c6 =>
      bif j_b x5 then some (x5, c6) else none
    else
      f_X4_isHead_21 N p1 n c4 (v2 + 1)
noncomputable def f_X4_isHead (N : Nat) (c : hS) (p1 : Int32) : Option (Int32 × hS) :=
  bnd (f_X0_isMarked N c p1 sa2 3) fun x1 c2 =>
  if x1 = 0 then
    some (0, c2)
  else
    f_X4_isHead_21 N p1 N c2 (p1 + (Int32.ofNat sa2.length))
noncomputable def f_X4_isSized (N : Nat) (c : hS) (p1 : Int32) (p2 : Int32) : Option (Int32 × hS) :=
  bnd (f_X4_number N c (p1 + 54)) fun x1 c2 =>
  if j_cmp x1 p2.toInt64 ≤ 0 then
    some (1, c2)
  else
    bnd (f_X6_tell c2 7 (p1 + 54)) fun x3 c4 =>
    if x3 = 0 then
      some (0, c4)
    else
      some (1, c4)
noncomputable def f_X4_isMember_83 (N : Nat) (p1 : Int32) (c : hS) (w0 : Int32) (w1 : Int32) : Option (Int32 × hS) :=
  bnd (f_X4_isSized N c w1 w0) fun x1 c2 =>
  if x1 = 0 then
    some (0, c2)
  else
    bnd (f_X0_isNamed N c2 (p1 + 110)) fun x3 c4 =>
    if x3 = 0 then
      some (0, c4)
    else
      some (1, c4)
noncomputable def f_X4_isMember_40 (N : Nat) (p1 : Int32) (c : hS) : Option (Int32 × hS) :=
  bnd (f_X4_number N c (p1 + 102)) fun x1 c2 =>
  if j_cmp x1 0 = 0 then
    bnd (f_X4_isDirectory N c2 p1) fun x3 c4 =>
    if x3 = 0 then
      f_X4_isMember_83 N p1 c4 400 p1
    else
      f_X4_isMember_83 N p1 c4 0 p1
  else
    bnd (f_X6_tell c2 4 (p1 + 102)) fun x5 c6 =>
    bif j_b x5 then some (x5, c6) else none
noncomputable def f_X4_isMember (N : Nat) (c : hS) (p1 : Int32) : Option (Int32 × hS) :=
  bnd (f_X4_sortOf N c p1) fun x1 c2 =>
  bnd (f_X4_sortBits c2 33188) fun x3 c4 =>
  if x1 = x3 then
    f_X4_isMember_40 N p1 c4
  else
    bnd (f_X4_sortBits c4 16877) fun x5 c6 =>
    if x1 = x5 then
      f_X4_isMember_40 N p1 c6
    else
      bnd (f_X6_tell c6 8 (p1 + 14)) fun x7 c8 =>
      bif j_b x7 then some (x7, c8) else none
noncomputable def f_X4_isSpelt_23 (N : Nat) (p1 : Int32) (c : hS) : Option (Int32 × hS) :=
  bnd (f_X6_tell c 10 (p1 + 94)) fun x1 c2 =>
  bif j_b x1 then some (x1, c2) else none
noncomputable def f_X4_isSpelt (N : Nat) (c : hS) (p1 : Int32) : Option (Int32 × hS) :=
  bnd (f_X4_number N c (p1 + 94)) fun x1 c2 =>
  if j_cmp x1 1 < 0 then
    f_X4_isSpelt_23 N p1 c2
  else
    if j_cmp x1 100 ≤ 0 then
      bnd (f_X0_reaches c2 ((((p1 + 110) + x1.toInt32) - 1) + 1)) fun x3 c4 =>
      if x3 = 0 then
        some (0, c4)
      else
        bnd (f_X2_get c4 3 (((p1 + 110) + x1.toInt32) - 1)) fun x5 c6 =>
        if x5 = 0 then
          bnd (f_X2_cutTo c6 5 0) fun _ c7 =>
          bnd (f_X2_addRow N c7 5 3 (p1 + 110) (((p1 + 110) + x1.toInt32) - 1)) fun _ c8 =>
          some (1, c8)
        else
          bnd (f_X6_tell c6 10 (((p1 + 110) + x1.toInt32) - 1)) fun x9 c10 =>
          bif j_b x9 then some (x9, c10) else none
    else
      f_X4_isSpelt_23 N p1 c2
noncomputable def f_X4_takeIn_180 (N : Nat) (p1 : Nat) (c : hS) : Option (Int32 × hS) :=
  bnd (f_X2_size c 3) fun x1 c2 =>
  bnd (f_X6_tell c2 1 x1) fun x3 c4 =>
  bif j_b x3 then some (x3, c4) else none
noncomputable def f_X4_takeIn_4 (N : Nat) (p1 : Nat) : Nat → hS → Int32 → Int32 → Option (Int32 × hS)
  | 0, _, _, _ => none
  | n + 1, c, v2, v3 =>
  if 20000 ≤ v3 then
    f_X4_takeIn_180 N p1 c
  else
    bnd (f_X2_size c 3) fun x1 c2 =>
    if x1 < (v2 + 110) then
      f_X4_takeIn_180 N p1 c2
    else
      bnd (f_X4_isHead N c2 v2) fun x3 c4 =>
      if x3 = 0 then
        some (0, c4)
      else
        bnd (f_X4_isSpelt N c4 v2) fun x5 c6 =>
        if x5 = 0 then
          some (0, c6)
        else
          bnd (f_X2_size c6 5) fun x7 c8 =>
          bnd (f_X2_isText N c8 5 tx19) fun x9 c10 =>
          if x9 = 0 then
            bnd (f_X4_isMember N c10 v2) fun x11 c12 =>
            if x11 = 0 then
              some (0, c12)
            else
              bnd (f_X11_roundedUp c12 (((v2 + 110) + x7) + 1) 4) fun x13 c14 =>
              bnd (f_X4_number N c14 (v2 + 54)) fun x15 c16 =>
              bnd (f_X11_roundedUp c16 (x13 + x15.toInt32) 4) fun x17 c18 =>
              bnd (f_X0_reaches c18 x17) fun x19 c20 =>
              if x19 = 0 then
                some (0, c20)
              else
                bnd (f_X4_isDirectory N c20 v2) fun x21 c22 =>
                bnd (f_X0_arrives N c22 p1 x21 3 x13 (x13 + x15.toInt32) v2) fun x23 c24 =>
                if x23 = 0 then
                  some (0, c24)
                else
                  f_X4_takeIn_4 N p1 n c24 x17 (v3 + 1)
          else
            bnd (f_X4_isSized N c10 v2 0) fun x25 c26 =>
            if x25 = 0 then
              some (0, c26)
            else
              bnd (f_X0_isZeroFrom N c26 (((v2 + 110) + x7) + 1)) fun x27 c28 =>
              if x27 = 0 then
                some (0, c28)
              else
                some (1, c28)
noncomputable def f_X4_takeIn (N : Nat) (c : hS) (p1 : Nat) : Option (Int32 × hS) :=
  f_X4_takeIn_4 N p1 N c 0 0
noncomputable def f_X4_addNumber_3 (N : Nat) (p1 : Int32) : Nat → hS → Int32 → Option (Unit × hS)
  | 0, _, _ => none
  | n + 1, c, v2 =>
  if v2 < 0 then
    some ((), c)
  else
    if 10 ≤ ((j_ushr p1 v2) &&& 15) then
      bnd (f_X2_add c 3 (87 + ((j_ushr p1 v2) &&& 15))) fun _ c1 =>
      f_X4_addNumber_3 N p1 n c1 (v2 + (-4))
    else
      bnd (f_X2_add c 3 (48 + ((j_ushr p1 v2) &&& 15))) fun _ c2 =>
      f_X4_addNumber_3 N p1 n c2 (v2 + (-4))
noncomputable def f_X4_addNumber (N : Nat) (c : hS) (p1 : Int32) : Option (Unit × hS) :=
  f_X4_addNumber_3 N p1 N c 28
noncomputable def f_X4_addHead_13 (N : Nat) (p1 : Int32) (p2 : Int32) (p3 : Int32) (p4 : Int32) : Nat → hS → Int32 → Option (Unit × hS)
  | 0, _, _ => none
  | n + 1, c, v5 =>
  if 13 ≤ v5 then
    some ((), c)
  else
    if ((Int32.ofNat sa2.length) + (8 * v5)) = 6 then
      bnd (f_X4_addNumber N c p1) fun _ c1 =>
      f_X4_addHead_13 N p1 p2 p3 p4 n c1 (v5 + 1)
    else
    if ((Int32.ofNat sa2.length) + (8 * v5)) = 14 then
      bnd (f_X4_addNumber N c p2) fun _ c2 =>
      f_X4_addHead_13 N p1 p2 p3 p4 n c2 (v5 + 1)
    else
    if ((Int32.ofNat sa2.length) + (8 * v5)) = 22 then
      bnd (f_X4_addNumber N c 1) fun _ c3 =>
      f_X4_addHead_13 N p1 p2 p3 p4 n c3 (v5 + 1)
    else
    if ((Int32.ofNat sa2.length) + (8 * v5)) = 54 then
      bnd (f_X4_addNumber N c p3) fun _ c4 =>
      f_X4_addHead_13 N p1 p2 p3 p4 n c4 (v5 + 1)
    else
    if ((Int32.ofNat sa2.length) + (8 * v5)) = 94 then
      bnd (f_X4_addNumber N c p4) fun _ c5 =>
      f_X4_addHead_13 N p1 p2 p3 p4 n c5 (v5 + 1)
    else
      bnd (f_X4_addNumber N c 0) fun _ c6 =>
      f_X4_addHead_13 N p1 p2 p3 p4 n c6 (v5 + 1)
noncomputable def f_X4_addHead (N : Nat) (c : hS) (p1 : Int32) (p2 : Int32) (p3 : Int32) (p4 : Int32) : Option (Unit × hS) :=
  bnd (f_X2_addMark N c 3 sa2) fun _ c1 =>
  f_X4_addHead_13 N p1 p2 p3 p4 N c1 0
noncomputable def f_X4_addRest (N : Nat) (c : hS) : Option (Unit × hS) :=
  bnd (f_X2_size c 3) fun x1 c2 =>
  bnd (f_X11_roundedUp c2 x1 4) fun x3 c4 =>
  bnd (f_X2_size c4 3) fun x5 c6 =>
  bnd (f_X2_addZeros N c6 3 (x3 - x5)) fun _ c7 =>
  some ((), c7)
noncomputable def f_X4_layOut_48 (N : Nat) (p1 : Nat) (p2 : Int32) (k2 : hS → Int32 → Option (Unit × hS)) (c : hS) (v3 : Int32) (v4 : Nat) (v5 : Int32) (w0 : Int32) : Option (Unit × hS) :=
  bnd (f_X2_size c (v4 + 1)) fun x1 c2 =>
  bnd (f_X4_addHead N c2 (v3 + 1) w0 v5 (x1 + 1)) fun _ c3 =>
  bnd (f_X0_addTitle N c3 v4 0) fun _ c4 =>
  bnd (f_X2_add c4 3 0) fun _ c5 =>
  bnd (f_X4_addRest N c5) fun _ c6 =>
  bnd (f_X2_addRow N c6 3 (v4 + 3) 0 v5) fun _ c7 =>
  bnd (f_X4_addRest N c7) fun _ c8 =>
  k2 c8 (v3 + 1)
noncomputable def f_X4_layOut_2 (N : Nat) (p1 : Nat) (p2 : Int32) : Nat → hS → Int32 → Option (Unit × hS)
  | 0, _, _ => none
  | n + 1, c, v3 =>
  bnd (f_X9_size c p1) fun x1 c2 =>
  if x1 ≤ v3 then
    bnd (f_X4_addHead N c2 0 0 0 ((Int32.ofNat tx19.length) + 1)) fun _ c3 =>
    bnd (f_X2_addText N c3 3 tx19) fun _ c4 =>
    bnd (f_X2_add c4 3 0) fun _ c5 =>
    bnd (f_X4_addRest N c5) fun _ c6 =>
    some ((), c6)
  else
    bnd (f_X9_member c2 p1 v3) fun x7 c8 =>
    opt x7 (
      f_X4_layOut_2 N p1 p2 n c8 (v3 + 1)) fun y9 =>
      bif Nat.beq (kc y9) 6 then
      bnd (f_X2_size c8 (y9 + 3)) fun x10 c11 =>
      if c11.1 y9 2 = 0 then
        f_X4_layOut_48 N p1 p2 (f_X4_layOut_2 N p1 p2 n) c11 v3 y9 x10 33188
      else
        f_X4_layOut_48 N p1 p2 (f_X4_layOut_2 N p1 p2 n) c11 v3 y9 x10 16877
      else none
noncomputable def f_X4_layOut (N : Nat) (c : hS) (p1 : Nat) (p2 : Int32) : Option (Unit × hS) :=
  f_X4_layOut_2 N p1 p2 N c 0
noncomputable def f_X10_fillLengths_3 (N : Nat) (p1 : Int32) (p2 : Int32) (p3 : Int32) : Nat → hS → Int32 → Option (Unit × hS)
  | 0, _, _ => none
  | n + 1, c, v4 =>
  if p2 ≤ v4 then
    some ((), c)
  else
    if v4 < 0 then
      f_X10_fillLengths_3 N p1 p2 p3 n c (v4 + 1)
    else
      if (Int32.ofNat (ln 32)) ≤ v4 then
        f_X10_fillLengths_3 N p1 p2 p3 n c (v4 + 1)
      else
        bif j_in v4 (ln 32) then
        st1 (sI c 32 v4.toNatClampNeg p3) fun c1 =>
        f_X10_fillLengths_3 N p1 p2 p3 n c1 (v4 + 1)
        else none
noncomputable def f_X10_fillLengths (N : Nat) (c : hS) (p1 : Int32) (p2 : Int32) (p3 : Int32) : Option (Unit × hS) :=
  f_X10_fillLengths_3 N p1 p2 p3 N c p1
noncomputable def f_X10_takeBits_35 (N : Nat) (p1 : Int32) : Nat → hS → Int32 → Int32 → Option (Int32 × hS)
  | 0, _, _, _ => none
  | n + 1, c, v2, v3 =>
  if p1 ≤ v3 then
    some (v2, c)
  else
    bnd (f_X2_get c 3 (j_shr (c.1 11 9) 3)) fun x1 c2 =>
    st1 (sI c2 11 9 ((c2.1 11 9) + 1)) fun c3 =>
    f_X10_takeBits_35 N p1 n c3 (v2 ||| (j_shl ((j_shr x1 ((c2.1 11 9) &&& 7)) &&& 1) v3)) (v3 + 1)
noncomputable def f_X10_takeBits (N : Nat) (c : hS) (p1 : Int32) : Option (Int32 × hS) :=
  if p1 ≤ ((c.1 11 10) - (c.1 11 9)) then
    f_X10_takeBits_35 N p1 N c 0 0
  else
    bnd (f_X6_tell c 20 (j_shr (c.1 11 10) 3)) fun x1 c2 =>
    some ((-1), c2)
noncomputable def f_X10_areLengthCodes_177 (N : Nat) (c : hS) : Option (Int32 × hS) :=
  bnd (f_X3_order N c 28 0 (Int32.ofNat sa0.length)) fun _ c1 =>
  bnd (f_X3_areComplete N c1 28) fun x2 c3 =>
  if x2 = 0 then
    bnd (f_X6_tell c3 24 (c3.1 11 12)) fun x4 c5 =>
    if x4 = 0 then
      some (0, c5)
    else
      some (1, c5)
  else
    some (1, c3)
noncomputable def f_X10_areLengthCodes_119 (N : Nat) : Nat → hS → Int32 → Int32 → Option (Int32 × hS)
  | 0, _, _, _ => none
  | n + 1, c, v3, v4 =>
  if (v3 + 4) ≤ v4 then
    f_X10_areLengthCodes_177 N c
  else
    if (Int32.ofNat sa0.length) ≤ v4 then
      f_X10_areLengthCodes_177 N c
    else
      bnd (f_X10_takeBits N c 3) fun x1 c2 =>
      if x1 = (-1) then
        some (0, c2)
      else
        bif j_in v4 sa0.length then
        bif j_in v4 sa0.length then
        bnd (f_X10_fillLengths N c2 (sa0.getD v4.toNatClampNeg 0) ((sa0.getD v4.toNatClampNeg 0) + 1) x1) fun _ c3 =>
        f_X10_areLengthCodes_119 N n c3 v3 (v4 + 1)
        else none
        else none
noncomputable def f_X10_areLengthCodes (N : Nat) (c : hS) : Option (Int32 × hS) :=
  bnd (f_X10_takeBits N c 5) fun x1 c2 =>
  if x1 = (-1) then
    some (0, c2)
  else
    st1 (sI c2 11 13 (x1 + 257)) fun c3 =>
    if c3.1 11 13 ≤ 286 then
      bnd (f_X10_takeBits N c3 5) fun x4 c5 =>
      if x4 = (-1) then
        some (0, c5)
      else
        if (x4 + 1) ≤ 30 then
          st1 (sI c5 11 14 (((c5.1 11 13) + x4) + 1)) fun c6 =>
          bnd (f_X10_takeBits N c6 4) fun x7 c8 =>
          if x7 = (-1) then
            some (0, c8)
          else
            bnd (f_X10_fillLengths N c8 0 (Int32.ofNat sa0.length) 0) fun _ c9 =>
            f_X10_areLengthCodes_119 N N c9 x7 0
        else
          bnd (f_X6_tell c5 24 (c5.1 11 12)) fun x10 c11 =>
          bif j_b x10 then some (x10, c11) else none
    else
      bnd (f_X6_tell c3 24 (c3.1 11 12)) fun x12 c13 =>
      bif j_b x12 then some (x12, c13) else none
noncomputable def f_X10_lengthAt (c : hS) (p1 : Int32) : Option (Int32 × hS) :=
  if p1 < 0 then
    some (0, c)
  else
    if (Int32.ofNat (ln 32)) ≤ p1 then
      some (0, c)
    else
      bif j_in p1 (ln 32) then
      some (c.1 32 p1.toNatClampNeg, c)
      else none
noncomputable def f_X10_areSymbolLengths_29 (N : Nat) (p1 : Int32) (c : hS) : Option (Int32 × hS) :=
  if c.1 11 13 ≤ p1 then
    some (1, c)
  else
    if c.1 11 13 ≤ c.1 11 15 then
      bnd (f_X3_order N c 20 0 (c.1 11 13)) fun _ c1 =>
      bnd (f_X3_areComplete N c1 20) fun x2 c3 =>
      bif j_b x2 then some (x2, c3) else none
    else
      some (1, c)
noncomputable def f_X10_areSymbolLengths (N : Nat) (c : hS) (p1 : Int32) : Option (Int32 × hS) :=
  if 256 < p1 then
    f_X10_areSymbolLengths_29 N p1 c
  else
    if c.1 11 15 ≤ 256 then
      f_X10_areSymbolLengths_29 N p1 c
    else
      bnd (f_X10_lengthAt c 256) fun x1 c2 =>
      if x1 = 0 then
        some (0, c2)
      else
        f_X10_areSymbolLengths_29 N p1 c2
noncomputable def f_X10_isRepeated_113 (N : Nat) (p1 : Int32) (c : hS) (v2 : Int32) (v3 : Int32) (w0 : Int32) : Option (Int32 × hS) :=
  bnd (f_X10_takeBits N c v3) fun x1 c2 =>
  if x1 = (-1) then
    some (0, c2)
  else
    if (((c2.1 11 15) + w0) + x1) ≤ c2.1 11 14 then
      bnd (f_X10_fillLengths N c2 (c2.1 11 15) (((c2.1 11 15) + w0) + x1) v2) fun _ c3 =>
      st1 (sI c3 11 15 (((c2.1 11 15) + w0) + x1)) fun c4 =>
      some (1, c4)
    else
      bnd (f_X6_tell c2 24 (c2.1 11 12)) fun x5 c6 =>
      bif j_b x5 then some (x5, c6) else none
noncomputable def f_X10_isRepeated_90 (N : Nat) (p1 : Int32) (c : hS) (v2 : Int32) (w0 : Int32) : Option (Int32 × hS) :=
  if 16 ≤ p1 then
    if p1 = 18 then
      f_X10_isRepeated_113 N p1 c v2 w0 11
    else
      f_X10_isRepeated_113 N p1 c v2 w0 3
  else
    f_X10_isRepeated_113 N p1 c v2 w0 1
noncomputable def f_X10_isRepeated_57 (N : Nat) (p1 : Int32) (c : hS) (w0 : Int32) : Option (Int32 × hS) :=
  if 16 ≤ p1 then
    if p1 = 16 then
      f_X10_isRepeated_90 N p1 c w0 2
    else
      if p1 = 17 then
        f_X10_isRepeated_90 N p1 c w0 3
      else
        f_X10_isRepeated_90 N p1 c w0 7
  else
    f_X10_isRepeated_90 N p1 c w0 0
noncomputable def f_X10_isRepeated_27 (N : Nat) (p1 : Int32) (c : hS) : Option (Int32 × hS) :=
  if 16 ≤ p1 then
    if p1 = 16 then
      bnd (f_X10_lengthAt c ((c.1 11 15) - 1)) fun x1 c2 =>
      f_X10_isRepeated_57 N p1 c2 x1
    else
      f_X10_isRepeated_57 N p1 c 0
  else
    f_X10_isRepeated_57 N p1 c p1
noncomputable def f_X10_isRepeated (N : Nat) (c : hS) (p1 : Int32) : Option (Int32 × hS) :=
  if p1 = 16 then
    if c.1 11 15 = 0 then
      bnd (f_X6_tell c 24 (c.1 11 12)) fun x1 c2 =>
      bif j_b x1 then some (x1, c2) else none
    else
      f_X10_isRepeated_27 N p1 c
  else
    f_X10_isRepeated_27 N p1 c
noncomputable def f_X10_takeSymbol_148 (N : Nat) (p1 : Nat) (p2 : Int32) (c : hS) : Option (Int32 × hS) :=
  bnd (f_X6_tell c 25 p2) fun x1 c2 =>
  some ((-1), c2)
noncomputable def f_X10_takeSymbol_11 (N : Nat) (p1 : Nat) (p2 : Int32) : Nat → hS → Int32 → Int32 → Int32 → Int32 → Option (Int32 × hS)
  | 0, _, _, _, _, _ => none
  | n + 1, c, v3, v4, v5, v6 =>
  if 15 < v6 then
    f_X10_takeSymbol_148 N p1 p2 c
  else
    if c.1 11 9 < c.1 11 10 then
      bnd (f_X2_get c 3 (j_shr (c.1 11 9) 3)) fun x1 c2 =>
      st1 (sI c2 11 9 ((c2.1 11 9) + 1)) fun c3 =>
      bnd (f_X3_amount c3 p1 v6) fun x4 c5 =>
      if x4 ≤ (((j_shl v3 1) ||| ((j_shr x1 ((c2.1 11 9) &&& 7)) &&& 1)) - v4) then
        bnd (f_X3_longest c5 p1) fun x6 c7 =>
        if v6 < x6 then
          f_X10_takeSymbol_11 N p1 p2 n c7 ((j_shl v3 1) ||| ((j_shr x1 ((c2.1 11 9) &&& 7)) &&& 1)) (j_shl (v4 + x4) 1) (v5 + x4) (v6 + 1)
        else
          f_X10_takeSymbol_148 N p1 p2 c7
      else
        bnd (f_X3_symbol c5 p1 ((v5 + ((j_shl v3 1) ||| ((j_shr x1 ((c2.1 11 9) &&& 7)) &&& 1))) - v4)) fun x8 c9 =>
        some (x8, c9)
    else
      bnd (f_X6_tell c 20 (j_shr (c.1 11 10) 3)) fun x10 c11 =>
      some ((-1), c11)
noncomputable def f_X10_takeSymbol (N : Nat) (c : hS) (p1 : Nat) (p2 : Int32) : Option (Int32 × hS) :=
  f_X10_takeSymbol_11 N p1 p2 N c 0 0 0 1
noncomputable def f_X10_areLengths_88 (N : Nat) (c : hS) : Option (Int32 × hS) :=
  bnd (f_X3_order N c 24 (c.1 11 13) ((c.1 11 14) - (c.1 11 13))) fun _ c1 =>
  bnd (f_X3_areComplete N c1 24) fun x2 c3 =>
  if x2 = 0 then
    bnd (f_X3_areNoneOrOneBit c3 24) fun x4 c5 =>
    if x4 = 0 then
      bnd (f_X6_tell c5 24 (c5.1 11 12)) fun x6 c7 =>
      if x6 = 0 then
        some (0, c7)
      else
        some (1, c7)
    else
      some (1, c5)
  else
    some (1, c3)
noncomputable def f_X10_areLengths_7 (N : Nat) : Nat → hS → Int32 → Option (Int32 × hS)
  | 0, _, _ => none
  | n + 1, c, v1 =>
  if (Int32.ofNat (ln 32)) ≤ v1 then
    f_X10_areLengths_88 N c
  else
    if c.1 11 14 ≤ c.1 11 15 then
      f_X10_areLengths_88 N c
    else
      bnd (f_X10_takeSymbol N c 28 (c.1 11 12)) fun x1 c2 =>
      if x1 = (-1) then
        some (0, c2)
      else
        bnd (f_X10_isRepeated N c2 x1) fun x3 c4 =>
        if x3 = 0 then
          some (0, c4)
        else
          bnd (f_X10_areSymbolLengths N c4 (c.1 11 15)) fun x5 c6 =>
          if x5 = 0 then
            bnd (f_X6_tell c6 24 (c6.1 11 12)) fun x7 c8 =>
            bif j_b x7 then some (x7, c8) else none
          else
            f_X10_areLengths_7 N n c6 (v1 + 1)
noncomputable def f_X10_areLengths (N : Nat) (c : hS) : Option (Int32 × hS) :=
  st1 (sI c 11 15 0) fun c1 =>
  f_X10_areLengths_7 N N c1 0
noncomputable def f_X11_distanceBits (c : hS) (p0 : Int32) : Option (Int32 × hS) :=
  if 4 ≤ p0 then
    some ((j_shr (p0 - 2) 1), c)
  else
    some (0, c)
noncomputable def f_X11_distanceBase (c : hS) (p0 : Int32) : Option (Int32 × hS) :=
  if 4 ≤ p0 then
    bnd (f_X11_distanceBits c p0) fun x1 c2 =>
    some (((j_shl (2 + (p0 &&& 1)) x1) + 1), c2)
  else
    some ((1 + p0), c)
noncomputable def f_X11_lengthBits (c : hS) (p0 : Int32) : Option (Int32 × hS) :=
  if p0 < 8 then
    some (0, c)
  else
    if p0 = 28 then
      some (0, c)
    else
      some ((j_shr (p0 - 4) 2), c)
noncomputable def f_X11_lengthBase (c : hS) (p0 : Int32) : Option (Int32 × hS) :=
  if p0 = 28 then
    some (258, c)
  else
    if 8 ≤ p0 then
      bnd (f_X11_lengthBits c p0) fun x1 c2 =>
      some (((j_shl (4 + (p0 &&& 3)) x1) + 3), c2)
    else
      some ((3 + p0), c)
noncomputable def f_X10_isCopied_144 (N : Nat) (p1 : Int32) (p2 : Nat) (p3 : Int32) : Nat → hS → Int32 → Int32 → Int32 → Option (Int32 × hS)
  | 0, _, _, _, _ => none
  | n + 1, c, v7, v8, v9 =>
  if v7 ≤ v9 then
    some (1, c)
  else
    bnd (f_X2_size c 7) fun x1 c2 =>
    bnd (f_X2_get c2 7 (x1 - v8)) fun x3 c4 =>
    bnd (f_X2_add c4 7 x3) fun _ c5 =>
    f_X10_isCopied_144 N p1 p2 p3 n c5 v7 v8 (v9 + 1)
noncomputable def f_X10_isCopied (N : Nat) (c : hS) (p1 : Int32) (p2 : Nat) (p3 : Int32) : Option (Int32 × hS) :=
  bnd (f_X11_lengthBits c p1) fun x1 c2 =>
  bnd (f_X10_takeBits N c2 x1) fun x3 c4 =>
  if x3 = (-1) then
    some (0, c4)
  else
    bnd (f_X10_takeSymbol N c4 p2 p3) fun x5 c6 =>
    if x5 = (-1) then
      some (0, c6)
    else
      if x5 ≤ 29 then
        bnd (f_X11_distanceBits c6 x5) fun x7 c8 =>
        bnd (f_X10_takeBits N c8 x7) fun x9 c10 =>
        if x9 = (-1) then
          some (0, c10)
        else
          bnd (f_X11_lengthBase c10 p1) fun x11 c12 =>
          bnd (f_X11_distanceBase c12 x5) fun x13 c14 =>
          bnd (f_X2_size c14 7) fun x15 c16 =>
          if (x13 + x9) ≤ x15 then
            bnd (f_X2_size c16 7) fun x17 c18 =>
            if (x17 + (x11 + x3)) ≤ c18.1 11 11 then
              f_X10_isCopied_144 N p1 p2 p3 N c18 (x11 + x3) (x13 + x9) 0
            else
              bnd (f_X6_tell c18 23 p3) fun x19 c20 =>
              bif j_b x19 then some (x19, c20) else none
          else
            bnd (f_X6_tell c16 26 p3) fun x21 c22 =>
            bif j_b x21 then some (x21, c22) else none
      else
        bnd (f_X6_tell c6 25 p3) fun x23 c24 =>
        bif j_b x23 then some (x23, c24) else none
noncomputable def f_X10_areSymbols_2 (N : Nat) (p1 : Nat) (p2 : Nat) : Nat → hS → Int32 → Option (Int32 × hS)
  | 0, _, _ => none
  | n + 1, c, v3 =>
  if 160000 < v3 then
    some (0, c)
  else
    bnd (f_X10_takeSymbol N c p1 (j_shr (c.1 11 9) 3)) fun x1 c2 =>
    if x1 = (-1) then
      some (0, c2)
    else
      if x1 = 256 then
        some (1, c2)
      else
        if x1 ≤ 285 then
          if x1 ≤ 256 then
            bnd (f_X2_size c2 7) fun x3 c4 =>
            if x3 < c4.1 11 11 then
              bnd (f_X2_add c4 7 x1) fun _ c5 =>
              f_X10_areSymbols_2 N p1 p2 n c5 (v3 + 1)
            else
              bnd (f_X6_tell c4 23 (j_shr (c.1 11 9) 3)) fun x6 c7 =>
              bif j_b x6 then some (x6, c7) else none
          else
            bnd (f_X10_isCopied N c2 ((x1 - 256) - 1) p2 (j_shr (c.1 11 9) 3)) fun x8 c9 =>
            if x8 = 0 then
              some (0, c9)
            else
              f_X10_areSymbols_2 N p1 p2 n c9 (v3 + 1)
        else
          bnd (f_X6_tell c2 25 (j_shr (c.1 11 9) 3)) fun x10 c11 =>
          bif j_b x10 then some (x10, c11) else none
noncomputable def f_X10_areSymbols (N : Nat) (c : hS) (p1 : Nat) (p2 : Nat) : Option (Int32 × hS) :=
  f_X10_areSymbols_2 N p1 p2 N c 0
noncomputable def f_X10_isStored_64 (N : Nat) : Nat → hS → Int32 → Int32 → Option (Int32 × hS)
  | 0, _, _, _ => none
  | n + 1, c, v1, v3 =>
  if v1 ≤ v3 then
    some (1, c)
  else
    bnd (f_X10_takeBits N c 8) fun x1 c2 =>
    if x1 = (-1) then
      some (0, c2)
    else
      bnd (f_X2_size c2 7) fun x3 c4 =>
      if x3 < c4.1 11 11 then
        bnd (f_X2_add c4 7 x1) fun _ c5 =>
        f_X10_isStored_64 N n c5 v1 (v3 + 1)
      else
        bnd (f_X6_tell c4 23 (j_shr (c.1 11 9) 3)) fun x6 c7 =>
        bif j_b x6 then some (x6, c7) else none
noncomputable def f_X10_isStored (N : Nat) (c : hS) : Option (Int32 × hS) :=
  st1 (sI c 11 9 (((c.1 11 9) + 7) &&& (-8))) fun c1 =>
  bnd (f_X10_takeBits N c1 16) fun x2 c3 =>
  bnd (f_X10_takeBits N c3 16) fun x4 c5 =>
  if x2 = (-1) then
    some (0, c5)
  else
    if x4 = (-1) then
      some (0, c5)
    else
      if x4 = (65535 - x2) then
        f_X10_isStored_64 N N c5 x2 0
      else
        bnd (f_X6_tell c5 22 (c5.1 11 12)) fun x6 c7 =>
        bif j_b x6 then some (x6, c7) else none
noncomputable def f_X10_open_179 (N : Nat) (p1 : Int32) (p2 : Int32) (p3 : Int32) (k35 : hS → Int32 → Int32 → Option (Int32 × hS)) (c : hS) (v5 : Int32) (v6 : Int32) : Option (Int32 × hS) :=
  if v6 = 1 then
    k35 c 1 (v5 + 1)
  else
    k35 c 0 (v5 + 1)
noncomputable def f_X10_open_142 (N : Nat) (p1 : Int32) (p2 : Int32) (p3 : Int32) (k35 : hS → Int32 → Int32 → Option (Int32 × hS)) (c : hS) (v5 : Int32) (v6 : Int32) (v7 : Int32) : Option (Int32 × hS) :=
  if v7 = 2 then
    bnd (f_X10_areLengthCodes N c) fun x1 c2 =>
    if x1 = 0 then
      some (0, c2)
    else
      bnd (f_X10_areLengths N c2) fun x3 c4 =>
      if x3 = 0 then
        some (0, c4)
      else
        bnd (f_X10_areSymbols N c4 20 24) fun x5 c6 =>
        if x5 = 0 then
          some (0, c6)
        else
          f_X10_open_179 N p1 p2 p3 k35 c6 v5 v6
  else
    f_X10_open_179 N p1 p2 p3 k35 c v5 v6
noncomputable def f_X10_open_119 (N : Nat) (p1 : Int32) (p2 : Int32) (p3 : Int32) (k35 : hS → Int32 → Int32 → Option (Int32 × hS)) (c : hS) (v5 : Int32) (v6 : Int32) (v7 : Int32) : Option (Int32 × hS) :=
  if v7 = 1 then
    bnd (f_X10_areSymbols N c 12 16) fun x1 c2 =>
    if x1 = 0 then
      some (0, c2)
    else
      f_X10_open_142 N p1 p2 p3 k35 c2 v5 v6 v7
  else
    f_X10_open_142 N p1 p2 p3 k35 c v5 v6 v7
noncomputable def f_X10_open_198 (N : Nat) (p1 : Int32) (p2 : Int32) (p3 : Int32) (c : hS) : Option (Int32 × hS) :=
  if (j_shr ((c.1 11 9) + 7) 3) = p2 then
    some (1, c)
  else
    bnd (f_X6_tell c 27 (j_shr ((c.1 11 9) + 7) 3)) fun x1 c2 =>
    if x1 = 0 then
      some (0, c2)
    else
      some (1, c2)
noncomputable def f_X10_open_35 (N : Nat) (p1 : Int32) (p2 : Int32) (p3 : Int32) : Nat → hS → Int32 → Int32 → Option (Int32 × hS)
  | 0, _, _, _ => none
  | n + 1, c, v4, v5 =>
  if 160000 < v5 then
    f_X10_open_198 N p1 p2 p3 c
  else
    if v4 = 0 then
      st1 (sI c 11 12 (j_shr (c.1 11 9) 3)) fun c1 =>
      bnd (f_X10_takeBits N c1 1) fun x2 c3 =>
      bnd (f_X10_takeBits N c3 2) fun x4 c5 =>
      if x2 = (-1) then
        some (0, c5)
      else
        if x4 = (-1) then
          some (0, c5)
        else
          if x4 = 3 then
            bnd (f_X6_tell c5 21 (c5.1 11 12)) fun x8 c9 =>
            bif j_b x8 then some (x8, c9) else none
          else
            if x4 = 0 then
              bnd (f_X10_isStored N c5) fun x6 c7 =>
              if x6 = 0 then
                some (0, c7)
              else
                f_X10_open_119 N p1 p2 p3 (f_X10_open_35 N p1 p2 p3 n) c7 v5 x2 x4
            else
              f_X10_open_119 N p1 p2 p3 (f_X10_open_35 N p1 p2 p3 n) c5 v5 x2 x4
    else
      f_X10_open_198 N p1 p2 p3 c
noncomputable def f_X10_open (N : Nat) (c : hS) (p1 : Int32) (p2 : Int32) (p3 : Int32) : Option (Int32 × hS) :=
  st1 (sI c 11 9 (8 * p1)) fun c1 =>
  st1 (sI c1 11 10 (8 * p2)) fun c2 =>
  st1 (sI c2 11 11 p3) fun c3 =>
  bnd (f_X2_cutTo c3 7 0) fun _ c4 =>
  f_X10_open_35 N p1 p2 p3 N c4 0 0
end
section
/-! THE METHODS AS FUNCTIONS, printed by gen_l1.py -/
noncomputable def f_X11_checkOf_22 (N : Nat) (p0 : Nat) (k4 : hS → Int32 → Int32 → Option (Int32 × hS)) : Nat → hS → Int32 → Int32 → Int32 → Option (Int32 × hS)
  | 0, _, _, _, _ => none
  | n + 1, c, v1, v2, v3 =>
  if 8 ≤ v3 then
    k4 c v1 (v2 + 1)
  else
    if (v1 &&& 1) = 1 then
      f_X11_checkOf_22 N p0 k4 n c ((j_ushr v1 1) ^^^ (-306674912)) v2 (v3 + 1)
    else
      f_X11_checkOf_22 N p0 k4 n c (j_ushr v1 1) v2 (v3 + 1)
noncomputable def f_X11_checkOf_4 (N : Nat) (p0 : Nat) : Nat → hS → Int32 → Int32 → Option (Int32 × hS)
  | 0, _, _, _ => none
  | n + 1, c, v1, v2 =>
  bnd (f_X2_size c p0) fun x1 c2 =>
  if x1 ≤ v2 then
    some ((v1 ^^^ (-1)), c2)
  else
    bnd (f_X2_get c2 p0 v2) fun x3 c4 =>
    f_X11_checkOf_22 N p0 (f_X11_checkOf_4 N p0 n) N c4 (v1 ^^^ x3) v2 0
noncomputable def f_X11_checkOf (N : Nat) (c : hS) (p0 : Nat) : Option (Int32 × hS) :=
  f_X11_checkOf_4 N p0 N c (-1) 0
noncomputable def f_X5_isBody (N : Nat) (c : hS) (p1 : Int32) : Option (Int32 × hS) :=
  bnd (f_X2_size c 7) fun x1 c2 =>
  if x1 = c2.1 36 12 then
    bnd (f_X11_checkOf N c2 7) fun x3 c4 =>
    bnd (f_X2_little N c4 3 (p1 + 16) 4) fun x5 c6 =>
    if x3 = x5.toInt32 then
      some (1, c6)
    else
      bnd (f_X6_tell c6 4 (p1 + 16)) fun x7 c8 =>
      if x7 = 0 then
        some (0, c8)
      else
        some (1, c8)
  else
    bnd (f_X6_tell c2 14 (p1 + 24)) fun x9 c10 =>
    bif j_b x9 then some (x9, c10) else none
noncomputable def f_X5_isZero (N : Nat) (c : hS) (p1 : Int32) (p2 : Int32) (p3 : Int32) : Option (Int32 × hS) :=
  bnd (f_X2_little N c 3 p1 p2) fun x1 c2 =>
  if j_cmp x1 0 = 0 then
    some (1, c2)
  else
    bnd (f_X6_tell c2 p3 p1) fun x3 c4 =>
    if x3 = 0 then
      some (0, c4)
    else
      some (1, c4)
noncomputable def f_X5_isClosing (N : Nat) (c : hS) : Option (Int32 × hS) :=
  bnd (f_X2_size c 3) fun x1 c2 =>
  st1 (sI c2 36 6 (x1 - 22)) fun c3 =>
  if 0 ≤ c3.1 36 6 then
    bnd (f_X0_isMarked N c3 (c3.1 36 6) sa5 3) fun x4 c5 =>
    if x4 = 0 then
      some (0, c5)
    else
      bnd (f_X5_isZero N c5 ((c5.1 36 6) + 4) 2 6) fun x6 c7 =>
      if x6 = 0 then
        some (0, c7)
      else
        bnd (f_X5_isZero N c7 ((c7.1 36 6) + 6) 2 6) fun x8 c9 =>
        if x8 = 0 then
          some (0, c9)
        else
          bnd (f_X2_little N c9 3 ((c9.1 36 6) + 8) 2) fun x10 c11 =>
          bnd (f_X2_little N c11 3 ((c11.1 36 6) + 10) 2) fun x12 c13 =>
          if j_cmp x10 x12 = 0 then
            bnd (f_X2_little N c13 3 ((c13.1 36 6) + 10) 2) fun x14 c15 =>
            if j_cmp x14 16 ≤ 0 then
              bnd (f_X2_little N c15 3 ((c15.1 36 6) + 16) 4) fun x16 c17 =>
              bnd (f_X2_little N c17 3 ((c17.1 36 6) + 12) 4) fun x18 c19 =>
              if j_cmp (x18 + x16) ((c19.1 36 6).toInt64) = 0 then
                st1 (sI c19 36 7 x16.toInt32) fun c20 =>
                bnd (f_X5_isZero N c20 ((c20.1 36 6) + 20) 2 6) fun x21 c22 =>
                bif j_b x21 then some (x21, c22) else none
              else
                bnd (f_X6_tell c19 12 ((c19.1 36 6) + 12)) fun x23 c24 =>
                bif j_b x23 then some (x23, c24) else none
            else
              bnd (f_X6_tell c15 11 ((c15.1 36 6) + 10)) fun x25 c26 =>
              bif j_b x25 then some (x25, c26) else none
          else
            bnd (f_X6_tell c13 6 ((c13.1 36 6) + 8)) fun x27 c28 =>
            bif j_b x27 then some (x27, c28) else none
  else
    bnd (f_X2_size c3 3) fun x29 c30 =>
    bnd (f_X6_tell c30 1 x29) fun x31 c32 =>
    bif j_b x31 then some (x31, c32) else none
noncomputable def f_X5_isEntry_132 (N : Nat) (p1 : Int32) (c : hS) : Option (Int32 × hS) :=
  bnd (f_X5_isZero N c (p1 + 34) 2 6) fun x1 c2 =>
  if x1 = 0 then
    some (0, c2)
  else
    bnd (f_X2_little N c2 3 (p1 + 28) 2) fun x3 c4 =>
    st1 (sI c4 36 9 x3.toInt32) fun c5 =>
    bnd (f_X2_little N c5 3 (p1 + 30) 2) fun x6 c7 =>
    bnd (f_X2_little N c7 3 (p1 + 32) 2) fun x8 c9 =>
    st1 (sI c9 36 10 ((((p1 + 46) + (c5.1 36 9)) + x6.toInt32) + x8.toInt32)) fun c10 =>
    if c10.1 36 10 ≤ c10.1 36 6 then
      some (1, c10)
    else
      bnd (f_X6_tell c10 12 p1) fun x11 c12 =>
      if x11 = 0 then
        some (0, c12)
      else
        some (1, c12)
noncomputable def f_X5_isEntry (N : Nat) (c : hS) (p1 : Int32) : Option (Int32 × hS) :=
  if (p1 + 46) ≤ c.1 36 6 then
    bnd (f_X0_isMarked N c p1 sa4 3) fun x1 c2 =>
    if x1 = 0 then
      some (0, c2)
    else
      bnd (f_X2_little N c2 3 (p1 + 6) 2) fun x3 c4 =>
      if j_cmp x3 20 ≤ 0 then
        bnd (f_X5_isZero N c4 (p1 + 8) 2 6) fun x5 c6 =>
        if x5 = 0 then
          some (0, c6)
        else
          bnd (f_X2_little N c6 3 (p1 + 10) 2) fun x7 c8 =>
          st1 (sI c8 36 8 x7.toInt32) fun c9 =>
          if c9.1 36 8 = 0 then
            f_X5_isEntry_132 N p1 c9
          else
            if c9.1 36 8 = 8 then
              f_X5_isEntry_132 N p1 c9
            else
              bnd (f_X6_tell c9 8 (p1 + 10)) fun x10 c11 =>
              bif j_b x10 then some (x10, c11) else none
      else
        bnd (f_X6_tell c4 6 (p1 + 6)) fun x12 c13 =>
        bif j_b x12 then some (x12, c13) else none
  else
    bnd (f_X6_tell c 12 p1) fun x14 c15 =>
    bif j_b x14 then some (x14, c15) else none
noncomputable def f_X5_isSame_88 (N : Nat) (p1 : Int32) : Nat → hS → Int32 → Option (Int32 × hS)
  | 0, _, _ => none
  | n + 1, c, v2 =>
  if c.1 36 9 ≤ v2 then
    some (1, c)
  else
    bnd (f_X2_get c 3 (((c.1 36 13) + 30) + v2)) fun x1 c2 =>
    bnd (f_X2_get c2 3 ((p1 + 46) + v2)) fun x3 c4 =>
    if x1 = x3 then
      f_X5_isSame_88 N p1 n c4 (v2 + 1)
    else
      bnd (f_X6_tell c4 13 (((c4.1 36 13) + 30) + v2)) fun x5 c6 =>
      bif j_b x5 then some (x5, c6) else none
noncomputable def f_X5_isSame_2 (N : Nat) (p1 : Int32) : Nat → hS → Int32 → Option (Int32 × hS)
  | 0, _, _ => none
  | n + 1, c, v2 =>
  if (Int32.ofNat sa6.length) ≤ v2 then
    f_X5_isSame_88 N p1 N c 0
  else
    if (Int32.ofNat sa7.length) ≤ v2 then
      f_X5_isSame_88 N p1 N c 0
    else
      bif j_in v2 sa6.length then
      bif j_in v2 sa7.length then
      bnd (f_X2_little N c 3 ((c.1 36 13) + (sa6.getD v2.toNatClampNeg 0)) (sa7.getD v2.toNatClampNeg 0)) fun x1 c2 =>
      bnd (f_X2_little N c2 3 ((p1 + (sa6.getD v2.toNatClampNeg 0)) + 2) (sa7.getD v2.toNatClampNeg 0)) fun x3 c4 =>
      if j_cmp x1 x3 = 0 then
        f_X5_isSame_2 N p1 n c4 (v2 + 1)
      else
        bnd (f_X6_tell c4 13 ((c4.1 36 13) + (sa6.getD v2.toNatClampNeg 0))) fun x5 c6 =>
        bif j_b x5 then some (x5, c6) else none
      else none
      else none
noncomputable def f_X5_isSame (N : Nat) (c : hS) (p1 : Int32) : Option (Int32 × hS) :=
  f_X5_isSame_2 N p1 N c 0
noncomputable def f_X5_isLocal (N : Nat) (c : hS) (p1 : Int32) : Option (Int32 × hS) :=
  bnd (f_X2_little N c 3 (p1 + 42) 4) fun x1 c2 =>
  if j_cmp (x1 + 30) ((c2.1 36 7).toInt64) ≤ 0 then
    st1 (sI c2 36 13 x1.toInt32) fun c3 =>
    bnd (f_X0_isMarked N c3 (c3.1 36 13) sa3 3) fun x4 c5 =>
    if x4 = 0 then
      some (0, c5)
    else
      bnd (f_X5_isSame N c5 p1) fun x6 c7 =>
      if x6 = 0 then
        some (0, c7)
      else
        bnd (f_X2_little N c7 3 ((c7.1 36 13) + 28) 2) fun x8 c9 =>
        st1 (sI c9 36 14 ((((c7.1 36 13) + 30) + (c7.1 36 9)) + x8.toInt32)) fun c10 =>
        bnd (f_X2_little N c10 3 (p1 + 20) 4) fun x11 c12 =>
        if j_cmp (((c10.1 36 14).toInt64) + x11) ((c12.1 36 7).toInt64) ≤ 0 then
          st1 (sI c12 36 15 ((((c10.1 36 14).toInt64) + x11).toInt32)) fun c13 =>
          some (1, c13)
        else
          bnd (f_X6_tell c12 12 (p1 + 42)) fun x14 c15 =>
          bif j_b x14 then some (x14, c15) else none
  else
    bnd (f_X6_tell c2 12 (p1 + 42)) fun x16 c17 =>
    bif j_b x16 then some (x16, c17) else none
noncomputable def f_X5_isMember_143 (N : Nat) (p1 : Int32) (c : hS) : Option (Int32 × hS) :=
  bnd (f_X2_little N c 3 (p1 + 24) 4) fun x1 c2 =>
  if j_cmp x1 400 ≤ 0 then
    st1 (sI c2 36 12 x1.toInt32) fun c3 =>
    if c3.1 36 8 = 0 then
      bnd (f_X2_little N c3 3 (p1 + 20) 4) fun x4 c5 =>
      if j_cmp x4 x1 = 0 then
        some (1, c5)
      else
        bnd (f_X6_tell c5 7 (p1 + 20)) fun x6 c7 =>
        if x6 = 0 then
          some (0, c7)
        else
          some (1, c7)
    else
      some (1, c3)
  else
    bnd (f_X6_tell c2 7 (p1 + 24)) fun x8 c9 =>
    bif j_b x8 then some (x8, c9) else none
noncomputable def f_X5_isMember_75 (N : Nat) (p1 : Int32) (c : hS) (w0 : Int32) (w1 : Int32) : Option (Int32 × hS) :=
  bnd (f_X2_addRow N c 5 3 w1 w0) fun _ c1 =>
  if c1.1 36 11 = 0 then
    f_X5_isMember_143 N p1 c1
  else
    bnd (f_X5_isZero N c1 (p1 + 10) 2 7) fun x2 c3 =>
    if x2 = 0 then
      some (0, c3)
    else
      bnd (f_X5_isZero N c3 (p1 + 16) 4 7) fun x4 c5 =>
      if x4 = 0 then
        some (0, c5)
      else
        bnd (f_X5_isZero N c5 (p1 + 20) 4 7) fun x6 c7 =>
        if x6 = 0 then
          some (0, c7)
        else
          bnd (f_X5_isZero N c7 (p1 + 24) 4 7) fun x8 c9 =>
          if x8 = 0 then
            some (0, c9)
          else
            f_X5_isMember_143 N p1 c9
noncomputable def f_X5_isMember_38 (N : Nat) (p1 : Int32) (c : hS) (v2 : Int32) (w0 : Int32) : Option (Int32 × hS) :=
  bif j_b w0 then
  st1 (sI c 36 11 w0) fun c1 =>
  bnd (f_X2_cutTo c1 5 0) fun _ c2 =>
  if c2.1 36 11 = 0 then
    f_X5_isMember_75 N p1 c2 (v2 + 1) (p1 + 46)
  else
    f_X5_isMember_75 N p1 c2 v2 (p1 + 46)
  else none
noncomputable def f_X5_isMember_37 (N : Nat) (p1 : Int32) (c : hS) (v2 : Int32) : Option (Int32 × hS) :=
  f_X5_isMember_38 N p1 c v2 0
noncomputable def f_X5_isMember (N : Nat) (c : hS) (p1 : Int32) : Option (Int32 × hS) :=
  if c.1 36 9 ≤ 0 then
    f_X5_isMember_37 N p1 c (((p1 + 46) + (c.1 36 9)) - 1)
  else
    bnd (f_X2_get c 3 (((p1 + 46) + (c.1 36 9)) - 1)) fun x1 c2 =>
    if x1 = 47 then
      f_X5_isMember_38 N p1 c2 (((p1 + 46) + (c.1 36 9)) - 1) 1
    else
      f_X5_isMember_37 N p1 c2 (((p1 + 46) + (c.1 36 9)) - 1)
noncomputable def f_X5_takeIn_138 (N : Nat) (p1 : Nat) (k34 : hS → Int32 → Int32 → Int32 → Option (Int32 × hS)) (c : hS) (v2 : Int32) (v3 : Int32) (v4 : Int32) : Option (Int32 × hS) :=
  bnd (f_X5_isBody N c v3) fun x1 c2 =>
  if x1 = 0 then
    some (0, c2)
  else
    bnd (f_X2_size c2 7) fun x3 c4 =>
    bnd (f_X0_arrives N c4 p1 (c2.1 36 11) 7 0 x3 v3) fun x5 c6 =>
    if x5 = 0 then
      some (0, c6)
    else
      k34 c6 v2 (c6.1 36 10) (v4 + 1)
noncomputable def f_X5_takeIn_34 (N : Nat) (p1 : Nat) : Nat → hS → Int32 → Int32 → Int32 → Option (Int32 × hS)
  | 0, _, _, _, _ => none
  | n + 1, c, v2, v3, v4 =>
  if v2 ≤ v4 then
    if v3 = c.1 36 6 then
      some (1, c)
    else
      bnd (f_X6_tell c 12 v3) fun x1 c2 =>
      if x1 = 0 then
        some (0, c2)
      else
        some (1, c2)
  else
    bnd (f_X5_isEntry N c v3) fun x3 c4 =>
    if x3 = 0 then
      some (0, c4)
    else
      bnd (f_X5_isMember N c4 v3) fun x5 c6 =>
      if x5 = 0 then
        some (0, c6)
      else
        bnd (f_X0_isNamed N c6 (v3 + 46)) fun x7 c8 =>
        if x7 = 0 then
          some (0, c8)
        else
          bnd (f_X5_isLocal N c8 v3) fun x9 c10 =>
          if x9 = 0 then
            some (0, c10)
          else
            if c10.1 36 8 = 0 then
              bnd (f_X2_cutTo c10 7 0) fun _ c13 =>
              bnd (f_X2_addRow N c13 7 3 (c13.1 36 14) (c13.1 36 15)) fun _ c14 =>
              f_X5_takeIn_138 N p1 (f_X5_takeIn_34 N p1 n) c14 v2 v3 v4
            else
              bnd (f_X10_open N c10 (c10.1 36 14) (c10.1 36 15) (c10.1 36 12)) fun x11 c12 =>
              if x11 = 0 then
                some (0, c12)
              else
                f_X5_takeIn_138 N p1 (f_X5_takeIn_34 N p1 n) c12 v2 v3 v4
noncomputable def f_X5_takeIn (N : Nat) (c : hS) (p1 : Nat) : Option (Int32 × hS) :=
  bnd (f_X5_isClosing N c) fun x1 c2 =>
  if x1 = 0 then
    some (0, c2)
  else
    bnd (f_X2_little N c2 3 ((c2.1 36 6) + 10) 2) fun x3 c4 =>
    f_X5_takeIn_34 N p1 N c4 x3.toInt32 (c4.1 36 7) 0
noncomputable def f_X5_titleBytes (c : hS) (p0 : Nat) : Option (Int32 × hS) :=
  bnd (f_X2_size c (p0 + 1)) fun x1 c2 =>
  if c2.1 p0 2 = 0 then
    some ((x1 + 0), c2)
  else
    some ((x1 + 1), c2)
noncomputable def f_X5_addEntries_13 (N : Nat) (p1 : Nat) : Nat → hS → Int32 → Int32 → Int32 → Option (Unit × hS)
  | 0, _, _, _, _ => none
  | n + 1, c, v2, v3, v4 =>
  bnd (f_X9_size c p1) fun x1 c2 =>
  if x1 ≤ v4 then
    bnd (f_X2_size c2 3) fun x3 c4 =>
    bnd (f_X2_addMark N c4 3 sa5) fun _ c5 =>
    bnd (f_X2_addZeros N c5 3 4) fun _ c6 =>
    bnd (f_X9_size c6 p1) fun x7 c8 =>
    bnd (f_X2_addLittle N c8 3 x7.toInt64 2) fun _ c9 =>
    bnd (f_X9_size c9 p1) fun x10 c11 =>
    bnd (f_X2_addLittle N c11 3 x10.toInt64 2) fun _ c12 =>
    bnd (f_X2_addLittle N c12 3 ((x3 - v2).toInt64) 4) fun _ c13 =>
    bnd (f_X2_addLittle N c13 3 v2.toInt64 4) fun _ c14 =>
    bnd (f_X2_addZeros N c14 3 2) fun _ c15 =>
    some ((), c15)
  else
    bnd (f_X9_member c2 p1 v4) fun x16 c17 =>
    opt x16 (
      f_X5_addEntries_13 N p1 n c17 v2 v3 (v4 + 1)) fun y18 =>
      bif Nat.beq (kc y18) 6 then
      bnd (f_X2_addMark N c17 3 sa4) fun _ c19 =>
      bnd (f_X2_addLittle N c19 3 20 2) fun _ c20 =>
      bnd (f_X2_addRow N c20 3 3 (v3 + 4) (v3 + 28)) fun _ c21 =>
      bnd (f_X2_addZeros N c21 3 12) fun _ c22 =>
      bnd (f_X2_addLittle N c22 3 v3.toInt64 4) fun _ c23 =>
      bnd (f_X0_addTitle N c23 y18 1) fun _ c24 =>
      bnd (f_X5_titleBytes c24 y18) fun x25 c26 =>
      bnd (f_X2_little N c26 3 (v3 + 18) 4) fun x27 c28 =>
      f_X5_addEntries_13 N p1 n c28 v2 (v3 + ((30 + x25) + x27.toInt32)) (v4 + 1)
      else none
noncomputable def f_X5_addEntries (N : Nat) (c : hS) (p1 : Nat) : Option (Unit × hS) :=
  bnd (f_X2_size c 3) fun x1 c2 =>
  f_X5_addEntries_13 N p1 N c2 x1 0 0
noncomputable def f_X5_addLocal (N : Nat) (c : hS) (p1 : Nat) (p2 : Int32) : Option (Unit × hS) :=
  bnd (f_X2_addMark N c 3 sa3) fun _ c1 =>
  bnd (f_X2_addLittle N c1 3 20 2) fun _ c2 =>
  bnd (f_X2_addLittle N c2 3 0 2) fun _ c3 =>
  bnd (f_X2_addLittle N c3 3 p2.toInt64 2) fun _ c4 =>
  bnd (f_X2_addLittle N c4 3 0 2) fun _ c5 =>
  bnd (f_X2_addLittle N c5 3 33 2) fun _ c6 =>
  bnd (f_X11_checkOf N c6 (p1 + 3)) fun x7 c8 =>
  bnd (f_X2_addLittle N c8 3 x7.toInt64 4) fun _ c9 =>
  bnd (f_X2_addLittle N c9 3 0 4) fun _ c10 =>
  bnd (f_X2_size c10 (p1 + 3)) fun x11 c12 =>
  bnd (f_X2_addLittle N c12 3 x11.toInt64 4) fun _ c13 =>
  bnd (f_X5_titleBytes c13 p1) fun x14 c15 =>
  bnd (f_X2_addLittle N c15 3 x14.toInt64 2) fun _ c16 =>
  bnd (f_X2_addLittle N c16 3 0 2) fun _ c17 =>
  bnd (f_X0_addTitle N c17 p1 1) fun _ c18 =>
  some ((), c18)
noncomputable def f_X5_setSize_2 (N : Nat) (p1 : Int32) (p2 : Int32) : Nat → hS → Int32 → Option (Unit × hS)
  | 0, _, _ => none
  | n + 1, c, v3 =>
  if 4 ≤ v3 then
    some ((), c)
  else
    bnd (f_X2_set c 3 ((p1 + 18) + v3) (j_ushr p2 (8 * v3))) fun _ c1 =>
    f_X5_setSize_2 N p1 p2 n c1 (v3 + 1)
noncomputable def f_X5_setSize (N : Nat) (c : hS) (p1 : Int32) (p2 : Int32) : Option (Unit × hS) :=
  f_X5_setSize_2 N p1 p2 N c 0
noncomputable def f_X8_addBits_2 (N : Nat) (p1 : Int32) (p2 : Int32) : Nat → hS → Int32 → Option (Unit × hS)
  | 0, _, _ => none
  | n + 1, c, v3 =>
  if p2 ≤ v3 then
    some ((), c)
  else
    st1 (sI c 10 1 ((c.1 10 1) ||| (j_shl ((j_shr p1 v3) &&& 1) (c.1 10 2)))) fun c1 =>
    st1 (sI c1 10 2 ((c1.1 10 2) + 1)) fun c2 =>
    if c2.1 10 2 = 8 then
      bnd (f_X2_add c2 3 (c2.1 10 1)) fun _ c3 =>
      st1 (sI c3 10 1 0) fun c4 =>
      st1 (sI c4 10 2 0) fun c5 =>
      f_X8_addBits_2 N p1 p2 n c5 (v3 + 1)
    else
      f_X8_addBits_2 N p1 p2 n c2 (v3 + 1)
noncomputable def f_X8_addBits (N : Nat) (c : hS) (p1 : Int32) (p2 : Int32) : Option (Unit × hS) :=
  f_X8_addBits_2 N p1 p2 N c 0
noncomputable def f_X8_addCode_4 (N : Nat) (p1 : Int32) (p2 : Int32) : Nat → hS → Int32 → Option (Unit × hS)
  | 0, _, _ => none
  | n + 1, c, v3 =>
  if v3 < 0 then
    some ((), c)
  else
    bnd (f_X8_addBits N c (j_shr p1 v3) 1) fun _ c1 =>
    f_X8_addCode_4 N p1 p2 n c1 (v3 + (-1))
noncomputable def f_X8_addCode (N : Nat) (c : hS) (p1 : Int32) (p2 : Int32) : Option (Unit × hS) :=
  f_X8_addCode_4 N p1 p2 N c (p2 - 1)
noncomputable def f_X8_addSymbol (N : Nat) (c : hS) (p1 : Int32) : Option (Unit × hS) :=
  if 144 ≤ p1 then
    if 256 ≤ p1 then
      if 280 ≤ p1 then
        bnd (f_X8_addCode N c ((192 + p1) - 280) 8) fun _ c1 =>
        some ((), c1)
      else
        bnd (f_X8_addCode N c (p1 - 256) 7) fun _ c2 =>
        some ((), c2)
    else
      bnd (f_X8_addCode N c ((400 + p1) - 144) 9) fun _ c3 =>
      some ((), c3)
  else
    bnd (f_X8_addCode N c (48 + p1) 8) fun _ c4 =>
    some ((), c4)
noncomputable def f_X8_distanceSymbol_3 (N : Nat) : Nat → hS → Int32 → Option (Int32 × hS)
  | 0, _, _ => none
  | n + 1, c, v1 =>
  if v1 ≤ 0 then
    some (v1, c)
  else
    bnd (f_X11_distanceBase c v1) fun x1 c2 =>
    if x1 ≤ c2.1 10 3 then
      some (v1, c2)
    else
      f_X8_distanceSymbol_3 N n c2 (v1 + (-1))
noncomputable def f_X8_distanceSymbol (N : Nat) (c : hS) : Option (Int32 × hS) :=
  f_X8_distanceSymbol_3 N N c 29
noncomputable def f_X8_lengthStep_3 (N : Nat) (p1 : Int32) : Nat → hS → Int32 → Option (Int32 × hS)
  | 0, _, _ => none
  | n + 1, c, v2 =>
  if v2 ≤ 0 then
    some (v2, c)
  else
    bnd (f_X11_lengthBase c v2) fun x1 c2 =>
    if x1 ≤ p1 then
      some (v2, c2)
    else
      f_X8_lengthStep_3 N p1 n c2 (v2 + (-1))
noncomputable def f_X8_lengthStep (N : Nat) (c : hS) (p1 : Int32) : Option (Int32 × hS) :=
  f_X8_lengthStep_3 N p1 N c 28
noncomputable def f_X8_longestBefore_67 (N : Nat) (p1 : Nat) (p2 : Int32) (k21 : hS → Int32 → Int32 → Int32 → Option (Int32 × hS)) (c : hS) (v3 : Int32) (v4 : Int32) (v5 : Int32) (v6 : Int32) : Option (Int32 × hS) :=
  if v6 ≤ v4 then
    k21 c v3 v4 (v5 + (-1))
  else
    st1 (sI c 10 3 (p2 - v5)) fun c1 =>
    k21 c1 v3 v6 (v5 + (-1))
noncomputable def f_X8_longestBefore_35 (N : Nat) (p1 : Nat) (p2 : Int32) (k21 : hS → Int32 → Int32 → Int32 → Option (Int32 × hS)) : Nat → hS → Int32 → Int32 → Int32 → Int32 → Option (Int32 × hS)
  | 0, _, _, _, _, _ => none
  | n + 1, c, v3, v4, v5, v6 =>
  if v3 ≤ v6 then
    f_X8_longestBefore_67 N p1 p2 k21 c v3 v4 v5 v6
  else
    bnd (f_X2_get c p1 (v5 + v6)) fun x1 c2 =>
    bnd (f_X2_get c2 p1 (p2 + v6)) fun x3 c4 =>
    if x1 = x3 then
      f_X8_longestBefore_35 N p1 p2 k21 n c4 v3 v4 v5 (v6 + 1)
    else
      f_X8_longestBefore_67 N p1 p2 k21 c4 v3 v4 v5 v6
noncomputable def f_X8_longestBefore_21 (N : Nat) (p1 : Nat) (p2 : Int32) : Nat → hS → Int32 → Int32 → Int32 → Option (Int32 × hS)
  | 0, _, _, _, _ => none
  | n + 1, c, v3, v4, v5 =>
  if v5 < 0 then
    some (v4, c)
  else
    if v3 ≤ v4 then
      some (v4, c)
    else
      f_X8_longestBefore_35 N p1 p2 (f_X8_longestBefore_21 N p1 p2 n) N c v3 v4 v5 0
noncomputable def f_X8_longestBefore (N : Nat) (c : hS) (p1 : Nat) (p2 : Int32) : Option (Int32 × hS) :=
  bnd (f_X2_size c p1) fun x1 c2 =>
  f_X8_longestBefore_21 N p1 p2 N c2 (j_min 258 (x1 - p2)) 0 (p2 - 1)
noncomputable def f_X8_addPacked_24 (N : Nat) (p1 : Nat) : Nat → hS → Int32 → Option (Unit × hS)
  | 0, _, _ => none
  | n + 1, c, v2 =>
  bnd (f_X2_size c p1) fun x1 c2 =>
  if x1 ≤ v2 then
    bnd (f_X8_addSymbol N c2 256) fun _ c3 =>
    if c3.1 10 2 ≤ 0 then
      some ((), c3)
    else
      bnd (f_X2_add c3 3 (c3.1 10 1)) fun _ c4 =>
      some ((), c4)
  else
    bnd (f_X8_longestBefore N c2 p1 v2) fun x5 c6 =>
    if x5 < 3 then
      bnd (f_X2_get c6 p1 v2) fun x7 c8 =>
      bnd (f_X8_addSymbol N c8 x7) fun _ c9 =>
      f_X8_addPacked_24 N p1 n c9 (v2 + 1)
    else
      bnd (f_X8_lengthStep N c6 x5) fun x10 c11 =>
      bnd (f_X8_addSymbol N c11 (257 + x10)) fun _ c12 =>
      bnd (f_X11_lengthBase c12 x10) fun x13 c14 =>
      bnd (f_X11_lengthBits c14 x10) fun x15 c16 =>
      bnd (f_X8_addBits N c16 (x5 - x13) x15) fun _ c17 =>
      bnd (f_X8_distanceSymbol N c17) fun x18 c19 =>
      bnd (f_X8_addCode N c19 x18 5) fun _ c20 =>
      bnd (f_X11_distanceBase c20 x18) fun x21 c22 =>
      bnd (f_X11_distanceBits c22 x18) fun x23 c24 =>
      bnd (f_X8_addBits N c24 ((c20.1 10 3) - x21) x23) fun _ c25 =>
      f_X8_addPacked_24 N p1 n c25 (v2 + x5)
noncomputable def f_X8_addPacked (N : Nat) (c : hS) (p1 : Nat) : Option (Unit × hS) :=
  st1 (sI c 10 1 0) fun c1 =>
  st1 (sI c1 10 2 0) fun c2 =>
  bnd (f_X8_addBits N c2 1 1) fun _ c3 =>
  bnd (f_X8_addBits N c3 1 2) fun _ c4 =>
  f_X8_addPacked_24 N p1 N c4 0
noncomputable def f_X5_layOut_120 (N : Nat) (p1 : Nat) (p2 : Int32) (k2 : hS → Int32 → Option (Unit × hS)) (c : hS) (v3 : Int32) (v5 : Int32) (v7 : Int32) : Option (Unit × hS) :=
  bnd (f_X2_size c 3) fun x1 c2 =>
  bnd (f_X5_setSize N c2 v5 (x1 - v7)) fun _ c3 =>
  k2 c3 (v3 + 1)
noncomputable def f_X5_layOut_67 (N : Nat) (p1 : Nat) (p2 : Int32) (k2 : hS → Int32 → Option (Unit × hS)) (c : hS) (v3 : Int32) (v4 : Nat) (v5 : Int32) (v6 : Int32) (w0 : Int32) (w1 : Nat) : Option (Unit × hS) :=
  bnd (f_X5_addLocal N c w1 w0) fun _ c1 =>
  bnd (f_X2_size c1 3) fun x2 c3 =>
  if v6 = 0 then
    bnd (f_X2_size c3 (v4 + 3)) fun x4 c5 =>
    bnd (f_X2_addRow N c5 3 (v4 + 3) 0 x4) fun _ c6 =>
    f_X5_layOut_120 N p1 p2 k2 c6 v3 v5 x2
  else
    bnd (f_X8_addPacked N c3 (v4 + 3)) fun _ c7 =>
    f_X5_layOut_120 N p1 p2 k2 c7 v3 v5 x2
noncomputable def f_X5_layOut_51 (N : Nat) (p1 : Nat) (p2 : Int32) (k2 : hS → Int32 → Option (Unit × hS)) (c : hS) (v3 : Int32) (v4 : Nat) (v5 : Int32) (w0 : Int32) : Option (Unit × hS) :=
  if w0 = 0 then
    f_X5_layOut_67 N p1 p2 k2 c v3 v4 v5 w0 0 v4
  else
    f_X5_layOut_67 N p1 p2 k2 c v3 v4 v5 w0 8 v4
noncomputable def f_X5_layOut_50 (N : Nat) (p1 : Nat) (p2 : Int32) (k2 : hS → Int32 → Option (Unit × hS)) (c : hS) (v3 : Int32) (v4 : Nat) (v5 : Int32) : Option (Unit × hS) :=
  f_X5_layOut_51 N p1 p2 k2 c v3 v4 v5 0
noncomputable def f_X5_layOut_2 (N : Nat) (p1 : Nat) (p2 : Int32) : Nat → hS → Int32 → Option (Unit × hS)
  | 0, _, _ => none
  | n + 1, c, v3 =>
  bnd (f_X9_size c p1) fun x1 c2 =>
  if x1 ≤ v3 then
    bnd (f_X5_addEntries N c2 p1) fun _ c3 =>
    some ((), c3)
  else
    bnd (f_X9_member c2 p1 v3) fun x4 c5 =>
    opt x4 (
      f_X5_layOut_2 N p1 p2 n c5 (v3 + 1)) fun y6 =>
      bif Nat.beq (kc y6) 6 then
      bnd (f_X2_size c5 3) fun x7 c8 =>
      if p2 = 0 then
        f_X5_layOut_50 N p1 p2 (f_X5_layOut_2 N p1 p2 n) c8 v3 y6 x7
      else
        bnd (f_X2_size c8 (y6 + 3)) fun x9 c10 =>
        if x9 ≤ 0 then
          f_X5_layOut_50 N p1 p2 (f_X5_layOut_2 N p1 p2 n) c10 v3 y6 x7
        else
          f_X5_layOut_51 N p1 p2 (f_X5_layOut_2 N p1 p2 n) c10 v3 y6 x7 1
      else none
noncomputable def f_X5_layOut (N : Nat) (c : hS) (p1 : Nat) (p2 : Int32) : Option (Unit × hS) :=
  f_X5_layOut_2 N p1 p2 N c 0
noncomputable def f_X6_number (c : hS) : Option (Int32 × hS) :=
  some (c.1 9 0, c)
noncomputable def f_X6_place (c : hS) : Option (Int32 × hS) :=
  some (c.1 9 1, c)
noncomputable def f_X6_clear (c : hS) : Option (Unit × hS) :=
  st1 (sI c 9 0 0) fun c1 =>
  st1 (sI c1 9 1 (-1)) fun c2 =>
  some ((), c2)
noncomputable def f_X9_clear (c : hS) (s : Nat) : Option (Unit × hS) :=
  st1 (sI c s 1 0) fun c1 =>
  some ((), c1)
noncomputable def f_X9_hasUnder_2 (N : Nat) (s : Nat) (p1 : Nat) : Nat → hS → Int32 → Option (Int32 × hS)
  | 0, _, _ => none
  | n + 1, c, v2 =>
  if c.1 s 1 ≤ v2 then
    some (0, c)
  else
    bnd (f_X9_member c s v2) fun x1 c2 =>
    opt x1 (
      f_X9_hasUnder_2 N s p1 n c2 (v2 + 1)) fun y3 =>
      bif Nat.beq (kc y3) 6 then
      bnd (f_X2_liesUnder N c2 (y3 + 1) p1) fun x4 c5 =>
      if x4 = 0 then
        f_X9_hasUnder_2 N s p1 n c5 (v2 + 1)
      else
        some (1, c5)
      else none
noncomputable def f_X9_hasUnder (N : Nat) (c : hS) (s : Nat) (p1 : Nat) : Option (Int32 × hS) :=
  f_X9_hasUnder_2 N s p1 N c 0
noncomputable def f_X11_partBehind (c : hS) (p0 : Nat) : Option (Int32 × hS) :=
  bnd (f_X2_size c p0) fun x1 c2 =>
  if x1 = 0 then
    some (0, c2)
  else
    bnd (f_X2_size c2 p0) fun x3 c4 =>
    some ((x3 + 1), c4)
noncomputable def f_X11_partLength_2 (N : Nat) (p0 : Nat) (p1 : Int32) : Nat → hS → Int32 → Option (Int32 × hS)
  | 0, _, _ => none
  | n + 1, c, v2 =>
  bnd (f_X2_size c p0) fun x1 c2 =>
  if x1 ≤ v2 then
    bnd (f_X2_size c2 p0) fun x3 c4 =>
    some ((x3 - p1), c4)
  else
    bnd (f_X2_get c2 p0 v2) fun x5 c6 =>
    if x5 = 47 then
      some ((v2 - p1), c6)
    else
      f_X11_partLength_2 N p0 p1 n c6 (v2 + 1)
noncomputable def f_X11_partLength (N : Nat) (c : hS) (p0 : Nat) (p1 : Int32) : Option (Int32 × hS) :=
  f_X11_partLength_2 N p0 p1 N c p1
noncomputable def f_X9_isSamePart_20 (N : Nat) (p0 : Nat) (p1 : Nat) (p2 : Int32) : Nat → hS → Int32 → Int32 → Option (Int32 × hS)
  | 0, _, _, _ => none
  | n + 1, c, v3, v4 =>
  if (p2 + v3) ≤ v4 then
    some (1, c)
  else
    bnd (f_X2_get c p0 v4) fun x1 c2 =>
    bnd (f_X2_get c2 p1 v4) fun x3 c4 =>
    if x1 = x3 then
      f_X9_isSamePart_20 N p0 p1 p2 n c4 v3 (v4 + 1)
    else
      some (0, c4)
noncomputable def f_X9_isSamePart (N : Nat) (c : hS) (p0 : Nat) (p1 : Nat) (p2 : Int32) : Option (Int32 × hS) :=
  bnd (f_X11_partLength N c p0 p2) fun x1 c2 =>
  bnd (f_X11_partLength N c2 p1 p2) fun x3 c4 =>
  if x3 = x1 then
    f_X9_isSamePart_20 N p0 p1 p2 N c4 x1 p2
  else
    some (0, c4)
noncomputable def f_X9_isFirstOfChild_26 (N : Nat) (s : Nat) (p1 : Nat) (p2 : Int32) : Nat → hS → Nat → Int32 → Option (Int32 × hS)
  | 0, _, _, _ => none
  | n + 1, c, v3, v4 =>
  if p2 ≤ v4 then
    some (1, c)
  else
    bnd (f_X9_member c s v4) fun x1 c2 =>
    opt x1 (
      f_X9_isFirstOfChild_26 N s p1 p2 n c2 v3 (v4 + 1)) fun y3 =>
      bif Nat.beq (kc y3) 6 then
      bnd (f_X2_liesUnder N c2 (y3 + 1) p1) fun x4 c5 =>
      if x4 = 0 then
        f_X9_isFirstOfChild_26 N s p1 p2 n c5 v3 (v4 + 1)
      else
        bnd (f_X11_partBehind c5 p1) fun x6 c7 =>
        bnd (f_X9_isSamePart N c7 (y3 + 1) (v3 + 1) x6) fun x8 c9 =>
        if x8 = 0 then
          f_X9_isFirstOfChild_26 N s p1 p2 n c9 v3 (v4 + 1)
        else
          some (0, c9)
      else none
noncomputable def f_X9_isFirstOfChild (N : Nat) (c : hS) (s : Nat) (p1 : Nat) (p2 : Int32) : Option (Int32 × hS) :=
  bnd (f_X9_member c s p2) fun x1 c2 =>
  opt x1 (
    some (0, c2)) fun y3 =>
    bif Nat.beq (kc y3) 6 then
    bnd (f_X2_liesUnder N c2 (y3 + 1) p1) fun x4 c5 =>
    if x4 = 0 then
      some (0, c5)
    else
      f_X9_isFirstOfChild_26 N s p1 p2 N c5 y3 0
    else none
noncomputable def f_X9_children_4 (N : Nat) (s : Nat) (p1 : Nat) : Nat → hS → Int32 → Int32 → Option (Int32 × hS)
  | 0, _, _, _ => none
  | n + 1, c, v2, v3 =>
  if c.1 s 1 ≤ v3 then
    some (v2, c)
  else
    bnd (f_X9_isFirstOfChild N c s p1 v3) fun x1 c2 =>
    if x1 = 0 then
      f_X9_children_4 N s p1 n c2 v2 (v3 + 1)
    else
      f_X9_children_4 N s p1 n c2 (v2 + 1) (v3 + 1)
noncomputable def f_X9_children (N : Nat) (c : hS) (s : Nat) (p1 : Nat) : Option (Int32 × hS) :=
  f_X9_children_4 N s p1 N c 0 0
noncomputable def f_X9_firstOfChild_5 (N : Nat) (s : Nat) (p1 : Nat) (p2 : Int32) : Nat → hS → Int32 → Int32 → Option (Int32 × hS)
  | 0, _, _, _ => none
  | n + 1, c, v3, v4 =>
  if c.1 s 1 ≤ v4 then
    some ((-1), c)
  else
    bnd (f_X9_isFirstOfChild N c s p1 v4) fun x1 c2 =>
    if x1 = 0 then
      f_X9_firstOfChild_5 N s p1 p2 n c2 v3 (v4 + 1)
    else
      if v3 = p2 then
        some (v4, c2)
      else
        f_X9_firstOfChild_5 N s p1 p2 n c2 (v3 + 1) (v4 + 1)
noncomputable def f_X9_firstOfChild (N : Nat) (c : hS) (s : Nat) (p1 : Nat) (p2 : Int32) : Option (Int32 × hS) :=
  f_X9_firstOfChild_5 N s p1 p2 N c 0 0
noncomputable def f_X10_orderFixed (N : Nat) (c : hS) : Option (Unit × hS) :=
  bnd (f_X10_fillLengths N c 0 144 8) fun _ c1 =>
  bnd (f_X10_fillLengths N c1 144 256 9) fun _ c2 =>
  bnd (f_X10_fillLengths N c2 256 280 7) fun _ c3 =>
  bnd (f_X10_fillLengths N c3 280 288 8) fun _ c4 =>
  bnd (f_X3_order N c4 12 0 288) fun _ c5 =>
  bnd (f_X10_fillLengths N c5 0 32 5) fun _ c6 =>
  bnd (f_X3_order N c6 16 0 32) fun _ c7 =>
  some ((), c7)
noncomputable def f_X11_type (N : Nat) (c : hS) (p1 : Int64) (p3 : Int32) : Option ((Int32 ⊕ Nat) × hS) :=
  if p3 < 1 then
    some (.inr 11, c)
  else
    if p3 ≤ 8 then
      bnd (f_X2_size c 1) fun x1 c2 =>
      if (x1 + p3) ≤ 512 then
        bnd (f_X2_addBig N c2 1 p1 p3) fun _ c3 =>
        bnd (f_X2_size c3 1) fun x4 c5 =>
        some (.inl (x4), c5)
      else
        some (.inr 36, c2)
    else
      some (.inr 11, c)
noncomputable def f_X11_keep (c : hS) (p1 : Int32) : Option ((Unit ⊕ Nat) × hS) :=
  if p1 < 0 then
    some (.inr 15, c)
  else
    bnd (f_X2_size c 1) fun x1 c2 =>
    if p1 ≤ x1 then
      bnd (f_X2_cutTo c2 1 p1) fun _ c3 =>
      some (.inl (()), c3)
    else
      some (.inr 15, c2)
noncomputable def f_X11_typed (c : hS) (p1 : Int32) : Option ((Int32 ⊕ Nat) × hS) :=
  bnd (f_X2_has c 1 p1) fun x1 c2 =>
  if x1 = 0 then
    some (.inr 11, c2)
  else
    bnd (f_X2_get c2 1 p1) fun x3 c4 =>
    some (.inl (x3), c4)
noncomputable def f_X11_come_86 (N : Nat) (p1 : Int32) (p2 : Int32) (c : hS) (w0 : Int32) (w1 : Int32) : Option ((Int32 ⊕ Nat) × hS) :=
  if w1 ≤ w0 then
    bif Nat.beq (kc (c.2.2 0 8)) 8 then
    bnd (f_X9_isInTheWay N c (c.2.2 0 8) 5 p2) fun x2 c3 =>
    if x2 = 0 then
      bif Nat.beq (kc (c3.2.2 0 8)) 8 then
      bnd (f_X9_hasRoomFor N c3 (c3.2.2 0 8) 5) fun x5 c6 =>
      if x5 = 0 then
        some (.inr 138, c6)
      else
        bif Nat.beq (kc (c6.2.2 0 8)) 8 then
        bnd (f_X2_size c6 1) fun x8 c9 =>
        bnd (f_X9_take N c9 (c6.2.2 0 8) 5 p2 1 p1 x8) fun _ c10 =>
        bnd (f_X2_cutTo c10 1 0) fun _ c11 =>
        bif Nat.beq (kc (c11.2.2 0 8)) 8 then
        bnd (f_X9_size c11 (c11.2.2 0 8)) fun x13 c14 =>
        some (.inl (x13), c14)
        else none
        else none
      else none
    else
      some (.inr 114, c3)
    else none
  else
    some (.inr 89, c)
noncomputable def f_X11_come (N : Nat) (c : hS) (p1 : Int32) (p2 : Int32) : Option ((Int32 ⊕ Nat) × hS) :=
  if p1 < 0 then
    some (.inr 15, c)
  else
    bnd (f_X2_size c 1) fun x1 c2 =>
    if p1 ≤ x1 then
      bnd (f_X2_cutTo c2 5 0) fun _ c3 =>
      bnd (f_X2_addRow N c3 5 1 0 p1) fun _ c4 =>
      bnd (f_X11_isName N c4 5) fun x5 c6 =>
      if x5 = 0 then
        some (.inr 56, c6)
      else
        bnd (f_X2_size c6 1) fun x7 c8 =>
        if p2 = 0 then
          f_X11_come_86 N p1 p2 c8 400 (x7 - p1)
        else
          f_X11_come_86 N p1 p2 c8 0 (x7 - p1)
    else
      some (.inr 15, c2)
noncomputable def f_X11_go (N : Nat) (c : hS) (p1 : Int32) : Option ((Int32 ⊕ Nat) × hS) :=
  bif Nat.beq (kc (c.2.2 0 8)) 8 then
  bnd (f_X9_member c (c.2.2 0 8) p1) fun x2 c3 =>
  opt x2 (
    some (.inr 11, c3)) fun y4 =>
    bif Nat.beq (kc y4) 6 then
    bif Nat.beq (kc (c3.2.2 0 8)) 8 then
    bnd (f_X9_drop N c3 (c3.2.2 0 8) p1) fun _ c6 =>
    bif Nat.beq (kc (c6.2.2 0 8)) 8 then
    bnd (f_X9_size c6 (c6.2.2 0 8)) fun x8 c9 =>
    some (.inl (x8), c9)
    else none
    else none
    else none
  else none
noncomputable def f_X11_name (c : hS) (p1 : Int32) (p2 : Int32) : Option ((Int32 ⊕ Nat) × hS) :=
  bif Nat.beq (kc (c.2.2 0 8)) 8 then
  bnd (f_X9_member c (c.2.2 0 8) p1) fun x2 c3 =>
  opt x2 (
    some (.inr 13, c3)) fun y4 =>
    bif Nat.beq (kc y4) 6 then
    if p2 = (-3) then
      if c3.1 y4 2 = 0 then
        some (.inl (0), c3)
      else
        some (.inl (1), c3)
    else
    if p2 = (-2) then
      bnd (f_X2_size c3 (y4 + 3)) fun x5 c6 =>
      some (.inl (x5), c6)
    else
    if p2 = (-1) then
      bnd (f_X2_size c3 (y4 + 1)) fun x7 c8 =>
      some (.inl (x7), c8)
    else
      bnd (f_X2_has c3 (y4 + 1) p2) fun x9 c10 =>
      if x9 = 0 then
        some (.inr 92, c10)
      else
        bnd (f_X2_get c10 (y4 + 1) p2) fun x11 c12 =>
        some (.inl (x11), c12)
    else none
  else none
noncomputable def f_X11_byteAt (c : hS) (p1 : Int32) (p2 : Int32) : Option ((Int32 ⊕ Nat) × hS) :=
  bif Nat.beq (kc (c.2.2 0 8)) 8 then
  bnd (f_X9_member c (c.2.2 0 8) p1) fun x2 c3 =>
  opt x2 (
    some (.inr 24, c3)) fun y4 =>
    bif Nat.beq (kc y4) 6 then
    bnd (f_X2_has c3 (y4 + 3) p2) fun x5 c6 =>
    if x5 = 0 then
      some (.inr 24, c6)
    else
      bnd (f_X2_get c6 (y4 + 3) p2) fun x7 c8 =>
      some (.inl (x7), c8)
    else none
  else none
noncomputable def f_X11_kind (N : Nat) (c : hS) : Option (Int32 × hS) :=
  bnd (f_X2_size c 1) fun x1 c2 =>
  if x1 = 0 then
    some (1, c2)
  else
    bif Nat.beq (kc (c2.2.2 0 8)) 8 then
    bif Nat.beq (kc (c2.2.2 0 8)) 8 then
    bnd (f_X9_find N c2 (c2.2.2 0 8) 1) fun x5 c6 =>
    bnd (f_X9_member c6 (c2.2.2 0 8) x5) fun x7 c8 =>
    opt x7 (
      bif Nat.beq (kc (c8.2.2 0 8)) 8 then
      bnd (f_X9_hasUnder N c8 (c8.2.2 0 8) 1) fun x11 c12 =>
      if x11 = 0 then
        some (0, c12)
      else
        some (1, c12)
      else none) fun y9 =>
      bif Nat.beq (kc y9) 6 then
      if c8.1 y9 2 = 0 then
        some (2, c8)
      else
        some (1, c8)
      else none
    else none
    else none
noncomputable def f_X11_child (N : Nat) (c : hS) (p1 : Int32) (p2 : Int32) : Option ((Int32 ⊕ Nat) × hS) :=
  if p1 = (-1) then
    if p2 = (-1) then
      bif Nat.beq (kc (c.2.2 0 8)) 8 then
      bnd (f_X9_children N c (c.2.2 0 8) 1) fun x15 c16 =>
      some (.inl (x15), c16)
      else none
    else
      some (.inr 10, c)
  else
    bif Nat.beq (kc (c.2.2 0 8)) 8 then
    bif Nat.beq (kc (c.2.2 0 8)) 8 then
    bnd (f_X9_firstOfChild N c (c.2.2 0 8) 1 p1) fun x3 c4 =>
    bnd (f_X9_member c4 (c.2.2 0 8) x3) fun x5 c6 =>
    opt x5 (
      some (.inr 56, c6)) fun y7 =>
      bif Nat.beq (kc y7) 6 then
      bnd (f_X11_partBehind c6 1) fun x8 c9 =>
      bnd (f_X11_partLength N c9 (y7 + 1) x8) fun x10 c11 =>
      if p2 = (-1) then
        some (.inl (x10), c11)
      else
        if p2 < 0 then
          some (.inr 104, c11)
        else
          if p2 < x10 then
            bnd (f_X2_get c11 (y7 + 1) (x8 + p2)) fun x12 c13 =>
            some (.inl (x12), c13)
          else
            some (.inr 104, c11)
      else none
    else none
    else none
noncomputable def f_X11_archiveOf (c : hS) (p1 : Int32) : Option ((Option Nat) × hS) :=
  if p1 < 0 then
    some (none, c)
  else
    if (Int32.ofNat (ln 33)) ≤ p1 then
      some (none, c)
    else
      bif j_in p1 (ln 33) then
      some ((some (34 + p1.toNatClampNeg)), c)
      else none
noncomputable def f_X11_write (N : Nat) (c : hS) (p1 : Int32) (p2 : Int32) : Option ((Int32 ⊕ Nat) × hS) :=
  bnd (f_X11_archiveOf c p1) fun x1 c2 =>
  opt x1 (
    some (.inr 10, c2)) fun y3 =>
    bnd (f_X2_cutTo c2 3 0) fun _ c4 =>
    bif Nat.beq (kc (c4.2.2 0 8)) 8 then
    if y3 = 34 then
      bnd (f_X1_layOut N c4 (c4.2.2 0 8) p2) fun _ c6 =>
      bnd (f_X2_size c6 3) fun x7 c8 =>
      some (.inl (x7), c8)
    else
    if y3 = 35 then
      bnd (f_X4_layOut N c4 (c4.2.2 0 8) p2) fun _ c9 =>
      bnd (f_X2_size c9 3) fun x10 c11 =>
      some (.inl (x10), c11)
    else
    if y3 = 36 then
      bnd (f_X5_layOut N c4 (c4.2.2 0 8) p2) fun _ c12 =>
      bnd (f_X2_size c12 3) fun x13 c14 =>
      some (.inl (x13), c14)
    else
      none
    else none
noncomputable def f_X11_read (N : Nat) (c : hS) (p1 : Int32) : Option ((Int32 ⊕ Nat) × hS) :=
  bnd (f_X11_archiveOf c p1) fun x1 c2 =>
  opt x1 (
    some (.inr 10, c2)) fun y3 =>
    bnd (f_X6_clear c2) fun _ c4 =>
    bif Nat.beq (kc (c4.2.2 0 9)) 8 then
    bnd (f_X9_clear c4 (c4.2.2 0 9)) fun _ c6 =>
    bif Nat.beq (kc (c6.2.2 0 9)) 8 then
    if y3 = 34 then
      bnd (f_X1_takeIn N c6 (c6.2.2 0 9)) fun x8 c9 =>
      if x8 = 0 then
        some (.inl ((-1)), c9)
      else
        bif Nat.beq (kc (c9.2.2 0 8)) 8 then
        bif Nat.beq (kc (c9.2.2 0 9)) 8 then
        st1 (sR c9 0 8 (c9.2.2 0 9)) fun c12 =>
        st1 (sR c12 0 9 (c9.2.2 0 8)) fun c13 =>
        bif Nat.beq (kc (c13.2.2 0 8)) 8 then
        bnd (f_X9_size c13 (c13.2.2 0 8)) fun x15 c16 =>
        some (.inl (x15), c16)
        else none
        else none
        else none
    else
    if y3 = 35 then
      bnd (f_X4_takeIn N c6 (c6.2.2 0 9)) fun x17 c18 =>
      if x17 = 0 then
        some (.inl ((-1)), c18)
      else
        bif Nat.beq (kc (c18.2.2 0 8)) 8 then
        bif Nat.beq (kc (c18.2.2 0 9)) 8 then
        st1 (sR c18 0 8 (c18.2.2 0 9)) fun c21 =>
        st1 (sR c21 0 9 (c18.2.2 0 8)) fun c22 =>
        bif Nat.beq (kc (c22.2.2 0 8)) 8 then
        bnd (f_X9_size c22 (c22.2.2 0 8)) fun x24 c25 =>
        some (.inl (x24), c25)
        else none
        else none
        else none
    else
    if y3 = 36 then
      bnd (f_X5_takeIn N c6 (c6.2.2 0 9)) fun x26 c27 =>
      if x26 = 0 then
        some (.inl ((-1)), c27)
      else
        bif Nat.beq (kc (c27.2.2 0 8)) 8 then
        bif Nat.beq (kc (c27.2.2 0 9)) 8 then
        st1 (sR c27 0 8 (c27.2.2 0 9)) fun c30 =>
        st1 (sR c30 0 9 (c27.2.2 0 8)) fun c31 =>
        bif Nat.beq (kc (c31.2.2 0 8)) 8 then
        bnd (f_X9_size c31 (c31.2.2 0 8)) fun x33 c34 =>
        some (.inl (x33), c34)
        else none
        else none
        else none
    else
      none
    else none
    else none
noncomputable def f_X11_fault (c : hS) (p1 : Int32) : Option ((Int32 ⊕ Nat) × hS) :=
  if p1 = 0 then
    bnd (f_X6_number c) fun x1 c2 =>
    some (.inl (x1), c2)
  else
  if p1 = 1 then
    bnd (f_X6_place c) fun x3 c4 =>
    some (.inl (x3), c4)
  else
    some (.inr 44, c)
noncomputable def f_X11_pack (N : Nat) (c : hS) : Option (Int32 × hS) :=
  bnd (f_X2_cutTo c 3 0) fun _ c1 =>
  bnd (f_X8_addPacked N c1 1) fun _ c2 =>
  bnd (f_X2_size c2 3) fun x3 c4 =>
  some (x3, c4)
noncomputable def f_X11_unpack (N : Nat) (c : hS) : Option (Int32 × hS) :=
  bnd (f_X6_clear c) fun _ c1 =>
  bnd (f_X2_size c1 3) fun x2 c3 =>
  bnd (f_X10_open N c3 0 x2 512) fun x4 c5 =>
  if x4 = 0 then
    some ((-1), c5)
  else
    bnd (f_X2_cutTo c5 1 0) fun _ c6 =>
    bnd (f_X2_size c6 7) fun x7 c8 =>
    bnd (f_X2_addRow N c8 1 7 0 x7) fun _ c9 =>
    bnd (f_X2_size c9 1) fun x10 c11 =>
    some (x10, c11)
noncomputable def f_X11_check (N : Nat) (c : hS) : Option (Int32 × hS) :=
  bnd (f_X11_checkOf N c 1) fun x1 c2 =>
  some (x1, c2)
noncomputable def f_X11_feed (N : Nat) (c : hS) (p1 : Int32) (p2 : Int32) (p3 : Int32) (p4 : Int32) (p5 : Int32) : Option ((Int32 ⊕ Nat) × hS) :=
  bnd (f_X2_size c 3) fun x1 c2 =>
  if (x1 + 20) ≤ 20000 then
    bnd (f_X2_addBig N c2 3 p1.toInt64 4) fun _ c3 =>
    bnd (f_X2_addBig N c3 3 p2.toInt64 4) fun _ c4 =>
    bnd (f_X2_addBig N c4 3 p3.toInt64 4) fun _ c5 =>
    bnd (f_X2_addBig N c5 3 p4.toInt64 4) fun _ c6 =>
    bnd (f_X2_addBig N c6 3 p5.toInt64 4) fun _ c7 =>
    bnd (f_X2_size c7 3) fun x8 c9 =>
    some (.inl (x8), c9)
  else
    some (.inr 16, c2)
noncomputable def f_X11_end (c : hS) (p1 : Int32) : Option ((Unit ⊕ Nat) × hS) :=
  if p1 < 0 then
    some (.inr 15, c)
  else
    bnd (f_X2_size c 3) fun x1 c2 =>
    if p1 ≤ x1 then
      bnd (f_X2_cutTo c2 3 p1) fun _ c3 =>
      some (.inl (()), c3)
    else
      some (.inr 15, c2)
noncomputable def f_X11_poke (c : hS) (p1 : Int32) (p2 : Int32) : Option ((Int32 ⊕ Nat) × hS) :=
  bnd (f_X2_has c 3 p1) fun x1 c2 =>
  if x1 = 0 then
    some (.inr 11, c2)
  else
    if p2 < 0 then
      some (.inr 32, c2)
    else
      if p2 ≤ 255 then
        bnd (f_X2_get c2 3 p1) fun x3 c4 =>
        bnd (f_X2_set c4 3 p1 p2) fun _ c5 =>
        some (.inl (x3), c5)
      else
        some (.inr 32, c2)
noncomputable def f_X11_at_53 (N : Nat) (p1 : Int32) (p2 : Int32) : Nat → hS → Int64 → Int32 → Option ((Int64 ⊕ Nat) × hS)
  | 0, _, _, _ => none
  | n + 1, c, v3, v5 =>
  if p2 ≤ v5 then
    some (.inl (v3), c)
  else
    bnd (f_X2_get c 3 (p1 + v5)) fun x1 c2 =>
    f_X11_at_53 N p1 p2 n c2 ((j_lshl v3 8) ||| x1.toInt64) (v5 + 1)
noncomputable def f_X11_at (N : Nat) (c : hS) (p1 : Int32) (p2 : Int32) : Option ((Int64 ⊕ Nat) × hS) :=
  if p2 < 1 then
    some (.inr 11, c)
  else
    if p2 ≤ 8 then
      if p1 < 0 then
        some (.inr 38, c)
      else
        bnd (f_X2_size c 3) fun x1 c2 =>
        if p1 ≤ (x1 - p2) then
          f_X11_at_53 N p1 p2 N c2 0 0
        else
          some (.inr 38, c2)
    else
      some (.inr 11, c)
noncomputable def f_X11_count (c : hS) (p1 : Int32) : Option ((Int32 ⊕ Nat) × hS) :=
  if p1 = 0 then
    bif Nat.beq (kc (c.2.2 0 8)) 8 then
    bnd (f_X9_size c (c.2.2 0 8)) fun x2 c3 =>
    some (.inl (x2), c3)
    else none
  else
  if p1 = 1 then
    bnd (f_X2_size c 1) fun x4 c5 =>
    some (.inl (x4), c5)
  else
  if p1 = 2 then
    bnd (f_X2_size c 3) fun x6 c7 =>
    some (.inl (x6), c7)
  else
    some (.inr 52, c)
noncomputable def f_X12_thrown (c : hS) : Option (Int32 × hS) :=
  some (c.1 201 0, c)
noncomputable def f_X12_in (c : hS) (p0 : Int64) (p2 : Int64) (p4 : Int64) : Option (Int32 × hS) :=
  if j_cmp p0 p2 < 0 then
    some (0, c)
  else
    if 0 < j_cmp p0 p4 then
      some (0, c)
    else
      some (1, c)
noncomputable def f_X12_refuses (c : hS) (p1 : Int32) (p2 : Int32) : Option (Int32 × hS) :=
  if c.1 201 0 = 0 then
    if p1 = 0 then
      if c.1 201 0 ≤ 0 then
        some (0, c)
      else
        some (1, c)
    else
      st1 (sI c 201 0 p2) fun c1 =>
      if c1.1 201 0 ≤ 0 then
        some (0, c1)
      else
        some (1, c1)
  else
    if c.1 201 0 ≤ 0 then
      some (0, c)
    else
      some (1, c)
noncomputable def f_X12_fails (c : hS) (p1 : Int32) (p2 : Int32) : Option (Int32 × hS) :=
  if c.1 201 5 = 0 then
    st1 (sI c 201 5 p1) fun c1 =>
    st1 (sI c1 201 6 p2) fun c2 =>
    some (0, c2)
  else
    some (0, c)
noncomputable def f_X12_type_62 (N : Nat) (p1 : Int64) (p3 : Int32) : Nat → hS → Int32 → Option (Int32 × hS)
  | 0, _, _ => none
  | n + 1, c, v4 =>
  if v4 < 0 then
    some (c.1 201 2, c)
  else
    bif j_in (c.1 201 2) (ln 202) then
    st1 (sI c 202 (c.1 201 2).toNatClampNeg (((j_lushr p1 (8 * v4)) &&& 255).toInt32)) fun c1 =>
    st1 (sI c1 201 2 ((c1.1 201 2) + 1)) fun c2 =>
    f_X12_type_62 N p1 p3 n c2 (v4 + (-1))
    else none
noncomputable def f_X12_type_48 (N : Nat) (p1 : Int64) (p3 : Int32) (c : hS) (w0 : Int32) : Option (Int32 × hS) :=
  bnd (f_X12_refuses c w0 2) fun x1 c2 =>
  if x1 = 0 then
    f_X12_type_62 N p1 p3 N c2 (p3 - 1)
  else
    some (0, c2)
noncomputable def f_X12_type_23 (N : Nat) (p1 : Int64) (p3 : Int32) (c : hS) (w0 : Int32) : Option (Int32 × hS) :=
  bnd (f_X12_refuses c w0 1) fun x1 c2 =>
  if x1 = 0 then
    if ((c2.1 201 2) + p3) ≤ 512 then
      f_X12_type_48 N p1 p3 c2 0
    else
      f_X12_type_48 N p1 p3 c2 1
  else
    some (0, c2)
noncomputable def f_X12_type (N : Nat) (c : hS) (p1 : Int64) (p3 : Int32) : Option (Int32 × hS) :=
  st1 (sI c 201 0 0) fun c1 =>
  bnd (f_X12_in c1 p3.toInt64 1 8) fun x2 c3 =>
  if x2 = 0 then
    f_X12_type_23 N p1 p3 c3 1
  else
    f_X12_type_23 N p1 p3 c3 0
noncomputable def f_X12_keep_25 (p1 : Int32) (c : hS) (w0 : Int32) : Option (Unit × hS) :=
  bnd (f_X12_refuses c w0 1) fun x1 c2 =>
  if x1 = 0 then
    st1 (sI c2 201 2 p1) fun c3 =>
    some ((), c3)
  else
    some ((), c2)
noncomputable def f_X12_keep (c : hS) (p1 : Int32) : Option (Unit × hS) :=
  st1 (sI c 201 0 0) fun c1 =>
  bnd (f_X12_in c1 p1.toInt64 0 ((c1.1 201 2).toInt64)) fun x2 c3 =>
  if x2 = 0 then
    f_X12_keep_25 p1 c3 1
  else
    f_X12_keep_25 p1 c3 0
noncomputable def f_X12_typed_27 (p1 : Int32) (c : hS) (w0 : Int32) : Option (Int32 × hS) :=
  bnd (f_X12_refuses c w0 1) fun x1 c2 =>
  if x1 = 0 then
    bif j_in p1 (ln 202) then
    some (c2.1 202 p1.toNatClampNeg, c2)
    else none
  else
    some (0, c2)
noncomputable def f_X12_typed (c : hS) (p1 : Int32) : Option (Int32 × hS) :=
  st1 (sI c 201 0 0) fun c1 =>
  bnd (f_X12_in c1 p1.toInt64 0 (((c1.1 201 2) - 1).toInt64)) fun x2 c3 =>
  if x2 = 0 then
    f_X12_typed_27 p1 c3 1
  else
    f_X12_typed_27 p1 c3 0
noncomputable def f_X12_put (c : hS) (p1 : Int32) : Option (Unit × hS) :=
  bif j_in (c.1 201 4) (ln 203) then
  st1 (sI c 203 (c.1 201 4).toNatClampNeg (p1 &&& 255)) fun c1 =>
  st1 (sI c1 201 4 ((c1.1 201 4) + 1)) fun c2 =>
  some ((), c2)
  else none
noncomputable def f_X12_feed_89 (N : Nat) (p1 : Int32) (p2 : Int32) (p3 : Int32) (p4 : Int32) (p5 : Int32) (k36 : hS → Int32 → Option (Int32 × hS)) (c : hS) (v6 : Int32) (w0 : Int32) : Option (Int32 × hS) :=
  bnd (f_X12_put c (j_shr w0 (24 - (8 * (j_rem v6 4))))) fun _ c1 =>
  k36 c1 (v6 + 1)
noncomputable def f_X12_feed_36 (N : Nat) (p1 : Int32) (p2 : Int32) (p3 : Int32) (p4 : Int32) (p5 : Int32) : Nat → hS → Int32 → Option (Int32 × hS)
  | 0, _, _ => none
  | n + 1, c, v6 =>
  if 20 ≤ v6 then
    some (c.1 201 4, c)
  else
    if 4 ≤ v6 then
      if 8 ≤ v6 then
        if 12 ≤ v6 then
          if 16 ≤ v6 then
            f_X12_feed_89 N p1 p2 p3 p4 p5 (f_X12_feed_36 N p1 p2 p3 p4 p5 n) c v6 p5
          else
            f_X12_feed_89 N p1 p2 p3 p4 p5 (f_X12_feed_36 N p1 p2 p3 p4 p5 n) c v6 p4
        else
          f_X12_feed_89 N p1 p2 p3 p4 p5 (f_X12_feed_36 N p1 p2 p3 p4 p5 n) c v6 p3
      else
        f_X12_feed_89 N p1 p2 p3 p4 p5 (f_X12_feed_36 N p1 p2 p3 p4 p5 n) c v6 p2
    else
      f_X12_feed_89 N p1 p2 p3 p4 p5 (f_X12_feed_36 N p1 p2 p3 p4 p5 n) c v6 p1
noncomputable def f_X12_feed_24 (N : Nat) (p1 : Int32) (p2 : Int32) (p3 : Int32) (p4 : Int32) (p5 : Int32) (c : hS) (w0 : Int32) : Option (Int32 × hS) :=
  bnd (f_X12_refuses c w0 1) fun x1 c2 =>
  if x1 = 0 then
    f_X12_feed_36 N p1 p2 p3 p4 p5 N c2 0
  else
    some (0, c2)
noncomputable def f_X12_feed (N : Nat) (c : hS) (p1 : Int32) (p2 : Int32) (p3 : Int32) (p4 : Int32) (p5 : Int32) : Option (Int32 × hS) :=
  st1 (sI c 201 0 0) fun c1 =>
  if ((c1.1 201 4) + 20) ≤ 20000 then
    f_X12_feed_24 N p1 p2 p3 p4 p5 c1 0
  else
    f_X12_feed_24 N p1 p2 p3 p4 p5 c1 1
noncomputable def f_X12_end_25 (p1 : Int32) (c : hS) (w0 : Int32) : Option (Unit × hS) :=
  bnd (f_X12_refuses c w0 1) fun x1 c2 =>
  if x1 = 0 then
    st1 (sI c2 201 4 p1) fun c3 =>
    some ((), c3)
  else
    some ((), c2)
noncomputable def f_X12_end (c : hS) (p1 : Int32) : Option (Unit × hS) :=
  st1 (sI c 201 0 0) fun c1 =>
  bnd (f_X12_in c1 p1.toInt64 0 ((c1.1 201 4).toInt64)) fun x2 c3 =>
  if x2 = 0 then
    f_X12_end_25 p1 c3 1
  else
    f_X12_end_25 p1 c3 0
noncomputable def f_X12_poke_52 (p1 : Int32) (p2 : Int32) (c : hS) (w0 : Int32) : Option (Int32 × hS) :=
  bnd (f_X12_refuses c w0 2) fun x1 c2 =>
  if x1 = 0 then
    bif j_in p1 (ln 203) then
    bif j_in p1 (ln 203) then
    st1 (sI c2 203 p1.toNatClampNeg p2) fun c3 =>
    some (c2.1 203 p1.toNatClampNeg, c3)
    else none
    else none
  else
    some (0, c2)
noncomputable def f_X12_poke_27 (p1 : Int32) (p2 : Int32) (c : hS) (w0 : Int32) : Option (Int32 × hS) :=
  bnd (f_X12_refuses c w0 1) fun x1 c2 =>
  if x1 = 0 then
    bnd (f_X12_in c2 p2.toInt64 0 255) fun x3 c4 =>
    if x3 = 0 then
      f_X12_poke_52 p1 p2 c4 1
    else
      f_X12_poke_52 p1 p2 c4 0
  else
    some (0, c2)
noncomputable def f_X12_poke (c : hS) (p1 : Int32) (p2 : Int32) : Option (Int32 × hS) :=
  st1 (sI c 201 0 0) fun c1 =>
  bnd (f_X12_in c1 p1.toInt64 0 (((c1.1 201 4) - 1).toInt64)) fun x2 c3 =>
  if x2 = 0 then
    f_X12_poke_27 p1 p2 c3 1
  else
    f_X12_poke_27 p1 p2 c3 0
noncomputable def f_X12_at_64 (N : Nat) (p1 : Int32) (p2 : Int32) : Nat → hS → Int64 → Int32 → Option (Int64 × hS)
  | 0, _, _, _ => none
  | n + 1, c, v3, v5 =>
  if p2 ≤ v5 then
    some (v3, c)
  else
    bif j_in (p1 + v5) (ln 203) then
    f_X12_at_64 N p1 p2 n c ((j_lshl v3 8) ||| ((c.1 203 (p1 + v5).toNatClampNeg).toInt64)) (v5 + 1)
    else none
noncomputable def f_X12_at_50 (N : Nat) (p1 : Int32) (p2 : Int32) (c : hS) (w0 : Int32) : Option (Int64 × hS) :=
  bnd (f_X12_refuses c w0 2) fun x1 c2 =>
  if x1 = 0 then
    f_X12_at_64 N p1 p2 N c2 0 0
  else
    some (0, c2)
noncomputable def f_X12_at_45 (N : Nat) (p1 : Int32) (p2 : Int32) (c : hS) : Option (Int64 × hS) :=
  f_X12_at_50 N p1 p2 c 1
noncomputable def f_X12_at_23 (N : Nat) (p1 : Int32) (p2 : Int32) (c : hS) (w0 : Int32) : Option (Int64 × hS) :=
  bnd (f_X12_refuses c w0 1) fun x1 c2 =>
  if x1 = 0 then
    if p1 < 0 then
      f_X12_at_45 N p1 p2 c2
    else
      if p1 ≤ ((c2.1 201 4) - p2) then
        f_X12_at_50 N p1 p2 c2 0
      else
        f_X12_at_45 N p1 p2 c2
  else
    some (0, c2)
noncomputable def f_X12_at (N : Nat) (c : hS) (p1 : Int32) (p2 : Int32) : Option (Int64 × hS) :=
  st1 (sI c 201 0 0) fun c1 =>
  bnd (f_X12_in c1 p2.toInt64 1 8) fun x2 c3 =>
  if x2 = 0 then
    f_X12_at_23 N p1 p2 c3 1
  else
    f_X12_at_23 N p1 p2 c3 0
noncomputable def f_X12_count_23 (p1 : Int32) (c : hS) (w0 : Int32) : Option (Int32 × hS) :=
  bnd (f_X12_refuses c w0 1) fun x1 c2 =>
  if x1 = 0 then
    if p1 = 0 then
      some (c2.1 201 7, c2)
    else
      if p1 = 1 then
        some (c2.1 201 2, c2)
      else
        some (c2.1 201 4, c2)
  else
    some (0, c2)
noncomputable def f_X12_count (c : hS) (p1 : Int32) : Option (Int32 × hS) :=
  st1 (sI c 201 0 0) fun c1 =>
  bnd (f_X12_in c1 p1.toInt64 0 2) fun x2 c3 =>
  if x2 = 0 then
    f_X12_count_23 p1 c3 1
  else
    f_X12_count_23 p1 c3 0
noncomputable def f_X12_fault_21 (p1 : Int32) (c : hS) (w0 : Int32) : Option (Int32 × hS) :=
  bnd (f_X12_refuses c w0 1) fun x1 c2 =>
  if x1 = 0 then
    if p1 = 0 then
      some (c2.1 201 5, c2)
    else
      some (c2.1 201 6, c2)
  else
    some (0, c2)
noncomputable def f_X12_fault (c : hS) (p1 : Int32) : Option (Int32 × hS) :=
  st1 (sI c 201 0 0) fun c1 =>
  bnd (f_X12_in c1 p1.toInt64 0 1) fun x2 c3 =>
  if x2 = 0 then
    f_X12_fault_21 p1 c3 1
  else
    f_X12_fault_21 p1 c3 0
noncomputable def f_X12_nameAt (c : hS) (p1 : Int32) (p2 : Int32) : Option (Int32 × hS) :=
  bif j_in ((90 * p1) + p2) (ln 205) then
  some (c.1 205 ((90 * p1) + p2).toNatClampNeg, c)
  else none
noncomputable def f_X12_isName_50 (N : Nat) (k23 : hS → Int32 → Int32 → Int32 → Option (Int32 × hS)) (c : hS) (v1 : Int32) (v2 : Int32) (v3 : Int32) (w0 : Int32) : Option (Int32 × hS) :=
  if w0 = 47 then
    if v1 = 0 then
      some (0, c)
    else
      if v2 = 0 then
        k23 c 0 1 (v3 + 1)
      else
        if 3 ≤ v1 then
          k23 c 0 1 (v3 + 1)
        else
          some (0, c)
  else
    bnd (f_X12_in c w0.toInt64 33 126) fun x1 c2 =>
    if x1 = 0 then
      some (0, c2)
    else
      if v2 = 0 then
        k23 c2 (v1 + 1) 0 (v3 + 1)
      else
        if w0 = 46 then
          k23 c2 (v1 + 1) 1 (v3 + 1)
        else
          k23 c2 (v1 + 1) 0 (v3 + 1)
noncomputable def f_X12_isName_23 (N : Nat) : Nat → hS → Int32 → Int32 → Int32 → Option (Int32 × hS)
  | 0, _, _, _, _ => none
  | n + 1, c, v1, v2, v3 =>
  if c.1 201 14 < v3 then
    some (1, c)
  else
    if c.1 201 14 ≤ v3 then
      f_X12_isName_50 N (f_X12_isName_23 N n) c v1 v2 v3 47
    else
      bif j_in v3 (ln 209) then
      f_X12_isName_50 N (f_X12_isName_23 N n) c v1 v2 v3 (c.1 209 v3.toNatClampNeg)
      else none
noncomputable def f_X12_isName (N : Nat) (c : hS) : Option (Int32 × hS) :=
  bnd (f_X12_in c ((c.1 201 14).toInt64) 1 90) fun x1 c2 =>
  if x1 = 0 then
    some (0, c2)
  else
    f_X12_isName_23 N N c2 0 1 0
noncomputable def f_X12_isNamed_21 (N : Nat) (p1 : Int32) : Nat → hS → Int32 → Int32 → Option (Int32 × hS)
  | 0, _, _, _ => none
  | n + 1, c, v2, v3 =>
  if c.1 201 14 ≤ v3 then
    bif j_b v2 then some (v2, c) else none
  else
    if v2 = 0 then
      bif j_b v2 then some (v2, c) else none
    else
      bnd (f_X12_nameAt c p1 v3) fun x1 c2 =>
      bif j_in v3 (ln 209) then
      if x1 = c2.1 209 v3.toNatClampNeg then
        f_X12_isNamed_21 N p1 n c2 1 (v3 + 1)
      else
        f_X12_isNamed_21 N p1 n c2 0 (v3 + 1)
      else none
noncomputable def f_X12_isNamed (N : Nat) (c : hS) (p1 : Int32) : Option (Int32 × hS) :=
  bif j_in p1 (ln 204) then
  if c.1 204 p1.toNatClampNeg = c.1 201 14 then
    f_X12_isNamed_21 N p1 N c 1 0
  else
    f_X12_isNamed_21 N p1 N c 0 0
  else none
noncomputable def f_X12_isUnderNew_37 (N : Nat) (p1 : Int32) : Nat → hS → Int32 → Int32 → Option (Int32 × hS)
  | 0, _, _, _ => none
  | n + 1, c, v2, v3 =>
  if c.1 201 14 ≤ v3 then
    bif j_b v2 then some (v2, c) else none
  else
    if v2 = 0 then
      bif j_b v2 then some (v2, c) else none
    else
      bnd (f_X12_nameAt c p1 v3) fun x1 c2 =>
      bif j_in v3 (ln 209) then
      if x1 = c2.1 209 v3.toNatClampNeg then
        f_X12_isUnderNew_37 N p1 n c2 1 (v3 + 1)
      else
        f_X12_isUnderNew_37 N p1 n c2 0 (v3 + 1)
      else none
noncomputable def f_X12_isUnderNew (N : Nat) (c : hS) (p1 : Int32) : Option (Int32 × hS) :=
  bif j_in p1 (ln 204) then
  if c.1 204 p1.toNatClampNeg ≤ ((c.1 201 14) + 1) then
    f_X12_isUnderNew_37 N p1 N c 0 0
  else
    bnd (f_X12_nameAt c p1 (c.1 201 14)) fun x1 c2 =>
    if x1 = 47 then
      f_X12_isUnderNew_37 N p1 N c2 1 0
    else
      f_X12_isUnderNew_37 N p1 N c2 0 0
  else none
noncomputable def f_X12_isNewUnder_37 (N : Nat) (p1 : Int32) : Nat → hS → Int32 → Int32 → Int32 → Option (Int32 × hS)
  | 0, _, _, _, _ => none
  | n + 1, c, v2, v3, v4 =>
  if v2 ≤ v4 then
    bif j_b v3 then some (v3, c) else none
  else
    if v3 = 0 then
      bif j_b v3 then some (v3, c) else none
    else
      bnd (f_X12_nameAt c p1 v4) fun x1 c2 =>
      bif j_in v4 (ln 209) then
      if x1 = c2.1 209 v4.toNatClampNeg then
        f_X12_isNewUnder_37 N p1 n c2 v2 1 (v4 + 1)
      else
        f_X12_isNewUnder_37 N p1 n c2 v2 0 (v4 + 1)
      else none
noncomputable def f_X12_isNewUnder (N : Nat) (c : hS) (p1 : Int32) : Option (Int32 × hS) :=
  bif j_in p1 (ln 204) then
  if c.1 201 14 ≤ ((c.1 204 p1.toNatClampNeg) + 1) then
    f_X12_isNewUnder_37 N p1 N c (c.1 204 p1.toNatClampNeg) 0 0
  else
    bif j_in (c.1 204 p1.toNatClampNeg) (ln 209) then
    if c.1 209 (c.1 204 p1.toNatClampNeg).toNatClampNeg = 47 then
      f_X12_isNewUnder_37 N p1 N c (c.1 204 p1.toNatClampNeg) 1 0
    else
      f_X12_isNewUnder_37 N p1 N c (c.1 204 p1.toNatClampNeg) 0 0
    else none
  else none
noncomputable def f_X12_seek_2 (N : Nat) (p1 : Int32) (p2 : Int32) : Nat → hS → Int32 → Option (Int32 × hS)
  | 0, _, _ => none
  | n + 1, c, v3 =>
  if (p1 + p2) ≤ v3 then
    some ((-1), c)
  else
    bnd (f_X12_isNamed N c v3) fun x1 c2 =>
    if x1 = 0 then
      f_X12_seek_2 N p1 p2 n c2 (v3 + 1)
    else
      some (v3, c2)
noncomputable def f_X12_seek (N : Nat) (c : hS) (p1 : Int32) (p2 : Int32) : Option (Int32 × hS) :=
  f_X12_seek_2 N p1 p2 N c p1
noncomputable def f_X12_isInTheWay_53 (N : Nat) (p1 : Int32) (p2 : Int32) (k5 : hS → Int32 → Int32 → Option (Int32 × hS)) (c : hS) (v3 : Int32) (v4 : Int32) (w0 : Int32) : Option (Int32 × hS) :=
  if v3 = 0 then
    bnd (f_X12_isNamed N c v4) fun x1 c2 =>
    if x1 = 0 then
      if w0 = 0 then
        k5 c2 0 (v4 + 1)
      else
        k5 c2 1 (v4 + 1)
    else
      k5 c2 0 (v4 + 1)
  else
    k5 c 1 (v4 + 1)
noncomputable def f_X12_isInTheWay_48 (N : Nat) (p1 : Int32) (p2 : Int32) (k5 : hS → Int32 → Int32 → Option (Int32 × hS)) (c : hS) (v3 : Int32) (v4 : Int32) : Option (Int32 × hS) :=
  f_X12_isInTheWay_53 N p1 p2 k5 c v3 v4 1
noncomputable def f_X12_isInTheWay_52 (N : Nat) (p1 : Int32) (p2 : Int32) (k5 : hS → Int32 → Int32 → Option (Int32 × hS)) (c : hS) (v3 : Int32) (v4 : Int32) : Option (Int32 × hS) :=
  f_X12_isInTheWay_53 N p1 p2 k5 c v3 v4 0
noncomputable def f_X12_isInTheWay_29 (N : Nat) (p1 : Int32) (p2 : Int32) (k5 : hS → Int32 → Int32 → Option (Int32 × hS)) (c : hS) (v3 : Int32) (v4 : Int32) : Option (Int32 × hS) :=
  bif j_in v4 (ln 208) then
  if c.1 208 v4.toNatClampNeg = 0 then
    bnd (f_X12_isNewUnder N c v4) fun x1 c2 =>
    if x1 = 0 then
      f_X12_isInTheWay_52 N p1 p2 k5 c2 v3 v4
    else
      f_X12_isInTheWay_48 N p1 p2 k5 c2 v3 v4
  else
    f_X12_isInTheWay_52 N p1 p2 k5 c v3 v4
  else none
noncomputable def f_X12_isInTheWay_5 (N : Nat) (p1 : Int32) (p2 : Int32) : Nat → hS → Int32 → Int32 → Option (Int32 × hS)
  | 0, _, _, _ => none
  | n + 1, c, v3, v4 =>
  if (p1 + p2) ≤ v4 then
    bif j_b v3 then some (v3, c) else none
  else
    if c.1 201 18 = 0 then
      bnd (f_X12_isUnderNew N c v4) fun x1 c2 =>
      if x1 = 0 then
        f_X12_isInTheWay_29 N p1 p2 (f_X12_isInTheWay_5 N p1 p2 n) c2 v3 v4
      else
        f_X12_isInTheWay_48 N p1 p2 (f_X12_isInTheWay_5 N p1 p2 n) c2 v3 v4
    else
      f_X12_isInTheWay_29 N p1 p2 (f_X12_isInTheWay_5 N p1 p2 n) c v3 v4
noncomputable def f_X12_isInTheWay (N : Nat) (c : hS) (p1 : Int32) (p2 : Int32) : Option (Int32 × hS) :=
  f_X12_isInTheWay_5 N p1 p2 N c 0 p1
noncomputable def f_X12_move_74 (N : Nat) (p1 : Int32) (p2 : Int32) : Nat → hS → Int32 → Option (Unit × hS)
  | 0, _, _ => none
  | n + 1, c, v3 =>
  if 400 ≤ v3 then
    some ((), c)
  else
    bif j_in ((400 * p1) + v3) (ln 207) then
    bif j_in ((400 * p2) + v3) (ln 207) then
    st1 (sI c 207 ((400 * p2) + v3).toNatClampNeg (c.1 207 ((400 * p1) + v3).toNatClampNeg)) fun c1 =>
    f_X12_move_74 N p1 p2 n c1 (v3 + 1)
    else none
    else none
noncomputable def f_X12_move_38 (N : Nat) (p1 : Int32) (p2 : Int32) : Nat → hS → Int32 → Option (Unit × hS)
  | 0, _, _ => none
  | n + 1, c, v3 =>
  if 90 ≤ v3 then
    f_X12_move_74 N p1 p2 N c 0
  else
    bif j_in ((90 * p1) + v3) (ln 205) then
    bif j_in ((90 * p2) + v3) (ln 205) then
    st1 (sI c 205 ((90 * p2) + v3).toNatClampNeg (c.1 205 ((90 * p1) + v3).toNatClampNeg)) fun c1 =>
    f_X12_move_38 N p1 p2 n c1 (v3 + 1)
    else none
    else none
noncomputable def f_X12_move (N : Nat) (c : hS) (p1 : Int32) (p2 : Int32) : Option (Unit × hS) :=
  bif j_in p1 (ln 204) then
  bif j_in p2 (ln 204) then
  st1 (sI c 204 p2.toNatClampNeg (c.1 204 p1.toNatClampNeg)) fun c1 =>
  bif j_in p1 (ln 206) then
  bif j_in p2 (ln 206) then
  st1 (sI c1 206 p2.toNatClampNeg (c1.1 206 p1.toNatClampNeg)) fun c2 =>
  bif j_in p1 (ln 208) then
  bif j_in p2 (ln 208) then
  st1 (sI c2 208 p2.toNatClampNeg (j_z (c2.1 208 p1.toNatClampNeg))) fun c3 =>
  f_X12_move_38 N p1 p2 N c3 0
  else none
  else none
  else none
  else none
  else none
  else none
noncomputable def f_X12_stand_115 (N : Nat) (p1 : Int32) (p2 : Int32) : Nat → hS → Int32 → Int32 → Int32 → Option (Int32 × hS)
  | 0, _, _, _, _ => none
  | n + 1, c, v4, v5, v6 =>
  if c.1 201 16 ≤ v6 then
    bif j_in v5 (ln 208) then
    st1 (sI c 208 v5.toNatClampNeg (j_z (c.1 201 18))) fun c1 =>
    some ((v4 + 1), c1)
    else none
  else
    bif j_in v6 (ln 210) then
    bif j_in ((400 * v5) + v6) (ln 207) then
    st1 (sI c 207 ((400 * v5) + v6).toNatClampNeg (c.1 210 v6.toNatClampNeg)) fun c2 =>
    f_X12_stand_115 N p1 p2 n c2 v4 v5 (v6 + 1)
    else none
    else none
noncomputable def f_X12_stand_66 (N : Nat) (p1 : Int32) (p2 : Int32) : Nat → hS → Int32 → Int32 → Int32 → Option (Int32 × hS)
  | 0, _, _, _, _ => none
  | n + 1, c, v4, v5, v6 =>
  if c.1 201 14 ≤ v6 then
    bif j_in v5 (ln 206) then
    st1 (sI c 206 v5.toNatClampNeg (c.1 201 16)) fun c1 =>
    f_X12_stand_115 N p1 p2 N c1 v4 v5 0
    else none
  else
    bif j_in v6 (ln 209) then
    bif j_in ((90 * v5) + v6) (ln 205) then
    st1 (sI c 205 ((90 * v5) + v6).toNatClampNeg (c.1 209 v6.toNatClampNeg)) fun c2 =>
    f_X12_stand_66 N p1 p2 n c2 v4 v5 (v6 + 1)
    else none
    else none
noncomputable def f_X12_stand_46 (N : Nat) (p1 : Int32) (p2 : Int32) (c : hS) (v4 : Int32) : Option (Int32 × hS) :=
  bif j_in (p1 + v4) (ln 204) then
  st1 (sI c 204 (p1 + v4).toNatClampNeg (c.1 201 14)) fun c1 =>
  f_X12_stand_66 N p1 p2 N c1 v4 (p1 + v4) 0
  else none
noncomputable def f_X12_stand_17 (N : Nat) (p1 : Int32) (p2 : Int32) : Nat → hS → Int32 → Int32 → Option (Int32 × hS)
  | 0, _, _, _ => none
  | n + 1, c, v4, v5 =>
  if (p1 + p2) ≤ (v5 + 1) then
    f_X12_stand_46 N p1 p2 c (v4 + (-1))
  else
    bnd (f_X12_move N c (v5 + 1) v5) fun _ c1 =>
    f_X12_stand_17 N p1 p2 n c1 v4 (v5 + 1)
noncomputable def f_X12_stand (N : Nat) (c : hS) (p1 : Int32) (p2 : Int32) : Option (Int32 × hS) :=
  bnd (f_X12_seek N c p1 p2) fun x1 c2 =>
  if x1 < 0 then
    f_X12_stand_46 N p1 p2 c2 p2
  else
    f_X12_stand_17 N p1 p2 N c2 p2 x1
end
section
/-! THE METHODS AS FUNCTIONS, printed by gen_l1.py -/
noncomputable def f_X12_come_193 (N : Nat) (p1 : Int32) (p2 : Int32) : Nat → hS → Int32 → Option (Int32 × hS)
  | 0, _, _ => none
  | n + 1, c, v3 =>
  if c.1 201 16 ≤ v3 then
    bnd (f_X12_stand N c 0 (c.1 201 7)) fun x1 c2 =>
    st1 (sI c2 201 7 x1) fun c3 =>
    st1 (sI c3 201 2 0) fun c4 =>
    some (c4.1 201 7, c4)
  else
    bif j_in (p1 + v3) (ln 202) then
    bif j_in v3 (ln 210) then
    st1 (sI c 210 v3.toNatClampNeg (c.1 202 (p1 + v3).toNatClampNeg)) fun c5 =>
    f_X12_come_193 N p1 p2 n c5 (v3 + 1)
    else none
    else none
noncomputable def f_X12_come_182 (N : Nat) (p1 : Int32) (p2 : Int32) (c : hS) (w0 : Int32) : Option (Int32 × hS) :=
  bnd (f_X12_refuses c w0 3) fun x1 c2 =>
  if x1 = 0 then
    f_X12_come_193 N p1 p2 N c2 0
  else
    some (0, c2)
noncomputable def f_X12_come_181 (N : Nat) (p1 : Int32) (p2 : Int32) (c : hS) : Option (Int32 × hS) :=
  f_X12_come_182 N p1 p2 c 0
noncomputable def f_X12_come_129 (N : Nat) (p1 : Int32) (p2 : Int32) (c : hS) (w0 : Int32) : Option (Int32 × hS) :=
  bnd (f_X12_refuses c w0 1) fun x1 c2 =>
  if x1 = 0 then
    bnd (f_X12_isInTheWay N c2 0 (c2.1 201 7)) fun x3 c4 =>
    bnd (f_X12_refuses c4 x3 2) fun x5 c6 =>
    if x5 = 0 then
      if c6.1 201 7 = 16 then
        bnd (f_X12_seek N c6 0 (c6.1 201 7)) fun x7 c8 =>
        if 0 ≤ x7 then
          f_X12_come_181 N p1 p2 c8
        else
          f_X12_come_182 N p1 p2 c8 1
      else
        f_X12_come_181 N p1 p2 c6
    else
      some (0, c6)
  else
    some (0, c2)
noncomputable def f_X12_come_124 (N : Nat) (p1 : Int32) (p2 : Int32) (c : hS) : Option (Int32 × hS) :=
  f_X12_come_129 N p1 p2 c 1
noncomputable def f_X12_come_114 (N : Nat) (p1 : Int32) (p2 : Int32) (c : hS) : Option (Int32 × hS) :=
  if c.1 201 16 ≤ 400 then
    f_X12_come_129 N p1 p2 c 0
  else
    f_X12_come_124 N p1 p2 c
noncomputable def f_X12_come_54 (N : Nat) (p1 : Int32) (p2 : Int32) : Nat → hS → Int32 → Option (Int32 × hS)
  | 0, _, _ => none
  | n + 1, c, v3 =>
  if c.1 201 14 ≤ v3 then
    st1 (sI c 201 16 ((c.1 201 2) - p1)) fun c1 =>
    bif j_b p2 then
    st1 (sI c1 201 18 p2) fun c2 =>
    bnd (f_X12_isName N c2) fun x3 c4 =>
    if x3 = 0 then
      f_X12_come_124 N p1 p2 c4
    else
      if p2 = 0 then
        f_X12_come_114 N p1 p2 c4
      else
        if 0 < c4.1 201 16 then
          f_X12_come_124 N p1 p2 c4
        else
          f_X12_come_114 N p1 p2 c4
    else none
  else
    bif j_in v3 (ln 202) then
    bif j_in v3 (ln 209) then
    st1 (sI c 209 v3.toNatClampNeg (c.1 202 v3.toNatClampNeg)) fun c5 =>
    f_X12_come_54 N p1 p2 n c5 (v3 + 1)
    else none
    else none
noncomputable def f_X12_come_25 (N : Nat) (p1 : Int32) (p2 : Int32) (c : hS) (w0 : Int32) : Option (Int32 × hS) :=
  bnd (f_X12_refuses c w0 1) fun x1 c2 =>
  if x1 = 0 then
    if 300 ≤ p1 then
      st1 (sI c2 201 14 299) fun c3 =>
      f_X12_come_54 N p1 p2 N c3 0
    else
      st1 (sI c2 201 14 p1) fun c4 =>
      f_X12_come_54 N p1 p2 N c4 0
  else
    some (0, c2)
noncomputable def f_X12_come (N : Nat) (c : hS) (p1 : Int32) (p2 : Int32) : Option (Int32 × hS) :=
  st1 (sI c 201 0 0) fun c1 =>
  bnd (f_X12_in c1 p1.toInt64 0 ((c1.1 201 2).toInt64)) fun x2 c3 =>
  if x2 = 0 then
    f_X12_come_25 N p1 p2 c3 1
  else
    f_X12_come_25 N p1 p2 c3 0
noncomputable def f_X12_go_48 (N : Nat) (p1 : Int32) : Nat → hS → Int32 → Option (Int32 × hS)
  | 0, _, _ => none
  | n + 1, c, v2 =>
  if c.1 201 7 ≤ v2 then
    some (c.1 201 7, c)
  else
    bnd (f_X12_move N c (v2 + 1) v2) fun _ c1 =>
    f_X12_go_48 N p1 n c1 (v2 + 1)
noncomputable def f_X12_go_27 (N : Nat) (p1 : Int32) (c : hS) (w0 : Int32) : Option (Int32 × hS) :=
  bnd (f_X12_refuses c w0 1) fun x1 c2 =>
  if x1 = 0 then
    st1 (sI c2 201 7 ((c2.1 201 7) - 1)) fun c3 =>
    f_X12_go_48 N p1 N c3 p1
  else
    some (0, c2)
noncomputable def f_X12_go (N : Nat) (c : hS) (p1 : Int32) : Option (Int32 × hS) :=
  st1 (sI c 201 0 0) fun c1 =>
  bnd (f_X12_in c1 p1.toInt64 0 (((c1.1 201 7) - 1).toInt64)) fun x2 c3 =>
  if x2 = 0 then
    f_X12_go_27 N p1 c3 1
  else
    f_X12_go_27 N p1 c3 0
noncomputable def f_X12_name_47 (p1 : Int32) (p2 : Int32) (c : hS) (w0 : Int32) : Option (Int32 × hS) :=
  bnd (f_X12_refuses c w0 1) fun x1 c2 =>
  if x1 = 0 then
    if p2 = (-1) then
      bif j_in p1 (ln 204) then
      some (c2.1 204 p1.toNatClampNeg, c2)
      else none
    else
      if p2 = (-2) then
        bif j_in p1 (ln 206) then
        some (c2.1 206 p1.toNatClampNeg, c2)
        else none
      else
        if p2 = (-3) then
          bif j_in p1 (ln 208) then
          if c2.1 208 p1.toNatClampNeg = 0 then
            some (0, c2)
          else
            some (1, c2)
          else none
        else
          bnd (f_X12_nameAt c2 p1 p2) fun x3 c4 =>
          some (x3, c4)
  else
    some (0, c2)
noncomputable def f_X12_name_42 (p1 : Int32) (p2 : Int32) (c : hS) : Option (Int32 × hS) :=
  f_X12_name_47 p1 p2 c 1
noncomputable def f_X12_name (c : hS) (p1 : Int32) (p2 : Int32) : Option (Int32 × hS) :=
  st1 (sI c 201 0 0) fun c1 =>
  bnd (f_X12_in c1 p1.toInt64 0 (((c1.1 201 7) - 1).toInt64)) fun x2 c3 =>
  if x2 = 0 then
    f_X12_name_42 p1 p2 c3
  else
    bif j_in p1 (ln 204) then
    bnd (f_X12_in c3 p2.toInt64 (-3) (((c3.1 204 p1.toNatClampNeg) - 1).toInt64)) fun x4 c5 =>
    if x4 = 0 then
      f_X12_name_42 p1 p2 c5
    else
      f_X12_name_47 p1 p2 c5 0
    else none
noncomputable def f_X12_byteAt_45 (p1 : Int32) (p2 : Int32) (c : hS) (w0 : Int32) : Option (Int32 × hS) :=
  bnd (f_X12_refuses c w0 1) fun x1 c2 =>
  if x1 = 0 then
    bif j_in ((400 * p1) + p2) (ln 207) then
    some (c2.1 207 ((400 * p1) + p2).toNatClampNeg, c2)
    else none
  else
    some (0, c2)
noncomputable def f_X12_byteAt_40 (p1 : Int32) (p2 : Int32) (c : hS) : Option (Int32 × hS) :=
  f_X12_byteAt_45 p1 p2 c 1
noncomputable def f_X12_byteAt (c : hS) (p1 : Int32) (p2 : Int32) : Option (Int32 × hS) :=
  st1 (sI c 201 0 0) fun c1 =>
  bnd (f_X12_in c1 p1.toInt64 0 (((c1.1 201 7) - 1).toInt64)) fun x2 c3 =>
  if x2 = 0 then
    f_X12_byteAt_40 p1 p2 c3
  else
    bif j_in p1 (ln 206) then
    bnd (f_X12_in c3 p2.toInt64 0 (((c3.1 206 p1.toNatClampNeg) - 1).toInt64)) fun x4 c5 =>
    if x4 = 0 then
      f_X12_byteAt_40 p1 p2 c5
    else
      f_X12_byteAt_45 p1 p2 c5 0
    else none
noncomputable def f_X12_takePath_26 (N : Nat) : Nat → hS → Int32 → Option (Unit × hS)
  | 0, _, _ => none
  | n + 1, c, v1 =>
  if c.1 201 14 ≤ v1 then
    some ((), c)
  else
    bif j_in v1 (ln 202) then
    bif j_in v1 (ln 209) then
    st1 (sI c 209 v1.toNatClampNeg (c.1 202 v1.toNatClampNeg)) fun c1 =>
    f_X12_takePath_26 N n c1 (v1 + 1)
    else none
    else none
noncomputable def f_X12_takePath (N : Nat) (c : hS) : Option (Unit × hS) :=
  if 300 ≤ c.1 201 2 then
    st1 (sI c 201 14 299) fun c1 =>
    f_X12_takePath_26 N N c1 0
  else
    st1 (sI c 201 14 (c.1 201 2)) fun c2 =>
    f_X12_takePath_26 N N c2 0
noncomputable def f_X12_kind_49 (N : Nat) : Nat → hS → Int32 → Option (Int32 × hS)
  | 0, _, _ => none
  | n + 1, c, v2 =>
  if c.1 201 7 ≤ v2 then
    some (0, c)
  else
    bnd (f_X12_isUnderNew N c v2) fun x1 c2 =>
    if x1 = 0 then
      f_X12_kind_49 N n c2 (v2 + 1)
    else
      some (1, c2)
noncomputable def f_X12_kind (N : Nat) (c : hS) : Option (Int32 × hS) :=
  st1 (sI c 201 0 0) fun c1 =>
  bnd (f_X12_takePath N c1) fun _ c2 =>
  if c2.1 201 2 = 0 then
    some (1, c2)
  else
    bnd (f_X12_seek N c2 0 (c2.1 201 7)) fun x3 c4 =>
    if x3 < 0 then
      f_X12_kind_49 N N c4 0
    else
      bif j_in x3 (ln 208) then
      if c4.1 208 x3.toNatClampNeg = 0 then
        some (2, c4)
      else
        some (1, c4)
      else none
noncomputable def f_X12_findPart_42 (N : Nat) (p1 : Int32) : Nat → hS → Option (Unit × hS)
  | 0, _ => none
  | n + 1, c =>
  bif j_in p1 (ln 204) then
  if c.1 204 p1.toNatClampNeg ≤ ((c.1 201 19) + (c.1 201 20)) then
    some ((), c)
  else
    bnd (f_X12_nameAt c p1 ((c.1 201 19) + (c.1 201 20))) fun x1 c2 =>
    if x1 = 47 then
      some ((), c2)
    else
      st1 (sI c2 201 20 ((c2.1 201 20) + 1)) fun c3 =>
      f_X12_findPart_42 N p1 n c3
  else none
noncomputable def f_X12_findPart_21 (N : Nat) (p1 : Int32) (c : hS) : Option (Unit × hS) :=
  if c.1 201 14 = 0 then
    st1 (sI c 201 19 0) fun c2 =>
    f_X12_findPart_42 N p1 N c2
  else
    st1 (sI c 201 19 ((c.1 201 14) + 1)) fun c1 =>
    f_X12_findPart_42 N p1 N c1
noncomputable def f_X12_findPart (N : Nat) (c : hS) (p1 : Int32) : Option (Unit × hS) :=
  st1 (sI c 201 20 0) fun c1 =>
  if c1.1 201 14 ≤ 0 then
    f_X12_findPart_21 N p1 c1
  else
    bnd (f_X12_isUnderNew N c1 p1) fun x2 c3 =>
    if x2 = 0 then
      some ((), c3)
    else
      f_X12_findPart_21 N p1 c3
noncomputable def f_X12_isSamePart_24 (N : Nat) (p1 : Int32) (p2 : Int32) (p3 : Int32) (p4 : Int32) : Nat → hS → Int32 → Int32 → Option (Int32 × hS)
  | 0, _, _, _ => none
  | n + 1, c, v5, v6 =>
  if p3 ≤ v6 then
    bif j_b v5 then some (v5, c) else none
  else
    if v5 = 0 then
      bif j_b v5 then some (v5, c) else none
    else
      bnd (f_X12_nameAt c p1 (p2 + v6)) fun x1 c2 =>
      bnd (f_X12_nameAt c2 p4 ((c2.1 201 19) + v6)) fun x3 c4 =>
      if x1 = x3 then
        f_X12_isSamePart_24 N p1 p2 p3 p4 n c4 1 (v6 + 1)
      else
        f_X12_isSamePart_24 N p1 p2 p3 p4 n c4 0 (v6 + 1)
noncomputable def f_X12_isSamePart (N : Nat) (c : hS) (p1 : Int32) (p2 : Int32) (p3 : Int32) (p4 : Int32) : Option (Int32 × hS) :=
  bnd (f_X12_findPart N c p4) fun _ c1 =>
  if c1.1 201 20 = p3 then
    f_X12_isSamePart_24 N p1 p2 p3 p4 N c1 1 0
  else
    f_X12_isSamePart_24 N p1 p2 p3 p4 N c1 0 0
noncomputable def f_X12_isFresh_29 (N : Nat) (p1 : Int32) : Nat → hS → Int32 → Int32 → Int32 → Int32 → Option (Int32 × hS)
  | 0, _, _, _, _, _ => none
  | n + 1, c, v2, v3, v4, v5 =>
  if p1 ≤ v5 then
    st1 (sI c 201 19 v2) fun c1 =>
    st1 (sI c1 201 20 v3) fun c2 =>
    bif j_b v4 then some (v4, c2) else none
  else
    if v4 = 0 then
      st1 (sI c 201 19 v2) fun c3 =>
      st1 (sI c3 201 20 v3) fun c4 =>
      bif j_b v4 then some (v4, c4) else none
    else
      bnd (f_X12_isSamePart N c p1 v2 v3 v5) fun x5 c6 =>
      if x5 = 0 then
        f_X12_isFresh_29 N p1 n c6 v2 v3 1 (v5 + 1)
      else
        f_X12_isFresh_29 N p1 n c6 v2 v3 0 (v5 + 1)
noncomputable def f_X12_isFresh (N : Nat) (c : hS) (p1 : Int32) : Option (Int32 × hS) :=
  bnd (f_X12_findPart N c p1) fun _ c1 =>
  if c1.1 201 20 ≤ 0 then
    f_X12_isFresh_29 N p1 N c1 (c1.1 201 19) (c1.1 201 20) 0 0
  else
    f_X12_isFresh_29 N p1 N c1 (c1.1 201 19) (c1.1 201 20) 1 0
noncomputable def f_X12_child_89 (N : Nat) (p1 : Int32) (p2 : Int32) (c : hS) (v4 : Int32) (w0 : Int32) : Option (Int32 × hS) :=
  bnd (f_X12_refuses c w0 1) fun x1 c2 =>
  if x1 = 0 then
    if p2 = (-1) then
      some (c2.1 201 20, c2)
    else
      bnd (f_X12_nameAt c2 v4 ((c2.1 201 19) + p2)) fun x3 c4 =>
      some (x3, c4)
  else
    some (0, c2)
noncomputable def f_X12_child_145 (N : Nat) (p1 : Int32) (p2 : Int32) (c : hS) (v3 : Int32) (w0 : Int32) : Option (Int32 × hS) :=
  bnd (f_X12_refuses c w0 1) fun x1 c2 =>
  if x1 = 0 then
    some (v3, c2)
  else
    some (0, c2)
noncomputable def f_X12_child_39 (N : Nat) (p1 : Int32) (p2 : Int32) : Nat → hS → Int32 → Int32 → Option (Int32 × hS)
  | 0, _, _, _ => none
  | n + 1, c, v3, v4 =>
  if c.1 201 7 ≤ v4 then
    if p1 = (-1) then
      f_X12_child_145 N p1 p2 c v3 0
    else
      f_X12_child_145 N p1 p2 c v3 1
  else
    bnd (f_X12_isFresh N c v4) fun x1 c2 =>
    if x1 = 0 then
      f_X12_child_39 N p1 p2 n c2 v3 (v4 + 1)
    else
      if v3 = p1 then
        bnd (f_X12_in c2 p2.toInt64 (-1) (((c2.1 201 20) - 1).toInt64)) fun x3 c4 =>
        if x3 = 0 then
          f_X12_child_89 N p1 p2 c4 v4 1
        else
          f_X12_child_89 N p1 p2 c4 v4 0
      else
        f_X12_child_39 N p1 p2 n c2 (v3 + 1) (v4 + 1)
noncomputable def f_X12_child_21 (N : Nat) (p1 : Int32) (p2 : Int32) (c : hS) (w0 : Int32) : Option (Int32 × hS) :=
  bnd (f_X12_refuses c w0 1) fun x1 c2 =>
  if x1 = 0 then
    bnd (f_X12_takePath N c2) fun _ c3 =>
    f_X12_child_39 N p1 p2 N c3 0 0
  else
    some (0, c2)
noncomputable def f_X12_child_20 (N : Nat) (p1 : Int32) (p2 : Int32) (c : hS) : Option (Int32 × hS) :=
  f_X12_child_21 N p1 p2 c 0
noncomputable def f_X12_child (N : Nat) (c : hS) (p1 : Int32) (p2 : Int32) : Option (Int32 × hS) :=
  st1 (sI c 201 0 0) fun c1 =>
  if p1 = (-1) then
    if p2 = (-1) then
      f_X12_child_20 N p1 p2 c1
    else
      f_X12_child_21 N p1 p2 c1 1
  else
    f_X12_child_20 N p1 p2 c1
noncomputable def f_X12_isRow_41 (N : Nat) (p1 : Int32) (p2 : Int32) (p3 : Int32) (p4 : Int32) (p5 : Int32) (p6 : Int32) (k3 : hS → Int32 → Option (Int32 × hS)) (c : hS) (v7 : Int32) (w0 : Int32) : Option (Int32 × hS) :=
  bif j_in (p1 + v7) (ln 203) then
  if c.1 203 (p1 + v7).toNatClampNeg = w0 then
    k3 c (v7 + 1)
  else
    bnd (f_X12_fails c p6 (p1 + v7)) fun x1 c2 =>
    bif j_b x1 then some (x1, c2) else none
  else none
noncomputable def f_X12_isRow_3 (N : Nat) (p1 : Int32) (p2 : Int32) (p3 : Int32) (p4 : Int32) (p5 : Int32) (p6 : Int32) : Nat → hS → Int32 → Option (Int32 × hS)
  | 0, _, _ => none
  | n + 1, c, v7 =>
  if 4 ≤ v7 then
    some (1, c)
  else
    if v7 = 0 then
      f_X12_isRow_41 N p1 p2 p3 p4 p5 p6 (f_X12_isRow_3 N p1 p2 p3 p4 p5 p6 n) c v7 p2
    else
      if v7 = 1 then
        f_X12_isRow_41 N p1 p2 p3 p4 p5 p6 (f_X12_isRow_3 N p1 p2 p3 p4 p5 p6 n) c v7 p3
      else
        if v7 = 2 then
          f_X12_isRow_41 N p1 p2 p3 p4 p5 p6 (f_X12_isRow_3 N p1 p2 p3 p4 p5 p6 n) c v7 p4
        else
          f_X12_isRow_41 N p1 p2 p3 p4 p5 p6 (f_X12_isRow_3 N p1 p2 p3 p4 p5 p6 n) c v7 p5
noncomputable def f_X12_isRow (N : Nat) (c : hS) (p1 : Int32) (p2 : Int32) (p3 : Int32) (p4 : Int32) (p5 : Int32) (p6 : Int32) : Option (Int32 × hS) :=
  f_X12_isRow_3 N p1 p2 p3 p4 p5 p6 N c 0
noncomputable def f_X12_reaches (c : hS) (p1 : Int64) : Option (Int32 × hS) :=
  if j_cmp p1 ((c.1 201 4).toInt64) ≤ 0 then
    some (1, c)
  else
    bnd (f_X12_fails c 1 (c.1 201 4)) fun x1 c2 =>
    if x1 = 0 then
      some (0, c2)
    else
      some (1, c2)
noncomputable def f_X12_areZeros_2 (N : Nat) (p1 : Int32) : Nat → hS → Int32 → Option (Int32 × hS)
  | 0, _, _ => none
  | n + 1, c, v2 =>
  if c.1 201 4 ≤ v2 then
    some (1, c)
  else
    bif j_in v2 (ln 203) then
    if c.1 203 v2.toNatClampNeg = 0 then
      f_X12_areZeros_2 N p1 n c (v2 + 1)
    else
      bnd (f_X12_fails c 2 v2) fun x1 c2 =>
      bif j_b x1 then some (x1, c2) else none
    else none
noncomputable def f_X12_areZeros (N : Nat) (c : hS) (p1 : Int32) : Option (Int32 × hS) :=
  f_X12_areZeros_2 N p1 N c p1
noncomputable def f_X12_comes_43 (N : Nat) (p1 : Int32) (c : hS) : Option (Int32 × hS) :=
  bnd (f_X12_stand N c 17 (c.1 201 8)) fun x1 c2 =>
  st1 (sI c2 201 8 x1) fun c3 =>
  some (1, c3)
noncomputable def f_X12_comes (N : Nat) (c : hS) (p1 : Int32) : Option (Int32 × hS) :=
  bnd (f_X12_isInTheWay N c 17 (c.1 201 8)) fun x1 c2 =>
  if x1 = 0 then
    if c2.1 201 8 = 16 then
      bnd (f_X12_seek N c2 17 (c2.1 201 8)) fun x5 c6 =>
      if 0 ≤ x5 then
        f_X12_comes_43 N p1 c6
      else
        bnd (f_X12_fails c6 11 p1) fun x7 c8 =>
        bif j_b x7 then some (x7, c8) else none
    else
      f_X12_comes_43 N p1 c2
  else
    bnd (f_X12_fails c2 11 p1) fun x3 c4 =>
    bif j_b x3 then some (x3, c4) else none
noncomputable def f_X12_takeBytes_7 (N : Nat) (p1 : Int32) (p2 : Int32) : Nat → hS → Int32 → Option (Unit × hS)
  | 0, _, _ => none
  | n + 1, c, v3 =>
  if p2 ≤ v3 then
    some ((), c)
  else
    bif j_in (p1 + v3) (ln 203) then
    bif j_in v3 (ln 210) then
    st1 (sI c 210 v3.toNatClampNeg (c.1 203 (p1 + v3).toNatClampNeg)) fun c1 =>
    f_X12_takeBytes_7 N p1 p2 n c1 (v3 + 1)
    else none
    else none
noncomputable def f_X12_takeBytes (N : Nat) (c : hS) (p1 : Int32) (p2 : Int32) : Option (Unit × hS) :=
  st1 (sI c 201 16 p2) fun c1 =>
  f_X12_takeBytes_7 N p1 p2 N c1 0
noncomputable def f_X12_readOctal_7 (N : Nat) (p1 : Int32) (p2 : Int32) : Nat → hS → Int32 → Option (Int32 × hS)
  | 0, _, _ => none
  | n + 1, c, v3 =>
  if (p2 - 1) ≤ v3 then
    bif j_in ((p1 + p2) - 1) (ln 203) then
    if c.1 203 ((p1 + p2) - 1).toNatClampNeg = 0 then
      some (1, c)
    else
      bnd (f_X12_fails c 6 ((p1 + p2) - 1)) fun x1 c2 =>
      if x1 = 0 then
        some (0, c2)
      else
        some (1, c2)
    else none
  else
    bif j_in (p1 + v3) (ln 203) then
    bnd (f_X12_in c ((c.1 203 (p1 + v3).toNatClampNeg).toInt64) 48 55) fun x3 c4 =>
    if x3 = 0 then
      bnd (f_X12_fails c4 6 (p1 + v3)) fun x6 c7 =>
      bif j_b x6 then some (x6, c7) else none
    else
      bif j_in (p1 + v3) (ln 203) then
      st1 (sJ c4 201 21 (((8 * (c4.2.1 201 21)) + ((c4.1 203 (p1 + v3).toNatClampNeg).toInt64)) - 48)) fun c5 =>
      f_X12_readOctal_7 N p1 p2 n c5 (v3 + 1)
      else none
    else none
noncomputable def f_X12_readOctal (N : Nat) (c : hS) (p1 : Int32) (p2 : Int32) : Option (Int32 × hS) :=
  st1 (sJ c 201 21 0) fun c1 =>
  f_X12_readOctal_7 N p1 p2 N c1 0
noncomputable def f_X12_readSum_65 (N : Nat) (p1 : Int32) (c : hS) (v3 : Int32) : Option (Int32 × hS) :=
  bnd (f_X12_fails c 3 ((p1 + 148) + v3)) fun x1 c2 =>
  bif j_b x1 then some (x1, c2) else none
noncomputable def f_X12_readSum_78 (N : Nat) (p1 : Int32) (k4 : hS → Int32 → Int32 → Option (Int32 × hS)) (c : hS) (v2 : Int32) (v3 : Int32) (v4 : Int32) : Option (Int32 × hS) :=
  if 6 ≤ v3 then
    k4 c v2 (v3 + 1)
  else
    k4 c (((8 * v2) + v4) - 48) (v3 + 1)
noncomputable def f_X12_readSum_62 (N : Nat) (p1 : Int32) (k4 : hS → Int32 → Int32 → Option (Int32 × hS)) (c : hS) (v2 : Int32) (v3 : Int32) (v4 : Int32) (w0 : Int32) (w1 : Int32) : Option (Int32 × hS) :=
  if w1 = w0 then
    f_X12_readSum_78 N p1 k4 c v2 v3 v4
  else
    f_X12_readSum_65 N p1 c v3
noncomputable def f_X12_readSum_112 (N : Nat) (p1 : Int32) : Nat → hS → Int32 → Int32 → Int32 → Option (Int32 × hS)
  | 0, _, _, _, _ => none
  | n + 1, c, v2, v3, v4 =>
  if 512 ≤ v4 then
    if v3 = v2 then
      some (1, c)
    else
      bnd (f_X12_fails c 4 (p1 + 148)) fun x1 c2 =>
      if x1 = 0 then
        some (0, c2)
      else
        some (1, c2)
  else
    bnd (f_X12_in c v4.toInt64 148 155) fun x3 c4 =>
    if x3 = 0 then
      bif j_in (p1 + v4) (ln 203) then
      f_X12_readSum_112 N p1 n c4 v2 (v3 + (c4.1 203 (p1 + v4).toNatClampNeg)) (v4 + 1)
      else none
    else
      f_X12_readSum_112 N p1 n c4 v2 (v3 + 0) (v4 + 1)
noncomputable def f_X12_readSum_4 (N : Nat) (p1 : Int32) : Nat → hS → Int32 → Int32 → Option (Int32 × hS)
  | 0, _, _, _ => none
  | n + 1, c, v2, v3 =>
  if 8 ≤ v3 then
    f_X12_readSum_112 N p1 N c v2 256 0
  else
    bif j_in ((p1 + 148) + v3) (ln 203) then
    if 6 ≤ v3 then
      if v3 = 6 then
        f_X12_readSum_62 N p1 (f_X12_readSum_4 N p1 n) c v2 v3 (c.1 203 ((p1 + 148) + v3).toNatClampNeg) 0 (c.1 203 ((p1 + 148) + v3).toNatClampNeg)
      else
        f_X12_readSum_62 N p1 (f_X12_readSum_4 N p1 n) c v2 v3 (c.1 203 ((p1 + 148) + v3).toNatClampNeg) 32 (c.1 203 ((p1 + 148) + v3).toNatClampNeg)
    else
      bnd (f_X12_in c ((c.1 203 ((p1 + 148) + v3).toNatClampNeg).toInt64) 48 55) fun x1 c2 =>
      if x1 = 0 then
        f_X12_readSum_65 N p1 c2 v3
      else
        f_X12_readSum_78 N p1 (f_X12_readSum_4 N p1 n) c2 v2 v3 (c.1 203 ((p1 + 148) + v3).toNatClampNeg)
    else none
noncomputable def f_X12_readSum (N : Nat) (c : hS) (p1 : Int32) : Option (Int32 × hS) :=
  f_X12_readSum_4 N p1 N c 0 0
noncomputable def f_X12_readMark_68 (N : Nat) (p1 : Int32) (k2 : hS → Int32 → Option (Int32 × hS)) (c : hS) (v2 : Int32) (w0 : Int32) : Option (Int32 × hS) :=
  bif j_in (p1 + v2) (ln 203) then
  if c.1 203 (p1 + v2).toNatClampNeg = w0 then
    k2 c (v2 + 1)
  else
    bnd (f_X12_fails c 5 (p1 + v2)) fun x1 c2 =>
    bif j_b x1 then some (x1, c2) else none
  else none
noncomputable def f_X12_readMark_2 (N : Nat) (p1 : Int32) : Nat → hS → Int32 → Option (Int32 × hS)
  | 0, _, _ => none
  | n + 1, c, v2 =>
  if 8 ≤ v2 then
    some (1, c)
  else
    if v2 = 0 then
      f_X12_readMark_68 N p1 (f_X12_readMark_2 N p1 n) c v2 117
    else
      if v2 = 1 then
        f_X12_readMark_68 N p1 (f_X12_readMark_2 N p1 n) c v2 115
      else
        if v2 = 2 then
          f_X12_readMark_68 N p1 (f_X12_readMark_2 N p1 n) c v2 116
        else
          if v2 = 3 then
            f_X12_readMark_68 N p1 (f_X12_readMark_2 N p1 n) c v2 97
          else
            if v2 = 4 then
              f_X12_readMark_68 N p1 (f_X12_readMark_2 N p1 n) c v2 114
            else
              if v2 = 5 then
                f_X12_readMark_68 N p1 (f_X12_readMark_2 N p1 n) c v2 0
              else
                f_X12_readMark_68 N p1 (f_X12_readMark_2 N p1 n) c v2 48
noncomputable def f_X12_readMark (N : Nat) (c : hS) (p1 : Int32) : Option (Int32 × hS) :=
  f_X12_readMark_2 N p1 N c 0
noncomputable def f_X12_addName_2 (N : Nat) (p1 : Int32) (p2 : Int32) : Nat → hS → Int32 → Option (Unit × hS)
  | 0, _, _ => none
  | n + 1, c, v3 =>
  if p2 ≤ v3 then
    some ((), c)
  else
    bif j_in (p1 + v3) (ln 203) then
    if c.1 203 (p1 + v3).toNatClampNeg = 0 then
      some ((), c)
    else
      bif j_in (p1 + v3) (ln 203) then
      bif j_in (c.1 201 14) (ln 209) then
      st1 (sI c 209 (c.1 201 14).toNatClampNeg (c.1 203 (p1 + v3).toNatClampNeg)) fun c1 =>
      st1 (sI c1 201 14 ((c1.1 201 14) + 1)) fun c2 =>
      f_X12_addName_2 N p1 p2 n c2 (v3 + 1)
      else none
      else none
    else none
noncomputable def f_X12_addName (N : Nat) (c : hS) (p1 : Int32) (p2 : Int32) : Option (Unit × hS) :=
  f_X12_addName_2 N p1 p2 N c 0
noncomputable def f_X12_readBlockHead_277 (N : Nat) (p1 : Int32) (c : hS) (v2 : Int64) : Option (Int32 × hS) :=
  st1 (sI c 201 16 v2.toInt32) fun c1 =>
  bnd (f_X12_isName N c1) fun x2 c3 =>
  if x2 = 0 then
    bnd (f_X12_fails c3 10 p1) fun x4 c5 =>
    if x4 = 0 then
      some (0, c5)
    else
      some (1, c5)
  else
    some (1, c3)
noncomputable def f_X12_readBlockHead_230 (N : Nat) (p1 : Int32) (c : hS) (v2 : Int64) : Option (Int32 × hS) :=
  bnd (f_X12_addName N c p1 100) fun _ c1 =>
  if c1.1 201 18 = 0 then
    f_X12_readBlockHead_277 N p1 c1 v2
  else
    if c1.1 201 14 ≤ 0 then
      f_X12_readBlockHead_277 N p1 c1 v2
    else
      bif j_in ((c1.1 201 14) - 1) (ln 209) then
      if c1.1 209 ((c1.1 201 14) - 1).toNatClampNeg = 47 then
        st1 (sI c1 201 14 ((c1.1 201 14) - 1)) fun c2 =>
        f_X12_readBlockHead_277 N p1 c2 v2
      else
        f_X12_readBlockHead_277 N p1 c1 v2
      else none
noncomputable def f_X12_readBlockHead_169 (N : Nat) (p1 : Int32) (c : hS) (v2 : Int64) (w0 : Int32) (w1 : Int64) : Option (Int32 × hS) :=
  if j_cmp w1 w0.toInt64 ≤ 0 then
    st1 (sI c 201 14 0) fun c1 =>
    bnd (f_X12_addName N c1 (p1 + 345) 155) fun _ c2 =>
    if c2.1 201 14 ≤ 0 then
      f_X12_readBlockHead_230 N p1 c2 v2
    else
      bif j_in (c2.1 201 14) (ln 209) then
      st1 (sI c2 209 (c2.1 201 14).toNatClampNeg 47) fun c3 =>
      st1 (sI c3 201 14 ((c3.1 201 14) + 1)) fun c4 =>
      f_X12_readBlockHead_230 N p1 c4 v2
      else none
  else
    bnd (f_X12_fails c 7 (p1 + 124)) fun x5 c6 =>
    bif j_b x5 then some (x5, c6) else none
noncomputable def f_X12_readBlockHead_151 (N : Nat) (p1 : Int32) (c : hS) (v2 : Int64) (w0 : Int32) : Option (Int32 × hS) :=
  bif j_b w0 then
  st1 (sI c 201 18 w0) fun c1 =>
  if c1.1 201 18 = 0 then
    f_X12_readBlockHead_169 N p1 c1 v2 400 v2
  else
    f_X12_readBlockHead_169 N p1 c1 v2 0 v2
  else none
noncomputable def f_X12_readBlockHead_138 (N : Nat) (p1 : Int32) (c : hS) (v2 : Int64) (v4 : Int32) : Option (Int32 × hS) :=
  if v4 = 53 then
    f_X12_readBlockHead_151 N p1 c v2 1
  else
    f_X12_readBlockHead_151 N p1 c v2 0
noncomputable def f_X12_readBlockHead (N : Nat) (c : hS) (p1 : Int32) : Option (Int32 × hS) :=
  bnd (f_X12_readSum N c p1) fun x1 c2 =>
  if x1 = 0 then
    some (0, c2)
  else
    bnd (f_X12_readMark N c2 (p1 + 257)) fun x3 c4 =>
    if x3 = 0 then
      some (0, c4)
    else
      bnd (f_X12_readOctal N c4 (p1 + 100) 8) fun x5 c6 =>
      if x5 = 0 then
        some (0, c6)
      else
        bnd (f_X12_readOctal N c6 (p1 + 108) 8) fun x7 c8 =>
        if x7 = 0 then
          some (0, c8)
        else
          bnd (f_X12_readOctal N c8 (p1 + 116) 8) fun x9 c10 =>
          if x9 = 0 then
            some (0, c10)
          else
            bnd (f_X12_readOctal N c10 (p1 + 124) 12) fun x11 c12 =>
            if x11 = 0 then
              some (0, c12)
            else
              bnd (f_X12_readOctal N c12 (p1 + 136) 12) fun x13 c14 =>
              if x13 = 0 then
                some (0, c14)
              else
                bif j_in (p1 + 156) (ln 203) then
                if c14.1 203 (p1 + 156).toNatClampNeg = 48 then
                  f_X12_readBlockHead_138 N p1 c14 (c12.2.1 201 21) (c14.1 203 (p1 + 156).toNatClampNeg)
                else
                  if c14.1 203 (p1 + 156).toNatClampNeg = 0 then
                    f_X12_readBlockHead_138 N p1 c14 (c12.2.1 201 21) (c14.1 203 (p1 + 156).toNatClampNeg)
                  else
                    if c14.1 203 (p1 + 156).toNatClampNeg = 53 then
                      f_X12_readBlockHead_138 N p1 c14 (c12.2.1 201 21) (c14.1 203 (p1 + 156).toNatClampNeg)
                    else
                      bnd (f_X12_fails c14 8 (p1 + 156)) fun x15 c16 =>
                      bif j_b x15 then some (x15, c16) else none
                else none
noncomputable def f_X12_isBlank_4 (N : Nat) (p1 : Int32) : Nat → hS → Int32 → Int32 → Option (Int32 × hS)
  | 0, _, _, _ => none
  | n + 1, c, v2, v3 =>
  if 512 ≤ v3 then
    bif j_b v2 then some (v2, c) else none
  else
    if v2 = 0 then
      f_X12_isBlank_4 N p1 n c 0 (v3 + 1)
    else
      bif j_in (p1 + v3) (ln 203) then
      if c.1 203 (p1 + v3).toNatClampNeg = 0 then
        f_X12_isBlank_4 N p1 n c 1 (v3 + 1)
      else
        f_X12_isBlank_4 N p1 n c 0 (v3 + 1)
      else none
noncomputable def f_X12_isBlank (N : Nat) (c : hS) (p1 : Int32) : Option (Int32 × hS) :=
  f_X12_isBlank_4 N p1 N c 1 0
noncomputable def f_X12_readBlocks_2 (N : Nat) : Nat → hS → Int32 → Option (Int32 × hS)
  | 0, _, _ => none
  | n + 1, c, v1 =>
  bnd (f_X12_reaches c ((v1 + 512).toInt64)) fun x1 c2 =>
  if x1 = 0 then
    some (0, c2)
  else
    bnd (f_X12_isBlank N c2 v1) fun x3 c4 =>
    if x3 = 0 then
      bnd (f_X12_readBlockHead N c4 v1) fun x5 c6 =>
      if x5 = 0 then
        some (0, c6)
      else
        bnd (f_X12_reaches c6 (((v1 + 512) + ((((c6.1 201 16) + 511) / 512) * 512)).toInt64)) fun x7 c8 =>
        if x7 = 0 then
          some (0, c8)
        else
          bnd (f_X12_takeBytes N c8 (v1 + 512) (c8.1 201 16)) fun _ c9 =>
          bnd (f_X12_comes N c9 v1) fun x10 c11 =>
          if x10 = 0 then
            some (0, c11)
          else
            f_X12_readBlocks_2 N n c11 ((v1 + 512) + ((((c6.1 201 16) + 511) / 512) * 512))
    else
      bnd (f_X12_reaches c4 ((v1 + 1024).toInt64)) fun x12 c13 =>
      if x12 = 0 then
        some (0, c13)
      else
        bnd (f_X12_areZeros N c13 (v1 + 512)) fun x14 c15 =>
        if x14 = 0 then
          some (0, c15)
        else
          some (1, c15)
noncomputable def f_X12_readBlocks (N : Nat) (c : hS) : Option (Int32 × hS) :=
  f_X12_readBlocks_2 N N c 0
noncomputable def f_X12_digitOf (c : hS) (p0 : Int32) : Option (Int32 × hS) :=
  bnd (f_X12_in c p0.toInt64 48 57) fun x1 c2 =>
  if x1 = 0 then
    bnd (f_X12_in c2 p0.toInt64 97 102) fun x3 c4 =>
    if x3 = 0 then
      bnd (f_X12_in c4 p0.toInt64 65 70) fun x5 c6 =>
      if x5 = 0 then
        some ((-1), c6)
      else
        some ((p0 - 55), c6)
    else
      some ((p0 - 87), c4)
  else
    some ((p0 - 48), c2)
noncomputable def f_X12_hexAt_5 (N : Nat) (p1 : Int32) : Nat → hS → Int64 → Int32 → Option (Int64 × hS)
  | 0, _, _, _ => none
  | n + 1, c, v2, v4 =>
  if 8 ≤ v4 then
    some (v2, c)
  else
    bif j_in (p1 + v4) (ln 203) then
    bnd (f_X12_digitOf c (c.1 203 (p1 + v4).toNatClampNeg)) fun x1 c2 =>
    f_X12_hexAt_5 N p1 n c2 ((16 * v2) + x1.toInt64) (v4 + 1)
    else none
noncomputable def f_X12_hexAt (N : Nat) (c : hS) (p1 : Int32) : Option (Int64 × hS) :=
  f_X12_hexAt_5 N p1 N c 0 0
noncomputable def f_X12_readDigitsHead_49 (N : Nat) (p1 : Int32) (k16 : hS → Int32 → Option (Int32 × hS)) (c : hS) (v2 : Int32) (w0 : Int32) : Option (Int32 × hS) :=
  bif j_in (p1 + v2) (ln 203) then
  if c.1 203 (p1 + v2).toNatClampNeg = w0 then
    k16 c (v2 + 1)
  else
    bnd (f_X12_fails c 3 (p1 + v2)) fun x1 c2 =>
    bif j_b x1 then some (x1, c2) else none
  else none
noncomputable def f_X12_readDigitsHead_32 (N : Nat) (p1 : Int32) (k16 : hS → Int32 → Option (Int32 × hS)) (c : hS) (v2 : Int32) : Option (Int32 × hS) :=
  f_X12_readDigitsHead_49 N p1 k16 c v2 55
noncomputable def f_X12_readDigitsHead_207 (N : Nat) (p1 : Int32) : Nat → hS → Int32 → Option (Int32 × hS)
  | 0, _, _ => none
  | n + 1, c, v4 =>
  if c.1 201 14 ≤ v4 then
    some (1, c)
  else
    bif j_in ((p1 + 110) + v4) (ln 203) then
    bif j_in v4 (ln 209) then
    st1 (sI c 209 v4.toNatClampNeg (c.1 203 ((p1 + 110) + v4).toNatClampNeg)) fun c1 =>
    f_X12_readDigitsHead_207 N p1 n c1 (v4 + 1)
    else none
    else none
noncomputable def f_X12_readDigitsHead_80 (N : Nat) (p1 : Int32) : Nat → hS → Int32 → Option (Int32 × hS)
  | 0, _, _ => none
  | n + 1, c, v2 =>
  if 110 ≤ v2 then
    bnd (f_X12_hexAt N c (p1 + 94)) fun x1 c2 =>
    bnd (f_X12_in c2 x1 1 100) fun x3 c4 =>
    if x3 = 0 then
      bnd (f_X12_fails c4 10 (p1 + 94)) fun x10 c11 =>
      bif j_b x10 then some (x10, c11) else none
    else
      bnd (f_X12_reaches c4 (((p1 + 110).toInt64) + x1)) fun x5 c6 =>
      if x5 = 0 then
        some (0, c6)
      else
        st1 (sI c6 201 14 (x1.toInt32 - 1)) fun c7 =>
        bif j_in ((p1 + 110) + (c7.1 201 14)) (ln 203) then
        if c7.1 203 ((p1 + 110) + (c7.1 201 14)).toNatClampNeg = 0 then
          f_X12_readDigitsHead_207 N p1 N c7 0
        else
          bnd (f_X12_fails c7 10 ((p1 + 110) + (c7.1 201 14))) fun x8 c9 =>
          bif j_b x8 then some (x8, c9) else none
        else none
  else
    bif j_in (p1 + v2) (ln 203) then
    bnd (f_X12_digitOf c (c.1 203 (p1 + v2).toNatClampNeg)) fun x12 c13 =>
    if 0 ≤ x12 then
      f_X12_readDigitsHead_80 N p1 n c13 (v2 + 1)
    else
      bnd (f_X12_fails c13 6 (p1 + v2)) fun x14 c15 =>
      bif j_b x14 then some (x14, c15) else none
    else none
noncomputable def f_X12_readDigitsHead_16 (N : Nat) (p1 : Int32) : Nat → hS → Int32 → Option (Int32 × hS)
  | 0, _, _ => none
  | n + 1, c, v2 =>
  if 6 ≤ v2 then
    f_X12_readDigitsHead_80 N p1 N c 6
  else
    if v2 = 1 then
      f_X12_readDigitsHead_32 N p1 (f_X12_readDigitsHead_16 N p1 n) c v2
    else
      if v2 = 3 then
        f_X12_readDigitsHead_32 N p1 (f_X12_readDigitsHead_16 N p1 n) c v2
      else
        if v2 = 5 then
          f_X12_readDigitsHead_49 N p1 (f_X12_readDigitsHead_16 N p1 n) c v2 49
        else
          f_X12_readDigitsHead_49 N p1 (f_X12_readDigitsHead_16 N p1 n) c v2 48
noncomputable def f_X12_readDigitsHead (N : Nat) (c : hS) (p1 : Int32) : Option (Int32 × hS) :=
  bnd (f_X12_reaches c ((p1 + 110).toInt64)) fun x1 c2 =>
  if x1 = 0 then
    some (0, c2)
  else
    f_X12_readDigitsHead_16 N p1 N c2 0
noncomputable def f_X12_trailerAt (c : hS) (p0 : Int32) : Option (Int32 × hS) :=
  if p0 = 0 then
    some (84, c)
  else
    if p0 = 1 then
      some (82, c)
    else
      if p0 = 6 then
        some (82, c)
      else
        if p0 = 2 then
          some (65, c)
        else
          if p0 = 3 then
            some (73, c)
          else
            if p0 = 4 then
              some (76, c)
            else
              if p0 = 5 then
                some (69, c)
              else
                some (33, c)
noncomputable def f_X12_isTrailer_17 (N : Nat) : Nat → hS → Int32 → Int32 → Option (Int32 × hS)
  | 0, _, _, _ => none
  | n + 1, c, v1, v2 =>
  if 10 ≤ v2 then
    bif j_b v1 then some (v1, c) else none
  else
    if v1 = 0 then
      bif j_b v1 then some (v1, c) else none
    else
      bif j_in v2 (ln 209) then
      bnd (f_X12_trailerAt c v2) fun x1 c2 =>
      if c.1 209 v2.toNatClampNeg = x1 then
        f_X12_isTrailer_17 N n c2 1 (v2 + 1)
      else
        f_X12_isTrailer_17 N n c2 0 (v2 + 1)
      else none
noncomputable def f_X12_isTrailer (N : Nat) (c : hS) : Option (Int32 × hS) :=
  if c.1 201 14 = 10 then
    f_X12_isTrailer_17 N N c 1 0
  else
    f_X12_isTrailer_17 N N c 0 0
noncomputable def f_X12_upToFour (c : hS) (p0 : Int32) : Option (Int32 × hS) :=
  some ((((p0 + 3) / 4) * 4), c)
noncomputable def f_X12_readDigits_160 (N : Nat) (k2 : hS → Int32 → Option (Int32 × hS)) (c : hS) (v1 : Int32) (v2 : Int64) (v4 : Int32) (w0 : Int64) (w1 : Int64) : Option (Int32 × hS) :=
  if j_cmp w1 w0 ≤ 0 then
    bnd (f_X12_isName N c) fun x1 c2 =>
    if x1 = 0 then
      bnd (f_X12_fails c2 10 (v1 + 110)) fun x12 c13 =>
      bif j_b x12 then some (x12, c13) else none
    else
      bnd (f_X12_upToFour c2 v4) fun x3 c4 =>
      bnd (f_X12_upToFour c4 (x3 + v2.toInt32)) fun x5 c6 =>
      bnd (f_X12_reaches c6 x5.toInt64) fun x7 c8 =>
      if x7 = 0 then
        some (0, c8)
      else
        bnd (f_X12_takeBytes N c8 x3 v2.toInt32) fun _ c9 =>
        bnd (f_X12_comes N c9 v1) fun x10 c11 =>
        if x10 = 0 then
          some (0, c11)
        else
          k2 c11 x5
  else
    bnd (f_X12_fails c 7 (v1 + 54)) fun x14 c15 =>
    bif j_b x14 then some (x14, c15) else none
noncomputable def f_X12_readDigits_142 (N : Nat) (k2 : hS → Int32 → Option (Int32 × hS)) (c : hS) (v1 : Int32) (v2 : Int64) (v4 : Int32) (w0 : Int32) : Option (Int32 × hS) :=
  bif j_b w0 then
  st1 (sI c 201 18 w0) fun c1 =>
  if c1.1 201 18 = 0 then
    f_X12_readDigits_160 N k2 c1 v1 v2 v4 400 v2
  else
    f_X12_readDigits_160 N k2 c1 v1 v2 v4 0 v2
  else none
noncomputable def f_X12_readDigits_107 (N : Nat) (k2 : hS → Int32 → Option (Int32 × hS)) (c : hS) (v1 : Int32) (v2 : Int64) (v4 : Int32) (v5 : Int32) : Option (Int32 × hS) :=
  bnd (f_X12_hexAt N c (v1 + 102)) fun x1 c2 =>
  if j_cmp x1 0 = 0 then
    if v5 = 4 then
      f_X12_readDigits_142 N k2 c2 v1 v2 v4 1
    else
      f_X12_readDigits_142 N k2 c2 v1 v2 v4 0
  else
    bnd (f_X12_fails c2 4 (v1 + 102)) fun x3 c4 =>
    bif j_b x3 then some (x3, c4) else none
noncomputable def f_X12_readDigits_2 (N : Nat) : Nat → hS → Int32 → Option (Int32 × hS)
  | 0, _, _ => none
  | n + 1, c, v1 =>
  bnd (f_X12_readDigitsHead N c v1) fun x1 c2 =>
  if x1 = 0 then
    some (0, c2)
  else
    bnd (f_X12_hexAt N c2 (v1 + 54)) fun x3 c4 =>
    bnd (f_X12_isTrailer N c4) fun x5 c6 =>
    if x5 = 0 then
      bnd (f_X12_hexAt N c6 (v1 + 14)) fun x7 c8 =>
      if ((j_lshr x7 12) &&& 15).toInt32 = 8 then
        f_X12_readDigits_107 N (f_X12_readDigits_2 N n) c8 v1 x3 ((v1 + 111) + (c4.1 201 14)) (((j_lshr x7 12) &&& 15).toInt32)
      else
        if ((j_lshr x7 12) &&& 15).toInt32 = 4 then
          f_X12_readDigits_107 N (f_X12_readDigits_2 N n) c8 v1 x3 ((v1 + 111) + (c4.1 201 14)) (((j_lshr x7 12) &&& 15).toInt32)
        else
          bnd (f_X12_fails c8 8 (v1 + 14)) fun x9 c10 =>
          bif j_b x9 then some (x9, c10) else none
    else
      if j_cmp x3 0 = 0 then
        bnd (f_X12_areZeros N c6 ((v1 + 111) + (c4.1 201 14))) fun x13 c14 =>
        bif j_b x13 then some (x13, c14) else none
      else
        bnd (f_X12_fails c6 7 (v1 + 54)) fun x11 c12 =>
        bif j_b x11 then some (x11, c12) else none
noncomputable def f_X12_readDigits (N : Nat) (c : hS) : Option (Int32 × hS) :=
  f_X12_readDigits_2 N N c 0
noncomputable def f_X12_twoAt (c : hS) (p1 : Int32) : Option (Int32 × hS) :=
  bif j_in p1 (ln 203) then
  bif j_in (p1 + 1) (ln 203) then
  some (((c.1 203 p1.toNatClampNeg) ||| (j_shl (c.1 203 (p1 + 1).toNatClampNeg) 8)), c)
  else none
  else none
noncomputable def f_X12_fourAt (c : hS) (p1 : Int32) : Option (Int64 × hS) :=
  bnd (f_X12_twoAt c p1) fun x1 c2 =>
  bnd (f_X12_twoAt c2 (p1 + 2)) fun x3 c4 =>
  some ((x1.toInt64 ||| (j_lshl x3.toInt64 16)), c4)
noncomputable def f_X12_isZeroAt_19 (p1 : Int32) (p2 : Int32) (p3 : Int32) (c : hS) (w0 : Int64) : Option (Int32 × hS) :=
  if j_cmp w0 0 = 0 then
    some (1, c)
  else
    bnd (f_X12_fails c p3 p1) fun x1 c2 =>
    if x1 = 0 then
      some (0, c2)
    else
      some (1, c2)
noncomputable def f_X12_isZeroAt (c : hS) (p1 : Int32) (p2 : Int32) (p3 : Int32) : Option (Int32 × hS) :=
  if p2 = 2 then
    bnd (f_X12_twoAt c p1) fun x3 c4 =>
    f_X12_isZeroAt_19 p1 p2 p3 c4 x3.toInt64
  else
    bnd (f_X12_fourAt c p1) fun x1 c2 =>
    f_X12_isZeroAt_19 p1 p2 p3 c2 x1
noncomputable def f_X12_readEnd (N : Nat) (c : hS) (p1 : Int32) : Option (Int32 × hS) :=
  bnd (f_X12_isRow N c p1 80 75 5 6 3) fun x1 c2 =>
  if x1 = 0 then
    some (0, c2)
  else
    bnd (f_X12_isZeroAt c2 (p1 + 4) 2 6) fun x3 c4 =>
    if x3 = 0 then
      some (0, c4)
    else
      bnd (f_X12_isZeroAt c4 (p1 + 6) 2 6) fun x5 c6 =>
      if x5 = 0 then
        some (0, c6)
      else
        bnd (f_X12_twoAt c6 (p1 + 8)) fun x7 c8 =>
        bnd (f_X12_twoAt c8 (p1 + 10)) fun x9 c10 =>
        if x7 = x9 then
          bnd (f_X12_twoAt c10 (p1 + 10)) fun x11 c12 =>
          if x11 ≤ 16 then
            bnd (f_X12_fourAt c12 (p1 + 12)) fun x13 c14 =>
            bnd (f_X12_fourAt c14 (p1 + 16)) fun x15 c16 =>
            if j_cmp (x13 + x15) p1.toInt64 = 0 then
              bnd (f_X12_isZeroAt c16 (p1 + 20) 2 6) fun x17 c18 =>
              bif j_b x17 then some (x17, c18) else none
            else
              bnd (f_X12_fails c16 12 (p1 + 12)) fun x19 c20 =>
              bif j_b x19 then some (x19, c20) else none
          else
            bnd (f_X12_fails c12 11 (p1 + 10)) fun x21 c22 =>
            bif j_b x21 then some (x21, c22) else none
        else
          bnd (f_X12_fails c10 6 (p1 + 8)) fun x23 c24 =>
          bif j_b x23 then some (x23, c24) else none
noncomputable def f_X12_readEntryHead_370 (N : Nat) (p1 : Int32) (p2 : Int32) : Nat → hS → Int32 → Option (Int32 × hS)
  | 0, _, _ => none
  | n + 1, c, v5 =>
  if c.1 201 14 ≤ v5 then
    bnd (f_X12_isName N c) fun x1 c2 =>
    if x1 = 0 then
      bnd (f_X12_fails c2 10 (p1 + 46)) fun x3 c4 =>
      if x3 = 0 then
        some (0, c4)
      else
        some (1, c4)
    else
      some (1, c2)
  else
    bif j_in ((p1 + 46) + v5) (ln 203) then
    bif j_in v5 (ln 209) then
    st1 (sI c 209 v5.toNatClampNeg (c.1 203 ((p1 + 46) + v5).toNatClampNeg)) fun c5 =>
    f_X12_readEntryHead_370 N p1 p2 n c5 (v5 + 1)
    else none
    else none
noncomputable def f_X12_readEntryHead_340 (N : Nat) (p1 : Int32) (p2 : Int32) (c : hS) (w0 : Int32) : Option (Int32 × hS) :=
  st1 (sI c 201 14 w0) fun c1 =>
  if c1.1 201 14 ≤ 299 then
    st1 (sI c1 201 14 (c1.1 201 14)) fun c2 =>
    f_X12_readEntryHead_370 N p1 p2 N c2 0
  else
    st1 (sI c1 201 14 299) fun c3 =>
    f_X12_readEntryHead_370 N p1 p2 N c3 0
noncomputable def f_X12_readEntryHead_323 (N : Nat) (p1 : Int32) (p2 : Int32) (c : hS) (v4 : Int32) : Option (Int32 × hS) :=
  if c.1 201 18 = 0 then
    f_X12_readEntryHead_340 N p1 p2 c v4
  else
    f_X12_readEntryHead_340 N p1 p2 c (v4 - 1)
noncomputable def f_X12_readEntryHead_262 (N : Nat) (p1 : Int32) (p2 : Int32) (c : hS) (v3 : Int32) (v4 : Int32) : Option (Int32 × hS) :=
  bnd (f_X12_fourAt c (p1 + 24)) fun x1 c2 =>
  if j_cmp x1 400 ≤ 0 then
    if v3 = 0 then
      bnd (f_X12_fourAt c2 (p1 + 20)) fun x3 c4 =>
      bnd (f_X12_fourAt c4 (p1 + 24)) fun x5 c6 =>
      if j_cmp x3 x5 = 0 then
        f_X12_readEntryHead_323 N p1 p2 c6 v4
      else
        bnd (f_X12_fails c6 7 (p1 + 20)) fun x7 c8 =>
        bif j_b x7 then some (x7, c8) else none
    else
      f_X12_readEntryHead_323 N p1 p2 c2 v4
  else
    bnd (f_X12_fails c2 7 (p1 + 24)) fun x9 c10 =>
    bif j_b x9 then some (x9, c10) else none
noncomputable def f_X12_readEntryHead_194 (N : Nat) (p1 : Int32) (p2 : Int32) (c : hS) (v3 : Int32) (v4 : Int32) (w0 : Int32) : Option (Int32 × hS) :=
  bif j_b w0 then
  st1 (sI c 201 18 w0) fun c1 =>
  if c1.1 201 18 = 0 then
    f_X12_readEntryHead_262 N p1 p2 c1 v3 v4
  else
    bnd (f_X12_isZeroAt c1 (p1 + 10) 2 7) fun x2 c3 =>
    if x2 = 0 then
      some (0, c3)
    else
      bnd (f_X12_isZeroAt c3 (p1 + 16) 4 7) fun x4 c5 =>
      if x4 = 0 then
        some (0, c5)
      else
        bnd (f_X12_isZeroAt c5 (p1 + 20) 4 7) fun x6 c7 =>
        if x6 = 0 then
          some (0, c7)
        else
          bnd (f_X12_isZeroAt c7 (p1 + 24) 4 7) fun x8 c9 =>
          if x8 = 0 then
            some (0, c9)
          else
            f_X12_readEntryHead_262 N p1 p2 c9 v3 v4
  else none
noncomputable def f_X12_readEntryHead_193 (N : Nat) (p1 : Int32) (p2 : Int32) (c : hS) (v3 : Int32) (v4 : Int32) : Option (Int32 × hS) :=
  f_X12_readEntryHead_194 N p1 p2 c v3 v4 0
noncomputable def f_X12_readEntryHead_103 (N : Nat) (p1 : Int32) (p2 : Int32) (c : hS) (v3 : Int32) : Option (Int32 × hS) :=
  bnd (f_X12_isZeroAt c (p1 + 34) 2 6) fun x1 c2 =>
  if x1 = 0 then
    some (0, c2)
  else
    bnd (f_X12_twoAt c2 (p1 + 28)) fun x3 c4 =>
    bnd (f_X12_twoAt c4 (p1 + 30)) fun x5 c6 =>
    bnd (f_X12_twoAt c6 (p1 + 32)) fun x7 c8 =>
    if ((((p1 + 46) + x3) + x5) + x7) ≤ p2 then
      if x3 ≤ 0 then
        f_X12_readEntryHead_193 N p1 p2 c8 v3 x3
      else
        bif j_in ((p1 + 45) + x3) (ln 203) then
        if c8.1 203 ((p1 + 45) + x3).toNatClampNeg = 47 then
          f_X12_readEntryHead_194 N p1 p2 c8 v3 x3 1
        else
          f_X12_readEntryHead_193 N p1 p2 c8 v3 x3
        else none
    else
      bnd (f_X12_fails c8 12 p1) fun x9 c10 =>
      bif j_b x9 then some (x9, c10) else none
noncomputable def f_X12_readEntryHead (N : Nat) (c : hS) (p1 : Int32) (p2 : Int32) : Option (Int32 × hS) :=
  if (p1 + 46) ≤ p2 then
    bnd (f_X12_isRow N c p1 80 75 1 2 3) fun x1 c2 =>
    if x1 = 0 then
      some (0, c2)
    else
      bnd (f_X12_twoAt c2 (p1 + 6)) fun x3 c4 =>
      if x3 ≤ 20 then
        bnd (f_X12_isZeroAt c4 (p1 + 8) 2 6) fun x5 c6 =>
        if x5 = 0 then
          some (0, c6)
        else
          bnd (f_X12_twoAt c6 (p1 + 10)) fun x7 c8 =>
          if x7 = 0 then
            f_X12_readEntryHead_103 N p1 p2 c8 x7
          else
            if x7 = 8 then
              f_X12_readEntryHead_103 N p1 p2 c8 x7
            else
              bnd (f_X12_fails c8 8 (p1 + 10)) fun x9 c10 =>
              bif j_b x9 then some (x9, c10) else none
      else
        bnd (f_X12_fails c4 6 (p1 + 6)) fun x11 c12 =>
        bif j_b x11 then some (x11, c12) else none
  else
    bnd (f_X12_fails c 12 p1) fun x13 c14 =>
    bif j_b x13 then some (x13, c14) else none
noncomputable def f_X12_isAsThere_35 (p1 : Int32) (p2 : Int32) (p3 : Int32) (c : hS) : Option (Int32 × hS) :=
  bnd (f_X12_fails c 13 p1) fun x1 c2 =>
  if x1 = 0 then
    some (0, c2)
  else
    some (1, c2)
noncomputable def f_X12_isAsThere (c : hS) (p1 : Int32) (p2 : Int32) (p3 : Int32) : Option (Int32 × hS) :=
  if p3 = 2 then
    bnd (f_X12_twoAt c p1) fun x5 c6 =>
    bnd (f_X12_twoAt c6 p2) fun x7 c8 =>
    if x5 = x7 then
      some (1, c8)
    else
      f_X12_isAsThere_35 p1 p2 p3 c8
  else
    bnd (f_X12_fourAt c p1) fun x1 c2 =>
    bnd (f_X12_fourAt c2 p2) fun x3 c4 =>
    if j_cmp x1 x3 = 0 then
      some (1, c4)
    else
      f_X12_isAsThere_35 p1 p2 p3 c4
noncomputable def f_X12_checkMore_6 (N : Nat) (p0 : Int32) (p1 : Int32) : Nat → hS → Int32 → Int32 → Option (Int32 × hS)
  | 0, _, _, _ => none
  | n + 1, c, v2, v3 =>
  if 8 ≤ v3 then
    some (v2, c)
  else
    if (v2 &&& 1) = 1 then
      f_X12_checkMore_6 N p0 p1 n c ((j_ushr v2 1) ^^^ (-306674912)) (v3 + 1)
    else
      f_X12_checkMore_6 N p0 p1 n c (j_ushr v2 1) (v3 + 1)
noncomputable def f_X12_checkMore (N : Nat) (c : hS) (p0 : Int32) (p1 : Int32) : Option (Int32 × hS) :=
  f_X12_checkMore_6 N p0 p1 N c (p0 ^^^ p1) 0
noncomputable def f_X12_bit (c : hS) : Option (Int32 × hS) :=
  if c.1 201 25 < c.1 201 26 then
    bif j_in ((c.1 201 25) / 8) (ln 203) then
    st1 (sI c 201 25 ((c.1 201 25) + 1)) fun c1 =>
    some (((j_shr (c.1 203 ((c.1 201 25) / 8).toNatClampNeg) (j_rem (c.1 201 25) 8)) &&& 1), c1)
    else none
  else
    bnd (f_X12_fails c 20 ((c.1 201 26) / 8)) fun x2 c3 =>
    some (0, c3)
noncomputable def f_X12_bits_4 (N : Nat) (p1 : Int32) : Nat → hS → Int32 → Int32 → Option (Int32 × hS)
  | 0, _, _, _ => none
  | n + 1, c, v2, v3 =>
  if p1 ≤ v3 then
    some (v2, c)
  else
    if c.1 201 5 = 0 then
      bnd (f_X12_bit c) fun x1 c2 =>
      f_X12_bits_4 N p1 n c2 (v2 ||| (j_shl x1 v3)) (v3 + 1)
    else
      some (v2, c)
noncomputable def f_X12_bits (N : Nat) (c : hS) (p1 : Int32) : Option (Int32 × hS) :=
  f_X12_bits_4 N p1 N c 0 0
noncomputable def f_X12_layCodes_19 (N : Nat) (p1 : Int32) (p2 : Int32) (k5 : hS → Int32 → Int32 → Option (Unit × hS)) : Nat → hS → Int32 → Int32 → Int32 → Option (Unit × hS)
  | 0, _, _, _, _ => none
  | n + 1, c, v3, v4, v5 =>
  if (p1 + p2) ≤ v5 then
    k5 c v3 (v4 + 1)
  else
    bif j_in v5 (ln 212) then
    if c.1 212 v5.toNatClampNeg = v4 then
      bif j_in v5 (ln 213) then
      st1 (sI c 213 v5.toNatClampNeg v3) fun c1 =>
      f_X12_layCodes_19 N p1 p2 k5 n c1 (v3 + 1) v4 (v5 + 1)
      else none
    else
      f_X12_layCodes_19 N p1 p2 k5 n c v3 v4 (v5 + 1)
    else none
noncomputable def f_X12_layCodes_5 (N : Nat) (p1 : Int32) (p2 : Int32) : Nat → hS → Int32 → Int32 → Option (Unit × hS)
  | 0, _, _, _ => none
  | n + 1, c, v3, v4 =>
  if 16 ≤ v4 then
    some ((), c)
  else
    f_X12_layCodes_19 N p1 p2 (f_X12_layCodes_5 N p1 p2 n) N c (2 * v3) v4 p1
noncomputable def f_X12_layCodes (N : Nat) (c : hS) (p1 : Int32) (p2 : Int32) : Option (Unit × hS) :=
  f_X12_layCodes_5 N p1 p2 N c 0 1
noncomputable def f_X12_layFixed_61 (N : Nat) : Nat → hS → Int32 → Option (Unit × hS)
  | 0, _, _ => none
  | n + 1, c, v1 =>
  if 32 ≤ v1 then
    bnd (f_X12_layCodes N c 0 288) fun _ c1 =>
    bnd (f_X12_layCodes N c1 300 32) fun _ c2 =>
    some ((), c2)
  else
    bif j_in (300 + v1) (ln 212) then
    st1 (sI c 212 (300 + v1).toNatClampNeg 5) fun c3 =>
    f_X12_layFixed_61 N n c3 (v1 + 1)
    else none
noncomputable def f_X12_layFixed_2 (N : Nat) : Nat → hS → Int32 → Option (Unit × hS)
  | 0, _, _ => none
  | n + 1, c, v1 =>
  if 288 ≤ v1 then
    f_X12_layFixed_61 N N c 0
  else
    if 144 ≤ v1 then
      if 256 ≤ v1 then
        if 280 ≤ v1 then
          bif j_in v1 (ln 212) then
          st1 (sI c 212 v1.toNatClampNeg 8) fun c1 =>
          f_X12_layFixed_2 N n c1 (v1 + 1)
          else none
        else
          bif j_in v1 (ln 212) then
          st1 (sI c 212 v1.toNatClampNeg 7) fun c2 =>
          f_X12_layFixed_2 N n c2 (v1 + 1)
          else none
      else
        bif j_in v1 (ln 212) then
        st1 (sI c 212 v1.toNatClampNeg 9) fun c3 =>
        f_X12_layFixed_2 N n c3 (v1 + 1)
        else none
    else
      bif j_in v1 (ln 212) then
      st1 (sI c 212 v1.toNatClampNeg 8) fun c4 =>
      f_X12_layFixed_2 N n c4 (v1 + 1)
      else none
noncomputable def f_X12_layFixed (N : Nat) (c : hS) : Option (Unit × hS) :=
  f_X12_layFixed_2 N N c 0
noncomputable def f_X12_add (c : hS) (p1 : Int32) (p2 : Int32) : Option (Int32 × hS) :=
  if c.1 201 23 = c.1 201 24 then
    bnd (f_X12_fails c 23 p2) fun x3 c4 =>
    bif j_b x3 then some (x3, c4) else none
  else
    bif j_in (c.1 201 23) (ln 211) then
    st1 (sI c 211 (c.1 201 23).toNatClampNeg p1) fun c1 =>
    st1 (sI c1 201 23 ((c1.1 201 23) + 1)) fun c2 =>
    some (1, c2)
    else none
noncomputable def f_X12_plain_60 (N : Nat) (p1 : Int32) : Nat → hS → Int32 → Int32 → Option (Int32 × hS)
  | 0, _, _, _ => none
  | n + 1, c, v2, v4 =>
  if v2 ≤ v4 then
    some (1, c)
  else
    bnd (f_X12_bits N c 8) fun x1 c2 =>
    if c2.1 201 5 = 0 then
      bnd (f_X12_add c2 x1 ((c.1 201 25) / 8)) fun x3 c4 =>
      if x3 = 0 then
        some (0, c4)
      else
        f_X12_plain_60 N p1 n c4 v2 (v4 + 1)
    else
      some (0, c2)
noncomputable def f_X12_plain (N : Nat) (c : hS) (p1 : Int32) : Option (Int32 × hS) :=
  st1 (sI c 201 25 ((((c.1 201 25) + 7) / 8) * 8)) fun c1 =>
  bnd (f_X12_bits N c1 16) fun x2 c3 =>
  bnd (f_X12_bits N c3 16) fun x4 c5 =>
  if c5.1 201 5 = 0 then
    if (x2 + x4) = 65535 then
      f_X12_plain_60 N p1 N c5 x2 0
    else
      bnd (f_X12_fails c5 22 p1) fun x6 c7 =>
      bif j_b x6 then some (x6, c7) else none
  else
    some (0, c5)
noncomputable def f_X12_fullness_5 (N : Nat) (p1 : Int32) (p2 : Int32) : Nat → hS → Int32 → Int32 → Option (Int32 × hS)
  | 0, _, _, _ => none
  | n + 1, c, v3, v4 =>
  if (p1 + p2) ≤ v4 then
    some (v3, c)
  else
    bif j_in v4 (ln 212) then
    if c.1 212 v4.toNatClampNeg ≤ 0 then
      f_X12_fullness_5 N p1 p2 n c (v3 + 0) (v4 + 1)
    else
      bif j_in v4 (ln 212) then
      f_X12_fullness_5 N p1 p2 n c (v3 + (j_shr 32768 (c.1 212 v4.toNatClampNeg))) (v4 + 1)
      else none
    else none
noncomputable def f_X12_fullness (N : Nat) (c : hS) (p1 : Int32) (p2 : Int32) : Option (Int32 × hS) :=
  f_X12_fullness_5 N p1 p2 N c 0 p1
noncomputable def f_X12_order (c : hS) (p1 : Int32) : Option (Int32 × hS) :=
  if 3 ≤ p1 then
    if p1 = 3 then
      some (0, c)
    else
      if (j_rem p1 2) = 0 then
        some ((8 + ((p1 - 4) / 2)), c)
      else
        some ((7 - ((p1 - 5) / 2)), c)
  else
    some ((16 + p1), c)
noncomputable def f_X12_symbol_83 (N : Nat) (p1 : Int32) (p2 : Int32) (k48 : hS → Int32 → Int32 → Int32 → Option (Int32 × hS)) : Nat → hS → Int32 → Int32 → Int32 → Int32 → Option (Int32 × hS)
  | 0, _, _, _, _, _ => none
  | n + 1, c, v3, v4, v5, v6 =>
  if (p1 + p2) ≤ v6 then
    k48 c v3 v4 (v5 + 1)
  else
    bif j_in v6 (ln 212) then
    if c.1 212 v6.toNatClampNeg = v5 then
      bif j_in v6 (ln 213) then
      if c.1 213 v6.toNatClampNeg = v4 then
        some ((v6 - p1), c)
      else
        f_X12_symbol_83 N p1 p2 k48 n c v3 v4 v5 (v6 + 1)
      else none
    else
      f_X12_symbol_83 N p1 p2 k48 n c v3 v4 v5 (v6 + 1)
    else none
noncomputable def f_X12_symbol_60 (N : Nat) (p1 : Int32) (p2 : Int32) (k48 : hS → Int32 → Int32 → Int32 → Option (Int32 × hS)) (c : hS) (v3 : Int32) (v4 : Int32) (v5 : Int32) : Option (Int32 × hS) :=
  bnd (f_X12_bit c) fun x1 c2 =>
  if c2.1 201 5 = 0 then
    f_X12_symbol_83 N p1 p2 k48 N c2 v3 ((j_shl v4 1) ||| x1) v5 p1
  else
    some ((-1), c2)
noncomputable def f_X12_symbol_48 (N : Nat) (p1 : Int32) (p2 : Int32) : Nat → hS → Int32 → Int32 → Int32 → Option (Int32 × hS)
  | 0, _, _, _, _ => none
  | n + 1, c, v3, v4, v5 =>
  if v5 ≤ v3 then
    f_X12_symbol_60 N p1 p2 (f_X12_symbol_48 N p1 p2 n) c v3 v4 v5
  else
    if v5 = 1 then
      f_X12_symbol_60 N p1 p2 (f_X12_symbol_48 N p1 p2 n) c v3 v4 v5
    else
      some ((-2), c)
noncomputable def f_X12_symbol_5 (N : Nat) (p1 : Int32) (p2 : Int32) : Nat → hS → Int32 → Int32 → Option (Int32 × hS)
  | 0, _, _, _ => none
  | n + 1, c, v3, v4 =>
  if (p1 + p2) ≤ v4 then
    f_X12_symbol_48 N p1 p2 N c v3 0 1
  else
    bif j_in v4 (ln 212) then
    if c.1 212 v4.toNatClampNeg ≤ v3 then
      f_X12_symbol_5 N p1 p2 n c v3 (v4 + 1)
    else
      bif j_in v4 (ln 212) then
      f_X12_symbol_5 N p1 p2 n c (c.1 212 v4.toNatClampNeg) (v4 + 1)
      else none
    else none
noncomputable def f_X12_symbol (N : Nat) (c : hS) (p1 : Int32) (p2 : Int32) : Option (Int32 × hS) :=
  f_X12_symbol_5 N p1 p2 N c 0 p1
noncomputable def f_X12_readRow_161 (N : Nat) (p1 : Int32) (p2 : Int32) (k2 : hS → Int32 → Option (Int32 × hS)) : Nat → hS → Int32 → Int32 → Int32 → Int32 → Option (Int32 × hS)
  | 0, _, _, _, _, _ => none
  | n + 1, c, v3, v5, v6, v7 =>
  if v5 ≤ v7 then
    k2 c v3
  else
    bif j_in v3 (ln 214) then
    st1 (sI c 214 v3.toNatClampNeg v6) fun c1 =>
    f_X12_readRow_161 N p1 p2 k2 n c1 (v3 + 1) v5 v6 (v7 + 1)
    else none
noncomputable def f_X12_readRow_110 (N : Nat) (p1 : Int32) (p2 : Int32) (k2 : hS → Int32 → Option (Int32 × hS)) (c : hS) (v3 : Int32) (v4 : Int32) (w0 : Int32) : Option (Int32 × hS) :=
  if c.1 201 5 = 0 then
    if (v3 + w0) ≤ p1 then
      if v4 = 16 then
        bif j_in (v3 - 1) (ln 214) then
        f_X12_readRow_161 N p1 p2 k2 N c v3 w0 (c.1 214 (v3 - 1).toNatClampNeg) 0
        else none
      else
        f_X12_readRow_161 N p1 p2 k2 N c v3 w0 0 0
    else
      bnd (f_X12_fails c 24 p2) fun x1 c2 =>
      bif j_b x1 then some (x1, c2) else none
  else
    some (0, c)
noncomputable def f_X12_readRow_67 (N : Nat) (p1 : Int32) (p2 : Int32) (k2 : hS → Int32 → Option (Int32 × hS)) (c : hS) (v3 : Int32) (v4 : Int32) : Option (Int32 × hS) :=
  if v4 = 16 then
    bnd (f_X12_bits N c 2) fun x5 c6 =>
    f_X12_readRow_110 N p1 p2 k2 c6 v3 v4 (3 + x5)
  else
    if v4 = 17 then
      bnd (f_X12_bits N c 3) fun x3 c4 =>
      f_X12_readRow_110 N p1 p2 k2 c4 v3 v4 (3 + x3)
    else
      bnd (f_X12_bits N c 7) fun x1 c2 =>
      f_X12_readRow_110 N p1 p2 k2 c2 v3 v4 (11 + x1)
noncomputable def f_X12_readRow_2 (N : Nat) (p1 : Int32) (p2 : Int32) : Nat → hS → Int32 → Option (Int32 × hS)
  | 0, _, _ => none
  | n + 1, c, v3 =>
  if p1 ≤ v3 then
    some (1, c)
  else
    bnd (f_X12_symbol N c 340 19) fun x1 c2 =>
    if c2.1 201 5 = 0 then
      if 16 ≤ x1 then
        if x1 = 16 then
          if v3 = 0 then
            bnd (f_X12_fails c2 24 p2) fun x3 c4 =>
            bif j_b x3 then some (x3, c4) else none
          else
            f_X12_readRow_67 N p1 p2 (f_X12_readRow_2 N p1 p2 n) c2 v3 x1
        else
          f_X12_readRow_67 N p1 p2 (f_X12_readRow_2 N p1 p2 n) c2 v3 x1
      else
        bif j_in v3 (ln 214) then
        st1 (sI c2 214 v3.toNatClampNeg x1) fun c5 =>
        f_X12_readRow_2 N p1 p2 n c5 (v3 + 1)
        else none
    else
      some (0, c2)
noncomputable def f_X12_readRow (N : Nat) (c : hS) (p1 : Int32) (p2 : Int32) : Option (Int32 × hS) :=
  f_X12_readRow_2 N p1 p2 N c 0
noncomputable def f_X12_readCodes_279 (N : Nat) (p1 : Int32) (k221 : hS → Int32 → Int32 → Int32 → Int32 → Int32 → Option (Int32 × hS)) (c : hS) (v2 : Int32) (v3 : Int32) (v6 : Int32) (v7 : Int32) (w0 : Int32) (w1 : Int32) : Option (Int32 × hS) :=
  bif j_in (300 + v7) (ln 212) then
  if c.1 212 (300 + v7).toNatClampNeg = 1 then
    k221 c v2 v3 (w1 + w0) (v6 + 1) (v7 + 1)
  else
    k221 c v2 v3 (w1 + w0) (v6 + 0) (v7 + 1)
  else none
noncomputable def f_X12_readCodes_257 (N : Nat) (p1 : Int32) (k221 : hS → Int32 → Int32 → Int32 → Int32 → Int32 → Option (Int32 × hS)) (c : hS) (v2 : Int32) (v3 : Int32) (v5 : Int32) (v6 : Int32) (v7 : Int32) (w0 : Int32) (w1 : Int32) : Option (Int32 × hS) :=
  bif j_in w1 (ln 212) then
  st1 (sI c 212 w1.toNatClampNeg w0) fun c1 =>
  bif j_in (300 + v7) (ln 212) then
  if c1.1 212 (300 + v7).toNatClampNeg ≤ 0 then
    f_X12_readCodes_279 N p1 k221 c1 v2 v3 v6 v7 0 v5
  else
    f_X12_readCodes_279 N p1 k221 c1 v2 v3 v6 v7 1 v5
  else none
  else none
noncomputable def f_X12_readCodes_350 (N : Nat) (p1 : Int32) (c : hS) (w0 : Int32) : Option (Int32 × hS) :=
  bif j_in 256 (ln 212) then
  if c.1 212 (256 : Int32).toNatClampNeg = 0 then
    bnd (f_X12_fails c 24 p1) fun x1 c2 =>
    bif j_b x1 then some (x1, c2) else none
  else
    bnd (f_X12_fullness N c 0 288) fun x3 c4 =>
    if x3 = 32768 then
      if w0 = 0 then
        bnd (f_X12_fails c4 24 p1) fun x9 c10 =>
        bif j_b x9 then some (x9, c10) else none
      else
        bnd (f_X12_layCodes N c4 0 288) fun _ c7 =>
        bnd (f_X12_layCodes N c7 300 32) fun _ c8 =>
        some (1, c8)
    else
      bnd (f_X12_fails c4 24 p1) fun x5 c6 =>
      bif j_b x5 then some (x5, c6) else none
  else none
noncomputable def f_X12_readCodes_345 (N : Nat) (p1 : Int32) (c : hS) : Option (Int32 × hS) :=
  f_X12_readCodes_350 N p1 c 1
noncomputable def f_X12_readCodes_349 (N : Nat) (p1 : Int32) (c : hS) : Option (Int32 × hS) :=
  f_X12_readCodes_350 N p1 c 0
noncomputable def f_X12_readCodes_221 (N : Nat) (p1 : Int32) : Nat → hS → Int32 → Int32 → Int32 → Int32 → Int32 → Option (Int32 × hS)
  | 0, _, _, _, _, _, _ => none
  | n + 1, c, v2, v3, v5, v6, v7 =>
  if 32 ≤ v7 then
    bnd (f_X12_fullness N c 300 32) fun x1 c2 =>
    if x1 = 32768 then
      f_X12_readCodes_345 N p1 c2
    else
      if v5 = 0 then
        f_X12_readCodes_345 N p1 c2
      else
        if v5 = 1 then
          if v6 = 1 then
            f_X12_readCodes_345 N p1 c2
          else
            f_X12_readCodes_349 N p1 c2
        else
          f_X12_readCodes_349 N p1 c2
  else
    if v3 ≤ v7 then
      f_X12_readCodes_257 N p1 (f_X12_readCodes_221 N p1 n) c v2 v3 v5 v6 v7 0 (300 + v7)
    else
      bif j_in (v2 + v7) (ln 214) then
      f_X12_readCodes_257 N p1 (f_X12_readCodes_221 N p1 n) c v2 v3 v5 v6 v7 (c.1 214 (v2 + v7).toNatClampNeg) (300 + v7)
      else none
noncomputable def f_X12_readCodes_174 (N : Nat) (p1 : Int32) : Nat → hS → Int32 → Int32 → Int32 → Option (Int32 × hS)
  | 0, _, _, _, _ => none
  | n + 1, c, v2, v3, v5 =>
  if 288 ≤ v5 then
    f_X12_readCodes_221 N p1 N c v2 v3 0 0 0
  else
    if v2 ≤ v5 then
      bif j_in v5 (ln 212) then
      st1 (sI c 212 v5.toNatClampNeg 0) fun c1 =>
      f_X12_readCodes_174 N p1 n c1 v2 v3 (v5 + 1)
      else none
    else
      bif j_in v5 (ln 214) then
      bif j_in v5 (ln 212) then
      st1 (sI c 212 v5.toNatClampNeg (c.1 214 v5.toNatClampNeg)) fun c2 =>
      f_X12_readCodes_174 N p1 n c2 v2 v3 (v5 + 1)
      else none
      else none
noncomputable def f_X12_readCodes_73 (N : Nat) (p1 : Int32) : Nat → hS → Int32 → Int32 → Int32 → Int32 → Option (Int32 × hS)
  | 0, _, _, _, _, _ => none
  | n + 1, c, v2, v3, v4, v5 =>
  if 19 ≤ v5 then
    if c.1 201 5 = 0 then
      bnd (f_X12_fullness N c 340 19) fun x1 c2 =>
      if x1 = 32768 then
        bnd (f_X12_layCodes N c2 340 19) fun _ c3 =>
        bnd (f_X12_readRow N c3 (v2 + v3) p1) fun x4 c5 =>
        if x4 = 0 then
          some (0, c5)
        else
          f_X12_readCodes_174 N p1 N c5 v2 v3 0
      else
        bnd (f_X12_fails c2 24 p1) fun x6 c7 =>
        bif j_b x6 then some (x6, c7) else none
    else
      some (0, c)
  else
    bnd (f_X12_order c v5) fun x8 c9 =>
    if v4 ≤ v5 then
      bif j_in (340 + x8) (ln 212) then
      st1 (sI c9 212 (340 + x8).toNatClampNeg 0) fun c10 =>
      f_X12_readCodes_73 N p1 n c10 v2 v3 v4 (v5 + 1)
      else none
    else
      bnd (f_X12_bits N c9 3) fun x11 c12 =>
      bif j_in (340 + x8) (ln 212) then
      st1 (sI c12 212 (340 + x8).toNatClampNeg x11) fun c13 =>
      f_X12_readCodes_73 N p1 n c13 v2 v3 v4 (v5 + 1)
      else none
noncomputable def f_X12_readCodes_61 (N : Nat) (p1 : Int32) (c : hS) (v2 : Int32) (v3 : Int32) : Option (Int32 × hS) :=
  bnd (f_X12_bits N c 4) fun x1 c2 =>
  f_X12_readCodes_73 N p1 N c2 v2 v3 (4 + x1) 0
noncomputable def f_X12_readCodes_32 (N : Nat) (p1 : Int32) (c : hS) (v2 : Int32) : Option (Int32 × hS) :=
  bnd (f_X12_bits N c 5) fun x1 c2 =>
  if c2.1 201 5 = 0 then
    if (1 + x1) ≤ 30 then
      f_X12_readCodes_61 N p1 c2 v2 (1 + x1)
    else
      bnd (f_X12_fails c2 24 p1) fun x3 c4 =>
      bif j_b x3 then some (x3, c4) else none
  else
    f_X12_readCodes_61 N p1 c2 v2 (1 + x1)
noncomputable def f_X12_readCodes (N : Nat) (c : hS) (p1 : Int32) : Option (Int32 × hS) :=
  bnd (f_X12_bits N c 5) fun x1 c2 =>
  if c2.1 201 5 = 0 then
    if (257 + x1) ≤ 286 then
      f_X12_readCodes_32 N p1 c2 (257 + x1)
    else
      bnd (f_X12_fails c2 24 p1) fun x3 c4 =>
      bif j_b x3 then some (x3, c4) else none
  else
    f_X12_readCodes_32 N p1 c2 (257 + x1)
noncomputable def f_X12_distanceOf (c : hS) (p1 : Int32) : Option (Int32 × hS) :=
  st1 (sI c 201 30 0) fun c1 =>
  if 4 ≤ p1 then
    st1 (sI c1 201 30 ((p1 / 2) - 1)) fun c2 =>
    some ((1 + (j_shl (2 + (j_rem p1 2)) (c2.1 201 30))), c2)
  else
    some ((1 + p1), c1)
noncomputable def f_X12_lengthOf (c : hS) (p1 : Int32) : Option (Int32 × hS) :=
  st1 (sI c 201 30 0) fun c1 =>
  if p1 = 28 then
    some (258, c1)
  else
    if 8 ≤ p1 then
      st1 (sI c1 201 30 ((p1 / 4) - 1)) fun c2 =>
      some ((3 + (j_shl (4 + (j_rem p1 4)) (c2.1 201 30))), c2)
    else
      some ((3 + p1), c1)
end
section
/-! THE METHODS AS FUNCTIONS, printed by gen_l1.py -/
noncomputable def f_X12_readSymbols_193 (N : Nat) (k0 : hS → Option (Int32 × hS)) : Nat → hS → Int32 → Int32 → Int32 → Int32 → Option (Int32 × hS)
  | 0, _, _, _, _, _ => none
  | n + 1, c, v1, v3, v5, v6 =>
  if v3 ≤ v6 then
    k0 c
  else
    bif j_in ((c.1 201 23) - v5) (ln 211) then
    bnd (f_X12_add c (c.1 211 ((c.1 201 23) - v5).toNatClampNeg) v1) fun x1 c2 =>
    if x1 = 0 then
      some (0, c2)
    else
      f_X12_readSymbols_193 N k0 n c2 v1 v3 v5 (v6 + 1)
    else none
noncomputable def f_X12_readSymbols_0 (N : Nat) : Nat → hS → Option (Int32 × hS)
  | 0, _ => none
  | n + 1, c =>
  bnd (f_X12_symbol N c 0 288) fun x1 c2 =>
  if x1 = (-1) then
    some (0, c2)
  else
    if x1 = (-2) then
      bnd (f_X12_fails c2 25 ((c.1 201 25) / 8)) fun x3 c4 =>
      bif j_b x3 then some (x3, c4) else none
    else
      if x1 ≤ 285 then
        if x1 = 256 then
          some (1, c2)
        else
          if 256 ≤ x1 then
            bnd (f_X12_lengthOf c2 (x1 - 257)) fun x5 c6 =>
            bnd (f_X12_bits N c6 (c6.1 201 30)) fun x7 c8 =>
            if c8.1 201 5 = 0 then
              bnd (f_X12_symbol N c8 300 32) fun x9 c10 =>
              if x9 = (-1) then
                some (0, c10)
              else
                if x9 = (-2) then
                  bnd (f_X12_fails c10 25 ((c.1 201 25) / 8)) fun x11 c12 =>
                  bif j_b x11 then some (x11, c12) else none
                else
                  if x9 ≤ 29 then
                    bnd (f_X12_distanceOf c10 x9) fun x13 c14 =>
                    bnd (f_X12_bits N c14 (c14.1 201 30)) fun x15 c16 =>
                    if c16.1 201 5 = 0 then
                      if (x13 + x15) ≤ c16.1 201 23 then
                        f_X12_readSymbols_193 N (f_X12_readSymbols_0 N n) N c16 ((c.1 201 25) / 8) (x5 + x7) (x13 + x15) 0
                      else
                        bnd (f_X12_fails c16 26 ((c.1 201 25) / 8)) fun x17 c18 =>
                        bif j_b x17 then some (x17, c18) else none
                    else
                      some (0, c16)
                  else
                    bnd (f_X12_fails c10 25 ((c.1 201 25) / 8)) fun x19 c20 =>
                    bif j_b x19 then some (x19, c20) else none
            else
              some (0, c8)
          else
            bnd (f_X12_add c2 x1 ((c.1 201 25) / 8)) fun x21 c22 =>
            if x21 = 0 then
              some (0, c22)
            else
              f_X12_readSymbols_0 N n c22
      else
        bnd (f_X12_fails c2 25 ((c.1 201 25) / 8)) fun x23 c24 =>
        bif j_b x23 then some (x23, c24) else none
noncomputable def f_X12_readSymbols (N : Nat) (c : hS) : Option (Int32 × hS) :=
  f_X12_readSymbols_0 N N c
noncomputable def f_X12_unpackFrom_129 (N : Nat) (p1 : Int32) (p2 : Int32) (p3 : Int32) (k29 : hS → Int32 → Option (Int32 × hS)) (c : hS) (v4 : Int32) (v7 : Int32) : Option (Int32 × hS) :=
  if v7 = 0 then
    some (0, c)
  else
    bnd (f_X12_readSymbols N c) fun x1 c2 =>
    if x1 = 0 then
      some (0, c2)
    else
      k29 c2 v4
noncomputable def f_X12_unpackFrom_56 (N : Nat) (p1 : Int32) (p2 : Int32) (p3 : Int32) (k29 : hS → Int32 → Option (Int32 × hS)) (c : hS) (v5 : Int32) (w0 : Int32) : Option (Int32 × hS) :=
  bnd (f_X12_bits N c 2) fun x1 c2 =>
  if c2.1 201 5 = 0 then
    if x1 = 3 then
      bnd (f_X12_fails c2 21 v5) fun x8 c9 =>
      bif j_b x8 then some (x8, c9) else none
    else
      if x1 = 0 then
        bnd (f_X12_plain N c2 v5) fun x6 c7 =>
        if x6 = 0 then
          some (0, c7)
        else
          k29 c7 w0
      else
        if x1 = 1 then
          bnd (f_X12_layFixed N c2) fun _ c5 =>
          f_X12_unpackFrom_129 N p1 p2 p3 k29 c5 w0 1
        else
          bnd (f_X12_readCodes N c2 v5) fun x3 c4 =>
          f_X12_unpackFrom_129 N p1 p2 p3 k29 c4 w0 x3
  else
    some (0, c2)
noncomputable def f_X12_unpackFrom_29 (N : Nat) (p1 : Int32) (p2 : Int32) (p3 : Int32) : Nat → hS → Int32 → Option (Int32 × hS)
  | 0, _, _ => none
  | n + 1, c, v4 =>
  if v4 = 0 then
    bnd (f_X12_bit c) fun x3 c4 =>
    if x3 = 1 then
      f_X12_unpackFrom_56 N p1 p2 p3 (f_X12_unpackFrom_29 N p1 p2 p3 n) c4 ((c.1 201 25) / 8) 1
    else
      f_X12_unpackFrom_56 N p1 p2 p3 (f_X12_unpackFrom_29 N p1 p2 p3 n) c4 ((c.1 201 25) / 8) 0
  else
    if (((c.1 201 25) + 7) / 8) = p2 then
      some (1, c)
    else
      bnd (f_X12_fails c 27 (((c.1 201 25) + 7) / 8)) fun x1 c2 =>
      if x1 = 0 then
        some (0, c2)
      else
        some (1, c2)
noncomputable def f_X12_unpackFrom (N : Nat) (c : hS) (p1 : Int32) (p2 : Int32) (p3 : Int32) : Option (Int32 × hS) :=
  st1 (sI c 201 25 (8 * p1)) fun c1 =>
  st1 (sI c1 201 26 (8 * p2)) fun c2 =>
  st1 (sI c2 201 24 p3) fun c3 =>
  st1 (sI c3 201 23 0) fun c4 =>
  f_X12_unpackFrom_29 N p1 p2 p3 N c4 0
noncomputable def f_X12_readContent_112 (N : Nat) (p1 : Int32) (p2 : Int32) (p3 : Int32) : Nat → hS → Int32 → Int32 → Option (Int32 × hS)
  | 0, _, _, _ => none
  | n + 1, c, v5, v6 =>
  if c.1 201 16 ≤ v6 then
    bnd (f_X12_fourAt c (p1 + 16)) fun x1 c2 =>
    if (v5 ^^^ (-1)) = x1.toInt32 then
      some (1, c2)
    else
      bnd (f_X12_fails c2 4 (p1 + 16)) fun x3 c4 =>
      if x3 = 0 then
        some (0, c4)
      else
        some (1, c4)
  else
    bif j_in v6 (ln 210) then
    bnd (f_X12_checkMore N c v5 (c.1 210 v6.toNatClampNeg)) fun x5 c6 =>
    f_X12_readContent_112 N p1 p2 p3 n c6 x5 (v6 + 1)
    else none
noncomputable def f_X12_readContent_77 (N : Nat) (p1 : Int32) (p2 : Int32) (p3 : Int32) : Nat → hS → Int32 → Option (Int32 × hS)
  | 0, _, _ => none
  | n + 1, c, v5 =>
  if c.1 201 23 ≤ v5 then
    f_X12_readContent_112 N p1 p2 p3 N c (-1) 0
  else
    bif j_in v5 (ln 211) then
    bif j_in v5 (ln 210) then
    st1 (sI c 210 v5.toNatClampNeg (c.1 211 v5.toNatClampNeg)) fun c1 =>
    f_X12_readContent_77 N p1 p2 p3 n c1 (v5 + 1)
    else none
    else none
noncomputable def f_X12_readContent (N : Nat) (c : hS) (p1 : Int32) (p2 : Int32) (p3 : Int32) : Option (Int32 × hS) :=
  bnd (f_X12_fourAt c (p1 + 24)) fun x1 c2 =>
  bnd (f_X12_twoAt c2 (p1 + 10)) fun x3 c4 =>
  if x3 = 0 then
    bnd (f_X12_takeBytes N c4 p2 p3) fun _ c10 =>
    f_X12_readContent_112 N p1 p2 p3 N c10 (-1) 0
  else
    bnd (f_X12_unpackFrom N c4 p2 (p2 + p3) x1.toInt32) fun x5 c6 =>
    if x5 = 0 then
      some (0, c6)
    else
      if c6.1 201 23 = x1.toInt32 then
        st1 (sI c6 201 16 (c6.1 201 23)) fun c7 =>
        f_X12_readContent_77 N p1 p2 p3 N c7 0
      else
        bnd (f_X12_fails c6 14 (p1 + 24)) fun x8 c9 =>
        bif j_b x8 then some (x8, c9) else none
noncomputable def f_X12_readLocal_170 (N : Nat) (p1 : Int32) (p2 : Int32) : Nat → hS → Int32 → Int32 → Int32 → Option (Int32 × hS)
  | 0, _, _, _, _ => none
  | n + 1, c, v5, v6, v7 =>
  if v6 ≤ v7 then
    bnd (f_X12_twoAt c (v5 + 28)) fun x1 c2 =>
    bnd (f_X12_fourAt c2 (p1 + 20)) fun x3 c4 =>
    if j_cmp ((((v5.toInt64 + 30) + v6.toInt64) + x1.toInt64) + x3) p2.toInt64 ≤ 0 then
      bnd (f_X12_readContent N c4 p1 ((((v5.toInt64 + 30) + v6.toInt64) + x1.toInt64).toInt32) x3.toInt32) fun x5 c6 =>
      bif j_b x5 then some (x5, c6) else none
    else
      bnd (f_X12_fails c4 12 (p1 + 42)) fun x7 c8 =>
      bif j_b x7 then some (x7, c8) else none
  else
    bif j_in ((v5 + 30) + v7) (ln 203) then
    bif j_in ((p1 + 46) + v7) (ln 203) then
    if c.1 203 ((v5 + 30) + v7).toNatClampNeg = c.1 203 ((p1 + 46) + v7).toNatClampNeg then
      f_X12_readLocal_170 N p1 p2 n c v5 v6 (v7 + 1)
    else
      bnd (f_X12_fails c 13 ((v5 + 30) + v7)) fun x9 c10 =>
      bif j_b x9 then some (x9, c10) else none
    else none
    else none
noncomputable def f_X12_readLocal (N : Nat) (c : hS) (p1 : Int32) (p2 : Int32) : Option (Int32 × hS) :=
  bnd (f_X12_fourAt c (p1 + 42)) fun x1 c2 =>
  if j_cmp (x1 + 30) p2.toInt64 ≤ 0 then
    bnd (f_X12_isRow N c2 x1.toInt32 80 75 3 4 3) fun x3 c4 =>
    if x3 = 0 then
      some (0, c4)
    else
      bnd (f_X12_isAsThere c4 (x1.toInt32 + 6) (p1 + 8) 2) fun x5 c6 =>
      if x5 = 0 then
        some (0, c6)
      else
        bnd (f_X12_isAsThere c6 (x1.toInt32 + 8) (p1 + 10) 2) fun x7 c8 =>
        if x7 = 0 then
          some (0, c8)
        else
          bnd (f_X12_isAsThere c8 (x1.toInt32 + 14) (p1 + 16) 4) fun x9 c10 =>
          if x9 = 0 then
            some (0, c10)
          else
            bnd (f_X12_isAsThere c10 (x1.toInt32 + 18) (p1 + 20) 4) fun x11 c12 =>
            if x11 = 0 then
              some (0, c12)
            else
              bnd (f_X12_isAsThere c12 (x1.toInt32 + 22) (p1 + 24) 4) fun x13 c14 =>
              if x13 = 0 then
                some (0, c14)
              else
                bnd (f_X12_isAsThere c14 (x1.toInt32 + 26) (p1 + 28) 2) fun x15 c16 =>
                if x15 = 0 then
                  some (0, c16)
                else
                  bnd (f_X12_twoAt c16 (p1 + 28)) fun x17 c18 =>
                  f_X12_readLocal_170 N p1 p2 N c18 x1.toInt32 x17 0
  else
    bnd (f_X12_fails c2 12 (p1 + 42)) fun x19 c20 =>
    bif j_b x19 then some (x19, c20) else none
noncomputable def f_X12_readDirectory_52 (N : Nat) : Nat → hS → Int32 → Int32 → Int32 → Int32 → Option (Int32 × hS)
  | 0, _, _, _, _, _ => none
  | n + 1, c, v1, v2, v3, v4 =>
  bnd (f_X12_twoAt c (v1 + 10)) fun x1 c2 =>
  if x1 ≤ v4 then
    if v3 = v1 then
      some (1, c2)
    else
      bnd (f_X12_fails c2 12 v3) fun x3 c4 =>
      if x3 = 0 then
        some (0, c4)
      else
        some (1, c4)
  else
    bnd (f_X12_readEntryHead N c2 v3 v1) fun x5 c6 =>
    if x5 = 0 then
      some (0, c6)
    else
      bnd (f_X12_readLocal N c6 v3 v2) fun x7 c8 =>
      if x7 = 0 then
        some (0, c8)
      else
        bnd (f_X12_comes N c8 v3) fun x9 c10 =>
        if x9 = 0 then
          some (0, c10)
        else
          bnd (f_X12_twoAt c10 (v3 + 28)) fun x11 c12 =>
          bnd (f_X12_twoAt c12 (v3 + 30)) fun x13 c14 =>
          bnd (f_X12_twoAt c14 (v3 + 32)) fun x15 c16 =>
          f_X12_readDirectory_52 N n c16 v1 v2 (v3 + (((46 + x11) + x13) + x15)) (v4 + 1)
noncomputable def f_X12_readDirectory (N : Nat) (c : hS) : Option (Int32 × hS) :=
  if 22 ≤ c.1 201 4 then
    bnd (f_X12_readEnd N c ((c.1 201 4) - 22)) fun x1 c2 =>
    if x1 = 0 then
      some (0, c2)
    else
      bnd (f_X12_fourAt c2 (((c.1 201 4) - 22) + 16)) fun x3 c4 =>
      f_X12_readDirectory_52 N N c4 ((c.1 201 4) - 22) x3.toInt32 x3.toInt32 0
  else
    bnd (f_X12_fails c 1 (c.1 201 4)) fun x5 c6 =>
    bif j_b x5 then some (x5, c6) else none
noncomputable def f_X12_read_91 (N : Nat) (p1 : Int32) : Nat → hS → Int32 → Option (Int32 × hS)
  | 0, _, _ => none
  | n + 1, c, v3 =>
  if c.1 201 7 ≤ v3 then
    some (c.1 201 7, c)
  else
    bnd (f_X12_move N c (17 + v3) v3) fun _ c1 =>
    f_X12_read_91 N p1 n c1 (v3 + 1)
noncomputable def f_X12_read_74 (N : Nat) (p1 : Int32) (c : hS) (w0 : Int32) : Option (Int32 × hS) :=
  if w0 = 0 then
    some ((-1), c)
  else
    st1 (sI c 201 7 (c.1 201 8)) fun c1 =>
    f_X12_read_91 N p1 N c1 0
noncomputable def f_X12_read_23 (N : Nat) (p1 : Int32) (c : hS) (w0 : Int32) : Option (Int32 × hS) :=
  bnd (f_X12_refuses c w0 1) fun x1 c2 =>
  if x1 = 0 then
    st1 (sI c2 201 5 0) fun c3 =>
    st1 (sI c3 201 6 (-1)) fun c4 =>
    st1 (sI c4 201 8 0) fun c5 =>
    if p1 = 0 then
      bnd (f_X12_readBlocks N c5) fun x10 c11 =>
      f_X12_read_74 N p1 c11 x10
    else
      if p1 = 1 then
        bnd (f_X12_readDigits N c5) fun x8 c9 =>
        f_X12_read_74 N p1 c9 x8
      else
        bnd (f_X12_readDirectory N c5) fun x6 c7 =>
        f_X12_read_74 N p1 c7 x6
  else
    some (0, c2)
noncomputable def f_X12_read (N : Nat) (c : hS) (p1 : Int32) : Option (Int32 × hS) :=
  st1 (sI c 201 0 0) fun c1 =>
  bnd (f_X12_in c1 p1.toInt64 0 2) fun x2 c3 =>
  if x2 = 0 then
    f_X12_read_23 N p1 c3 1
  else
    f_X12_read_23 N p1 c3 0
noncomputable def f_X12_unpack_42 (N : Nat) : Nat → hS → Int32 → Option (Int32 × hS)
  | 0, _, _ => none
  | n + 1, c, v1 =>
  if c.1 201 23 ≤ v1 then
    some (c.1 201 2, c)
  else
    bif j_in v1 (ln 211) then
    bif j_in v1 (ln 202) then
    st1 (sI c 202 v1.toNatClampNeg (c.1 211 v1.toNatClampNeg)) fun c1 =>
    f_X12_unpack_42 N n c1 (v1 + 1)
    else none
    else none
noncomputable def f_X12_unpack (N : Nat) (c : hS) : Option (Int32 × hS) :=
  st1 (sI c 201 0 0) fun c1 =>
  st1 (sI c1 201 5 0) fun c2 =>
  st1 (sI c2 201 6 (-1)) fun c3 =>
  bnd (f_X12_unpackFrom N c3 0 (c3.1 201 4) 512) fun x4 c5 =>
  if x4 = 0 then
    some ((-1), c5)
  else
    st1 (sI c5 201 2 (c5.1 201 23)) fun c6 =>
    f_X12_unpack_42 N N c6 0
noncomputable def f_X12_check_9 (N : Nat) : Nat → hS → Int32 → Int32 → Option (Int32 × hS)
  | 0, _, _, _ => none
  | n + 1, c, v1, v2 =>
  if c.1 201 2 ≤ v2 then
    some ((v1 ^^^ (-1)), c)
  else
    bif j_in v2 (ln 202) then
    bnd (f_X12_checkMore N c v1 (c.1 202 v2.toNatClampNeg)) fun x1 c2 =>
    f_X12_check_9 N n c2 x1 (v2 + 1)
    else none
noncomputable def f_X12_check (N : Nat) (c : hS) : Option (Int32 × hS) :=
  st1 (sI c 201 0 0) fun c1 =>
  f_X12_check_9 N N c1 (-1) 0
noncomputable def f_X12_putBit (c : hS) (p1 : Int32) : Option (Unit × hS) :=
  st1 (sI c 201 33 ((c.1 201 33) ||| (j_shl p1 (c.1 201 34)))) fun c1 =>
  st1 (sI c1 201 34 ((c1.1 201 34) + 1)) fun c2 =>
  if c2.1 201 34 = 8 then
    bnd (f_X12_put c2 (c2.1 201 33)) fun _ c3 =>
    st1 (sI c3 201 33 0) fun c4 =>
    st1 (sI c4 201 34 0) fun c5 =>
    some ((), c5)
  else
    some ((), c2)
noncomputable def f_X12_putBits_2 (N : Nat) (p1 : Int32) (p2 : Int32) : Nat → hS → Int32 → Option (Unit × hS)
  | 0, _, _ => none
  | n + 1, c, v3 =>
  if p2 ≤ v3 then
    some ((), c)
  else
    bnd (f_X12_putBit c ((j_shr p1 v3) &&& 1)) fun _ c1 =>
    f_X12_putBits_2 N p1 p2 n c1 (v3 + 1)
noncomputable def f_X12_putBits (N : Nat) (c : hS) (p1 : Int32) (p2 : Int32) : Option (Unit × hS) :=
  f_X12_putBits_2 N p1 p2 N c 0
noncomputable def f_X12_putCode_9 (N : Nat) (p1 : Int32) : Nat → hS → Int32 → Option (Unit × hS)
  | 0, _, _ => none
  | n + 1, c, v2 =>
  if v2 < 0 then
    some ((), c)
  else
    bif j_in p1 (ln 213) then
    bnd (f_X12_putBit c ((j_shr (c.1 213 p1.toNatClampNeg) v2) &&& 1)) fun _ c1 =>
    f_X12_putCode_9 N p1 n c1 (v2 + (-1))
    else none
noncomputable def f_X12_putCode (N : Nat) (c : hS) (p1 : Int32) : Option (Unit × hS) :=
  bif j_in p1 (ln 212) then
  f_X12_putCode_9 N p1 N c ((c.1 212 p1.toNatClampNeg) - 1)
  else none
noncomputable def f_X12_match_59 (N : Nat) (p1 : Int32) (k6 : hS → Int32 → Int32 → Option (Int32 × hS)) (c : hS) (v2 : Int32) (v3 : Int32) (v4 : Int32) : Option (Int32 × hS) :=
  if v4 ≤ v2 then
    k6 c v2 (v3 + (-1))
  else
    st1 (sI c 201 35 (p1 - v3)) fun c1 =>
    k6 c1 v4 (v3 + (-1))
noncomputable def f_X12_match_13 (N : Nat) (p1 : Int32) (k6 : hS → Int32 → Int32 → Option (Int32 × hS)) : Nat → hS → Int32 → Int32 → Int32 → Option (Int32 × hS)
  | 0, _, _, _, _ => none
  | n + 1, c, v2, v3, v4 =>
  if 258 ≤ v4 then
    f_X12_match_59 N p1 k6 c v2 v3 v4
  else
    if c.1 201 32 ≤ (p1 + v4) then
      f_X12_match_59 N p1 k6 c v2 v3 v4
    else
      bif j_in (v3 + v4) (ln 215) then
      bif j_in (p1 + v4) (ln 215) then
      if c.1 215 (v3 + v4).toNatClampNeg = c.1 215 (p1 + v4).toNatClampNeg then
        f_X12_match_13 N p1 k6 n c v2 v3 (v4 + 1)
      else
        f_X12_match_59 N p1 k6 c v2 v3 v4
      else none
      else none
noncomputable def f_X12_match_6 (N : Nat) (p1 : Int32) : Nat → hS → Int32 → Int32 → Option (Int32 × hS)
  | 0, _, _, _ => none
  | n + 1, c, v2, v3 =>
  if v3 < 0 then
    some (v2, c)
  else
    f_X12_match_13 N p1 (f_X12_match_6 N p1 n) N c v2 v3 0
noncomputable def f_X12_match (N : Nat) (c : hS) (p1 : Int32) : Option (Int32 × hS) :=
  f_X12_match_6 N p1 N c 0 (p1 - 1)
noncomputable def f_X12_putMatch_50 (N : Nat) (p1 : Int32) (p2 : Int32) : Nat → hS → Int32 → Option (Unit × hS)
  | 0, _, _ => none
  | n + 1, c, v5 =>
  bnd (f_X12_distanceOf c v5) fun x1 c2 =>
  if x1 ≤ p2 then
    bnd (f_X12_distanceOf c2 v5) fun x3 c4 =>
    bnd (f_X12_putCode N c4 (300 + v5)) fun _ c5 =>
    bnd (f_X12_putBits N c5 (p2 - x3) (c5.1 201 30)) fun _ c6 =>
    some ((), c6)
  else
    f_X12_putMatch_50 N p1 p2 n c2 (v5 + (-1))
noncomputable def f_X12_putMatch_3 (N : Nat) (p1 : Int32) (p2 : Int32) : Nat → hS → Int32 → Option (Unit × hS)
  | 0, _, _ => none
  | n + 1, c, v3 =>
  bnd (f_X12_lengthOf c v3) fun x1 c2 =>
  if x1 ≤ p1 then
    bnd (f_X12_lengthOf c2 v3) fun x3 c4 =>
    bnd (f_X12_putCode N c4 (257 + v3)) fun _ c5 =>
    bnd (f_X12_putBits N c5 (p1 - x3) (c5.1 201 30)) fun _ c6 =>
    f_X12_putMatch_50 N p1 p2 N c6 29
  else
    f_X12_putMatch_3 N p1 p2 n c2 (v3 + (-1))
noncomputable def f_X12_putMatch (N : Nat) (c : hS) (p1 : Int32) (p2 : Int32) : Option (Unit × hS) :=
  f_X12_putMatch_3 N p1 p2 N c 28
noncomputable def f_X12_putPacked_22 (N : Nat) : Nat → hS → Int32 → Option (Unit × hS)
  | 0, _, _ => none
  | n + 1, c, v1 =>
  if c.1 201 32 ≤ v1 then
    bnd (f_X12_putCode N c 256) fun _ c1 =>
    if c1.1 201 34 ≤ 0 then
      some ((), c1)
    else
      bnd (f_X12_put c1 (c1.1 201 33)) fun _ c2 =>
      some ((), c2)
  else
    bnd (f_X12_match N c v1) fun x3 c4 =>
    if x3 < 3 then
      bif j_in v1 (ln 215) then
      bnd (f_X12_putCode N c4 (c4.1 215 v1.toNatClampNeg)) fun _ c5 =>
      f_X12_putPacked_22 N n c5 (v1 + 1)
      else none
    else
      bnd (f_X12_putMatch N c4 x3 (c4.1 201 35)) fun _ c6 =>
      f_X12_putPacked_22 N n c6 (v1 + x3)
noncomputable def f_X12_putPacked (N : Nat) (c : hS) : Option (Unit × hS) :=
  st1 (sI c 201 33 0) fun c1 =>
  st1 (sI c1 201 34 0) fun c2 =>
  bnd (f_X12_layFixed N c2) fun _ c3 =>
  bnd (f_X12_putBits N c3 3 3) fun _ c4 =>
  f_X12_putPacked_22 N N c4 0
noncomputable def f_X12_pack_15 (N : Nat) : Nat → hS → Int32 → Option (Int32 × hS)
  | 0, _, _ => none
  | n + 1, c, v1 =>
  if c.1 201 2 ≤ v1 then
    st1 (sI c 201 4 0) fun c1 =>
    bnd (f_X12_putPacked N c1) fun _ c2 =>
    some (c2.1 201 4, c2)
  else
    bif j_in v1 (ln 202) then
    bif j_in v1 (ln 215) then
    st1 (sI c 215 v1.toNatClampNeg (c.1 202 v1.toNatClampNeg)) fun c3 =>
    f_X12_pack_15 N n c3 (v1 + 1)
    else none
    else none
noncomputable def f_X12_pack (N : Nat) (c : hS) : Option (Int32 × hS) :=
  st1 (sI c 201 0 0) fun c1 =>
  st1 (sI c1 201 32 (c1.1 201 2)) fun c2 =>
  f_X12_pack_15 N N c2 0
noncomputable def f_X12_putZeros_0 (N : Nat) (p1 : Int32) : Nat → hS → Option (Unit × hS)
  | 0, _ => none
  | n + 1, c =>
  if p1 ≤ c.1 201 4 then
    some ((), c)
  else
    bnd (f_X12_put c 0) fun _ c1 =>
    f_X12_putZeros_0 N p1 n c1
noncomputable def f_X12_putZeros (N : Nat) (c : hS) (p1 : Int32) : Option (Unit × hS) :=
  f_X12_putZeros_0 N p1 N c
noncomputable def f_X12_putName_2 (N : Nat) (p1 : Int32) (p2 : Int32) : Nat → hS → Int32 → Option (Unit × hS)
  | 0, _, _ => none
  | n + 1, c, v3 =>
  bif j_in p1 (ln 204) then
  if c.1 204 p1.toNatClampNeg ≤ v3 then
    if p2 = 0 then
      some ((), c)
    else
      bif j_in p1 (ln 208) then
      if c.1 208 p1.toNatClampNeg = 0 then
        some ((), c)
      else
        bnd (f_X12_put c 47) fun _ c1 =>
        some ((), c1)
      else none
  else
    bnd (f_X12_nameAt c p1 v3) fun x2 c3 =>
    bnd (f_X12_put c3 x2) fun _ c4 =>
    f_X12_putName_2 N p1 p2 n c4 (v3 + 1)
  else none
noncomputable def f_X12_putName (N : Nat) (c : hS) (p1 : Int32) (p2 : Int32) : Option (Unit × hS) :=
  f_X12_putName_2 N p1 p2 N c 0
noncomputable def f_X12_putBytes_2 (N : Nat) (p1 : Int32) : Nat → hS → Int32 → Option (Unit × hS)
  | 0, _, _ => none
  | n + 1, c, v2 =>
  bif j_in p1 (ln 206) then
  if c.1 206 p1.toNatClampNeg ≤ v2 then
    some ((), c)
  else
    bif j_in ((400 * p1) + v2) (ln 207) then
    bnd (f_X12_put c (c.1 207 ((400 * p1) + v2).toNatClampNeg)) fun _ c1 =>
    f_X12_putBytes_2 N p1 n c1 (v2 + 1)
    else none
  else none
noncomputable def f_X12_putBytes (N : Nat) (c : hS) (p1 : Int32) : Option (Unit × hS) :=
  f_X12_putBytes_2 N p1 N c 0
noncomputable def f_X12_octalAt_3 (N : Nat) (p1 : Int32) (p2 : Int32) (p3 : Int32) : Nat → hS → Int32 → Option (Unit × hS)
  | 0, _, _ => none
  | n + 1, c, v4 =>
  if p3 ≤ v4 then
    some ((), c)
  else
    if (3 * ((p3 - 1) - v4)) ≤ 30 then
      bif j_in (p1 + v4) (ln 203) then
      st1 (sI c 203 (p1 + v4).toNatClampNeg (48 + ((j_shr p2 (3 * ((p3 - 1) - v4))) &&& 7))) fun c1 =>
      f_X12_octalAt_3 N p1 p2 p3 n c1 (v4 + 1)
      else none
    else
      bif j_in (p1 + v4) (ln 203) then
      st1 (sI c 203 (p1 + v4).toNatClampNeg (48 + 0)) fun c2 =>
      f_X12_octalAt_3 N p1 p2 p3 n c2 (v4 + 1)
      else none
noncomputable def f_X12_octalAt (N : Nat) (c : hS) (p1 : Int32) (p2 : Int32) (p3 : Int32) : Option (Unit × hS) :=
  f_X12_octalAt_3 N p1 p2 p3 N c 0
noncomputable def f_X12_writeBlock_241 (N : Nat) (p1 : Int32) : Nat → hS → Int32 → Int32 → Int32 → Option (Unit × hS)
  | 0, _, _, _, _ => none
  | n + 1, c, v2, v3, v4 =>
  if 512 ≤ v4 then
    bnd (f_X12_octalAt N c (v2 + 148) v3 6) fun _ c1 =>
    bif j_in (v2 + 154) (ln 203) then
    st1 (sI c1 203 (v2 + 154).toNatClampNeg 0) fun c2 =>
    bif j_in (v2 + 155) (ln 203) then
    st1 (sI c2 203 (v2 + 155).toNatClampNeg 32) fun c3 =>
    bnd (f_X12_putBytes N c3 p1) fun _ c4 =>
    bnd (f_X12_putZeros N c4 ((((c4.1 201 4) + 511) / 512) * 512)) fun _ c5 =>
    some ((), c5)
    else none
    else none
  else
    bif j_in (v2 + v4) (ln 203) then
    f_X12_writeBlock_241 N p1 n c v2 (v3 + (c.1 203 (v2 + v4).toNatClampNeg)) (v4 + 1)
    else none
noncomputable def f_X12_writeBlock_126 (N : Nat) (p1 : Int32) : Nat → hS → Int32 → Int32 → Option (Unit × hS)
  | 0, _, _, _ => none
  | n + 1, c, v2, v3 =>
  if 8 ≤ v3 then
    bnd (f_X12_octalAt N c (v2 + 329) 0 7) fun _ c1 =>
    bnd (f_X12_octalAt N c1 (v2 + 337) 0 7) fun _ c2 =>
    f_X12_writeBlock_241 N p1 N c2 v2 256 0
  else
    if v3 = 0 then
      bif j_in ((v2 + 257) + v3) (ln 203) then
      st1 (sI c 203 ((v2 + 257) + v3).toNatClampNeg 117) fun c9 =>
      f_X12_writeBlock_126 N p1 n c9 v2 (v3 + 1)
      else none
    else
      if v3 = 1 then
        bif j_in ((v2 + 257) + v3) (ln 203) then
        st1 (sI c 203 ((v2 + 257) + v3).toNatClampNeg 115) fun c8 =>
        f_X12_writeBlock_126 N p1 n c8 v2 (v3 + 1)
        else none
      else
        if v3 = 2 then
          bif j_in ((v2 + 257) + v3) (ln 203) then
          st1 (sI c 203 ((v2 + 257) + v3).toNatClampNeg 116) fun c7 =>
          f_X12_writeBlock_126 N p1 n c7 v2 (v3 + 1)
          else none
        else
          if v3 = 3 then
            bif j_in ((v2 + 257) + v3) (ln 203) then
            st1 (sI c 203 ((v2 + 257) + v3).toNatClampNeg 97) fun c6 =>
            f_X12_writeBlock_126 N p1 n c6 v2 (v3 + 1)
            else none
          else
            if v3 = 4 then
              bif j_in ((v2 + 257) + v3) (ln 203) then
              st1 (sI c 203 ((v2 + 257) + v3).toNatClampNeg 114) fun c5 =>
              f_X12_writeBlock_126 N p1 n c5 v2 (v3 + 1)
              else none
            else
              if v3 = 5 then
                bif j_in ((v2 + 257) + v3) (ln 203) then
                st1 (sI c 203 ((v2 + 257) + v3).toNatClampNeg 0) fun c4 =>
                f_X12_writeBlock_126 N p1 n c4 v2 (v3 + 1)
                else none
              else
                bif j_in ((v2 + 257) + v3) (ln 203) then
                st1 (sI c 203 ((v2 + 257) + v3).toNatClampNeg 48) fun c3 =>
                f_X12_writeBlock_126 N p1 n c3 v2 (v3 + 1)
                else none
noncomputable def f_X12_writeBlock_43 (N : Nat) (p1 : Int32) (c : hS) (v2 : Int32) (w0 : Int32) (w1 : Int32) : Option (Unit × hS) :=
  bnd (f_X12_octalAt N c w1 w0 7) fun _ c1 =>
  bnd (f_X12_octalAt N c1 (v2 + 108) 0 7) fun _ c2 =>
  bnd (f_X12_octalAt N c2 (v2 + 116) 0 7) fun _ c3 =>
  bif j_in p1 (ln 206) then
  bnd (f_X12_octalAt N c3 (v2 + 124) (c3.1 206 p1.toNatClampNeg) 11) fun _ c4 =>
  bnd (f_X12_octalAt N c4 (v2 + 136) 0 11) fun _ c5 =>
  bif j_in p1 (ln 208) then
  if c5.1 208 p1.toNatClampNeg = 0 then
    bif j_in (v2 + 156) (ln 203) then
    st1 (sI c5 203 (v2 + 156).toNatClampNeg 48) fun c6 =>
    f_X12_writeBlock_126 N p1 N c6 v2 0
    else none
  else
    bif j_in (v2 + 156) (ln 203) then
    st1 (sI c5 203 (v2 + 156).toNatClampNeg 53) fun c7 =>
    f_X12_writeBlock_126 N p1 N c7 v2 0
    else none
  else none
  else none
noncomputable def f_X12_writeBlock (N : Nat) (c : hS) (p1 : Int32) : Option (Unit × hS) :=
  bnd (f_X12_putName N c p1 1) fun _ c1 =>
  bnd (f_X12_putZeros N c1 ((c.1 201 4) + 512)) fun _ c2 =>
  bif j_in p1 (ln 208) then
  if c2.1 208 p1.toNatClampNeg = 0 then
    f_X12_writeBlock_43 N p1 c2 (c.1 201 4) 420 ((c.1 201 4) + 100)
  else
    f_X12_writeBlock_43 N p1 c2 (c.1 201 4) 493 ((c.1 201 4) + 100)
  else none
noncomputable def f_X12_putHex_3 (N : Nat) (p1 : Int32) : Nat → hS → Int32 → Option (Unit × hS)
  | 0, _, _ => none
  | n + 1, c, v2 =>
  if v2 < 0 then
    some ((), c)
  else
    if 10 ≤ ((j_shr p1 v2) &&& 15) then
      bnd (f_X12_put c (87 + ((j_shr p1 v2) &&& 15))) fun _ c1 =>
      f_X12_putHex_3 N p1 n c1 (v2 + (-4))
    else
      bnd (f_X12_put c (48 + ((j_shr p1 v2) &&& 15))) fun _ c2 =>
      f_X12_putHex_3 N p1 n c2 (v2 + (-4))
noncomputable def f_X12_putHex (N : Nat) (c : hS) (p1 : Int32) : Option (Unit × hS) :=
  f_X12_putHex_3 N p1 N c 28
noncomputable def f_X12_putDigitsHead_93 (N : Nat) (p1 : Int32) (p2 : Int32) (p3 : Int32) (p4 : Int32) : Nat → hS → Int32 → Option (Unit × hS)
  | 0, _, _ => none
  | n + 1, c, v5 =>
  if 4 ≤ v5 then
    bnd (f_X12_putHex N c p4) fun _ c1 =>
    bnd (f_X12_putHex N c1 0) fun _ c2 =>
    some ((), c2)
  else
    bnd (f_X12_putHex N c 0) fun _ c3 =>
    f_X12_putDigitsHead_93 N p1 p2 p3 p4 n c3 (v5 + 1)
noncomputable def f_X12_putDigitsHead_68 (N : Nat) (p1 : Int32) (p2 : Int32) (p3 : Int32) (p4 : Int32) : Nat → hS → Int32 → Option (Unit × hS)
  | 0, _, _ => none
  | n + 1, c, v5 =>
  if 3 ≤ v5 then
    bnd (f_X12_putHex N c p3) fun _ c1 =>
    f_X12_putDigitsHead_93 N p1 p2 p3 p4 N c1 0
  else
    bnd (f_X12_putHex N c 0) fun _ c2 =>
    f_X12_putDigitsHead_68 N p1 p2 p3 p4 n c2 (v5 + 1)
noncomputable def f_X12_putDigitsHead_3 (N : Nat) (p1 : Int32) (p2 : Int32) (p3 : Int32) (p4 : Int32) : Nat → hS → Int32 → Option (Unit × hS)
  | 0, _, _ => none
  | n + 1, c, v5 =>
  if 6 ≤ v5 then
    bnd (f_X12_putHex N c p1) fun _ c1 =>
    bnd (f_X12_putHex N c1 p2) fun _ c2 =>
    bnd (f_X12_putHex N c2 1) fun _ c3 =>
    f_X12_putDigitsHead_68 N p1 p2 p3 p4 N c3 0
  else
    if v5 = 1 then
      bnd (f_X12_put c 55) fun _ c4 =>
      f_X12_putDigitsHead_3 N p1 p2 p3 p4 n c4 (v5 + 1)
    else
      if v5 = 3 then
        bnd (f_X12_put c 55) fun _ c7 =>
        f_X12_putDigitsHead_3 N p1 p2 p3 p4 n c7 (v5 + 1)
      else
        if v5 = 5 then
          bnd (f_X12_put c 49) fun _ c6 =>
          f_X12_putDigitsHead_3 N p1 p2 p3 p4 n c6 (v5 + 1)
        else
          bnd (f_X12_put c 48) fun _ c5 =>
          f_X12_putDigitsHead_3 N p1 p2 p3 p4 n c5 (v5 + 1)
noncomputable def f_X12_putDigitsHead (N : Nat) (c : hS) (p1 : Int32) (p2 : Int32) (p3 : Int32) (p4 : Int32) : Option (Unit × hS) :=
  f_X12_putDigitsHead_3 N p1 p2 p3 p4 N c 0
noncomputable def f_X12_writeDigits_32 (N : Nat) (k2 : hS → Int32 → Option (Unit × hS)) (c : hS) (v1 : Int32) (w0 : Int32) (w1 : Int32) : Option (Unit × hS) :=
  bif j_in v1 (ln 206) then
  bif j_in v1 (ln 204) then
  bnd (f_X12_putDigitsHead N c w1 w0 (c.1 206 v1.toNatClampNeg) ((c.1 204 v1.toNatClampNeg) + 1)) fun _ c1 =>
  bnd (f_X12_putName N c1 v1 0) fun _ c2 =>
  bnd (f_X12_put c2 0) fun _ c3 =>
  bnd (f_X12_upToFour c3 (c3.1 201 4)) fun x4 c5 =>
  bnd (f_X12_putZeros N c5 x4) fun _ c6 =>
  bnd (f_X12_putBytes N c6 v1) fun _ c7 =>
  bnd (f_X12_upToFour c7 (c7.1 201 4)) fun x8 c9 =>
  bnd (f_X12_putZeros N c9 x8) fun _ c10 =>
  k2 c10 (v1 + 1)
  else none
  else none
noncomputable def f_X12_writeDigits_104 (N : Nat) : Nat → hS → Int32 → Option (Unit × hS)
  | 0, _, _ => none
  | n + 1, c, v1 =>
  if 10 ≤ v1 then
    bnd (f_X12_put c 0) fun _ c1 =>
    bnd (f_X12_upToFour c1 (c1.1 201 4)) fun x2 c3 =>
    bnd (f_X12_putZeros N c3 x2) fun _ c4 =>
    some ((), c4)
  else
    bnd (f_X12_trailerAt c v1) fun x5 c6 =>
    bnd (f_X12_put c6 x5) fun _ c7 =>
    f_X12_writeDigits_104 N n c7 (v1 + 1)
noncomputable def f_X12_writeDigits_2 (N : Nat) : Nat → hS → Int32 → Option (Unit × hS)
  | 0, _, _ => none
  | n + 1, c, v1 =>
  if c.1 201 7 ≤ v1 then
    bnd (f_X12_putDigitsHead N c 0 0 0 11) fun _ c1 =>
    f_X12_writeDigits_104 N N c1 0
  else
    bif j_in v1 (ln 208) then
    if c.1 208 v1.toNatClampNeg = 0 then
      f_X12_writeDigits_32 N (f_X12_writeDigits_2 N n) c v1 33188 (v1 + 1)
    else
      f_X12_writeDigits_32 N (f_X12_writeDigits_2 N n) c v1 16877 (v1 + 1)
    else none
noncomputable def f_X12_writeDigits (N : Nat) (c : hS) : Option (Unit × hS) :=
  f_X12_writeDigits_2 N N c 0
noncomputable def f_X12_putTwo (c : hS) (p1 : Int32) : Option (Unit × hS) :=
  bnd (f_X12_put c p1) fun _ c1 =>
  bnd (f_X12_put c1 (j_shr p1 8)) fun _ c2 =>
  some ((), c2)
noncomputable def f_X12_putFour (c : hS) (p1 : Int32) : Option (Unit × hS) :=
  bnd (f_X12_putTwo c p1) fun _ c1 =>
  bnd (f_X12_putTwo c1 (j_shr p1 16)) fun _ c2 =>
  some ((), c2)
noncomputable def f_X12_checkOf_4 (N : Nat) (p1 : Int32) : Nat → hS → Int32 → Int32 → Option (Int32 × hS)
  | 0, _, _, _ => none
  | n + 1, c, v2, v3 =>
  bif j_in p1 (ln 206) then
  if c.1 206 p1.toNatClampNeg ≤ v3 then
    some ((v2 ^^^ (-1)), c)
  else
    bif j_in ((400 * p1) + v3) (ln 207) then
    bnd (f_X12_checkMore N c v2 (c.1 207 ((400 * p1) + v3).toNatClampNeg)) fun x1 c2 =>
    f_X12_checkOf_4 N p1 n c2 x1 (v3 + 1)
    else none
  else none
noncomputable def f_X12_checkOf (N : Nat) (c : hS) (p1 : Int32) : Option (Int32 × hS) :=
  f_X12_checkOf_4 N p1 N c (-1) 0
noncomputable def f_X12_namedSize (c : hS) (p1 : Int32) : Option (Int32 × hS) :=
  bif j_in p1 (ln 204) then
  bif j_in p1 (ln 208) then
  if c.1 208 p1.toNatClampNeg = 0 then
    some (((c.1 204 p1.toNatClampNeg) + 0), c)
  else
    some (((c.1 204 p1.toNatClampNeg) + 1), c)
  else none
  else none
noncomputable def f_X12_fourInto_2 (N : Nat) (p1 : Int32) (p2 : Int32) : Nat → hS → Int32 → Option (Unit × hS)
  | 0, _, _ => none
  | n + 1, c, v3 =>
  if 4 ≤ v3 then
    some ((), c)
  else
    bif j_in (p1 + v3) (ln 203) then
    st1 (sI c 203 (p1 + v3).toNatClampNeg ((j_shr p2 (8 * v3)) &&& 255)) fun c1 =>
    f_X12_fourInto_2 N p1 p2 n c1 (v3 + 1)
    else none
noncomputable def f_X12_fourInto (N : Nat) (c : hS) (p1 : Int32) (p2 : Int32) : Option (Unit × hS) :=
  f_X12_fourInto_2 N p1 p2 N c 0
noncomputable def f_X12_writeLocal_212 (N : Nat) (p1 : Int32) (p2 : Int32) (c : hS) (v3 : Int32) (v4 : Int32) : Option (Unit × hS) :=
  bif j_in p1 (ln 218) then
  st1 (sI c 218 p1.toNatClampNeg ((c.1 201 4) - v4)) fun c1 =>
  bif j_in p1 (ln 218) then
  bnd (f_X12_fourInto N c1 (v3 + 18) (c1.1 218 p1.toNatClampNeg)) fun _ c2 =>
  some ((), c2)
  else none
  else none
noncomputable def f_X12_writeLocal_165 (N : Nat) (p1 : Int32) (p2 : Int32) : Nat → hS → Int32 → Int32 → Int32 → Option (Unit × hS)
  | 0, _, _, _, _ => none
  | n + 1, c, v3, v4, v5 =>
  if c.1 201 32 ≤ v5 then
    bnd (f_X12_putPacked N c) fun _ c1 =>
    f_X12_writeLocal_212 N p1 p2 c1 v3 v4
  else
    bif j_in ((400 * p1) + v5) (ln 207) then
    bif j_in v5 (ln 215) then
    st1 (sI c 215 v5.toNatClampNeg (c.1 207 ((400 * p1) + v5).toNatClampNeg)) fun c2 =>
    f_X12_writeLocal_165 N p1 p2 n c2 v3 v4 (v5 + 1)
    else none
    else none
noncomputable def f_X12_writeLocal_36 (N : Nat) (p1 : Int32) (p2 : Int32) (c : hS) (v3 : Int32) (w0 : Int32) (w1 : Int32) : Option (Unit × hS) :=
  bif j_in w1 (ln 217) then
  st1 (sI c 217 w1.toNatClampNeg w0) fun c1 =>
  bnd (f_X12_put c1 80) fun _ c2 =>
  bnd (f_X12_put c2 75) fun _ c3 =>
  bnd (f_X12_put c3 3) fun _ c4 =>
  bnd (f_X12_put c4 4) fun _ c5 =>
  bnd (f_X12_putTwo c5 20) fun _ c6 =>
  bnd (f_X12_putTwo c6 0) fun _ c7 =>
  bif j_in p1 (ln 217) then
  bnd (f_X12_putTwo c7 (c7.1 217 p1.toNatClampNeg)) fun _ c8 =>
  bnd (f_X12_putTwo c8 0) fun _ c9 =>
  bnd (f_X12_putTwo c9 33) fun _ c10 =>
  bnd (f_X12_checkOf N c10 p1) fun x11 c12 =>
  bnd (f_X12_putFour c12 x11) fun _ c13 =>
  bnd (f_X12_putFour c13 0) fun _ c14 =>
  bif j_in p1 (ln 206) then
  bnd (f_X12_putFour c14 (c14.1 206 p1.toNatClampNeg)) fun _ c15 =>
  bnd (f_X12_namedSize c15 p1) fun x16 c17 =>
  bnd (f_X12_putTwo c17 x16) fun _ c18 =>
  bnd (f_X12_putTwo c18 0) fun _ c19 =>
  bnd (f_X12_putName N c19 p1 1) fun _ c20 =>
  bif j_in p1 (ln 217) then
  if c20.1 217 p1.toNatClampNeg = 8 then
    bif j_in p1 (ln 206) then
    st1 (sI c20 201 32 (c20.1 206 p1.toNatClampNeg)) fun c22 =>
    f_X12_writeLocal_165 N p1 p2 N c22 v3 (c20.1 201 4) 0
    else none
  else
    bnd (f_X12_putBytes N c20 p1) fun _ c21 =>
    f_X12_writeLocal_212 N p1 p2 c21 v3 (c20.1 201 4)
  else none
  else none
  else none
  else none
noncomputable def f_X12_writeLocal_35 (N : Nat) (p1 : Int32) (p2 : Int32) (c : hS) (v3 : Int32) (w0 : Int32) : Option (Unit × hS) :=
  f_X12_writeLocal_36 N p1 p2 c v3 0 w0
noncomputable def f_X12_writeLocal (N : Nat) (c : hS) (p1 : Int32) (p2 : Int32) : Option (Unit × hS) :=
  bif j_in p1 (ln 216) then
  st1 (sI c 216 p1.toNatClampNeg (c.1 201 4)) fun c1 =>
  if p2 = 0 then
    f_X12_writeLocal_35 N p1 p2 c1 (c.1 201 4) p1
  else
    bif j_in p1 (ln 206) then
    if c1.1 206 p1.toNatClampNeg ≤ 0 then
      f_X12_writeLocal_35 N p1 p2 c1 (c.1 201 4) p1
    else
      f_X12_writeLocal_36 N p1 p2 c1 (c.1 201 4) 8 p1
    else none
  else none
noncomputable def f_X12_writeEntry_100 (N : Nat) (p1 : Int32) : Nat → hS → Int32 → Option (Unit × hS)
  | 0, _, _ => none
  | n + 1, c, v2 =>
  if 4 ≤ v2 then
    bnd (f_X12_putFour c 0) fun _ c1 =>
    bif j_in p1 (ln 216) then
    bnd (f_X12_putFour c1 (c1.1 216 p1.toNatClampNeg)) fun _ c2 =>
    bnd (f_X12_putName N c2 p1 1) fun _ c3 =>
    some ((), c3)
    else none
  else
    bnd (f_X12_putTwo c 0) fun _ c4 =>
    f_X12_writeEntry_100 N p1 n c4 (v2 + 1)
noncomputable def f_X12_writeEntry (N : Nat) (c : hS) (p1 : Int32) : Option (Unit × hS) :=
  bnd (f_X12_put c 80) fun _ c1 =>
  bnd (f_X12_put c1 75) fun _ c2 =>
  bnd (f_X12_put c2 1) fun _ c3 =>
  bnd (f_X12_put c3 2) fun _ c4 =>
  bnd (f_X12_putTwo c4 20) fun _ c5 =>
  bnd (f_X12_putTwo c5 20) fun _ c6 =>
  bnd (f_X12_putTwo c6 0) fun _ c7 =>
  bif j_in p1 (ln 217) then
  bnd (f_X12_putTwo c7 (c7.1 217 p1.toNatClampNeg)) fun _ c8 =>
  bnd (f_X12_putTwo c8 0) fun _ c9 =>
  bnd (f_X12_putTwo c9 33) fun _ c10 =>
  bnd (f_X12_checkOf N c10 p1) fun x11 c12 =>
  bnd (f_X12_putFour c12 x11) fun _ c13 =>
  bif j_in p1 (ln 218) then
  bnd (f_X12_putFour c13 (c13.1 218 p1.toNatClampNeg)) fun _ c14 =>
  bif j_in p1 (ln 206) then
  bnd (f_X12_putFour c14 (c14.1 206 p1.toNatClampNeg)) fun _ c15 =>
  bnd (f_X12_namedSize c15 p1) fun x16 c17 =>
  bnd (f_X12_putTwo c17 x16) fun _ c18 =>
  f_X12_writeEntry_100 N p1 N c18 0
  else none
  else none
  else none
noncomputable def f_X12_writeDirectory_29 (N : Nat) (p1 : Int32) : Nat → hS → Int32 → Int32 → Option (Unit × hS)
  | 0, _, _, _ => none
  | n + 1, c, v2, v3 =>
  if c.1 201 7 ≤ v3 then
    bnd (f_X12_put c 80) fun _ c1 =>
    bnd (f_X12_put c1 75) fun _ c2 =>
    bnd (f_X12_put c2 5) fun _ c3 =>
    bnd (f_X12_put c3 6) fun _ c4 =>
    bnd (f_X12_putTwo c4 0) fun _ c5 =>
    bnd (f_X12_putTwo c5 0) fun _ c6 =>
    bnd (f_X12_putTwo c6 (c6.1 201 7)) fun _ c7 =>
    bnd (f_X12_putTwo c7 (c7.1 201 7)) fun _ c8 =>
    bnd (f_X12_putFour c8 ((c.1 201 4) - v2)) fun _ c9 =>
    bnd (f_X12_putFour c9 v2) fun _ c10 =>
    bnd (f_X12_putTwo c10 0) fun _ c11 =>
    some ((), c11)
  else
    bnd (f_X12_writeEntry N c v3) fun _ c12 =>
    f_X12_writeDirectory_29 N p1 n c12 v2 (v3 + 1)
noncomputable def f_X12_writeDirectory_2 (N : Nat) (p1 : Int32) : Nat → hS → Int32 → Option (Unit × hS)
  | 0, _, _ => none
  | n + 1, c, v2 =>
  if c.1 201 7 ≤ v2 then
    f_X12_writeDirectory_29 N p1 N c (c.1 201 4) 0
  else
    bnd (f_X12_writeLocal N c v2 p1) fun _ c1 =>
    f_X12_writeDirectory_2 N p1 n c1 (v2 + 1)
noncomputable def f_X12_writeDirectory (N : Nat) (c : hS) (p1 : Int32) : Option (Unit × hS) :=
  f_X12_writeDirectory_2 N p1 N c 0
noncomputable def f_X12_write_43 (N : Nat) (p1 : Int32) (p2 : Int32) : Nat → hS → Int32 → Option (Int32 × hS)
  | 0, _, _ => none
  | n + 1, c, v3 =>
  if c.1 201 7 ≤ v3 then
    bnd (f_X12_putZeros N c ((c.1 201 4) + 1024)) fun _ c1 =>
    some (c1.1 201 4, c1)
  else
    bnd (f_X12_writeBlock N c v3) fun _ c2 =>
    f_X12_write_43 N p1 p2 n c2 (v3 + 1)
noncomputable def f_X12_write_23 (N : Nat) (p1 : Int32) (p2 : Int32) (c : hS) (w0 : Int32) : Option (Int32 × hS) :=
  bnd (f_X12_refuses c w0 1) fun x1 c2 =>
  if x1 = 0 then
    st1 (sI c2 201 4 0) fun c3 =>
    if p1 = 0 then
      f_X12_write_43 N p1 p2 N c3 0
    else
      if p1 = 1 then
        bnd (f_X12_writeDigits N c3) fun _ c5 =>
        some (c5.1 201 4, c5)
      else
        bnd (f_X12_writeDirectory N c3 p2) fun _ c4 =>
        some (c4.1 201 4, c4)
  else
    some (0, c2)
noncomputable def f_X12_write (N : Nat) (c : hS) (p1 : Int32) (p2 : Int32) : Option (Int32 × hS) :=
  st1 (sI c 201 0 0) fun c1 =>
  bnd (f_X12_in c1 p1.toInt64 0 2) fun x2 c3 =>
  if x2 = 0 then
    f_X12_write_23 N p1 p2 c3 1
  else
    f_X12_write_23 N p1 p2 c3 0
end
