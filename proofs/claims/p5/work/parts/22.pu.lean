/-! THE STATE AS DATA: ints, longs, references that may change, by object and slot -/
noncomputable abbrev hS : Type := (Nat → Nat → Int32) × (Nat → Nat → Int64) × (Nat → Nat → Nat)
noncomputable def sI (c : hS) (o j : Nat) (x : Int32) : hS := (fun a b => if a = o ∧ b = j then x else c.1 a b, c.2.1, c.2.2)
noncomputable def sJ (c : hS) (o j : Nat) (x : Int64) : hS := (c.1, fun a b => if a = o ∧ b = j then x else c.2.1 a b, c.2.2)
noncomputable def sR (c : hS) (o j : Nat) (x : Nat) : hS := (c.1, c.2.1, fun a b => if a = o ∧ b = j then x else c.2.2 a b)
noncomputable def bnd {α β : Type} (x : Option (α × hS)) (f : α → hS → Option β) : Option β := match x with
  | some (a, c) => f a c
  | none => none
theorem bnd_some {α β : Type} (a : α) (c : hS) (f : α → hS → Option β) : bnd (some (a, c)) f = f a c := rfl
theorem bnd_none {α β : Type} (f : α → hS → Option β) : bnd none f = none := rfl
noncomputable def j_in (i : Int32) (n : Nat) : Bool := !decide (i < 0) && Nat.blt i.toNatClampNeg n
noncomputable def j_shl (x y : Int32) : Int32 := x <<< (y &&& 31)
noncomputable def j_shr (x y : Int32) : Int32 := x >>> (y &&& 31)
noncomputable def j_ushr (x y : Int32) : Int32 := (x.toUInt32 >>> (y.toUInt32 &&& Int32.toUInt32 31)).toInt32
noncomputable def j_rem (x y : Int32) : Int32 := x - x / y * y
noncomputable def j_lshl (x : Int64) (y : Int32) : Int64 := x <<< (y.toInt64 &&& 63)
noncomputable def j_lshr (x : Int64) (y : Int32) : Int64 := x >>> (y.toInt64 &&& 63)
noncomputable def j_lushr (x : Int64) (y : Int32) : Int64 := (x.toUInt64 >>> (y.toInt64.toUInt64 &&& Int64.toUInt64 63)).toInt64
noncomputable def j_cmp (x y : Int64) : Int32 := if x > y then 1 else if x = y then 0 else -1
noncomputable def j_min (x y : Int32) : Int32 := if y < x then y else x
noncomputable def j_max (x y : Int32) : Int32 := if x < y then y else x
noncomputable def j_z (x : Int32) : Int32 := x &&& 1
noncomputable def j_b (x : Int32) : Bool := decide (x = 0) || decide (x = 1)
/-- the kinds of the class's objects and rows -/
noncomputable def kcl : List Nat := [10, 1, 20, 1, 20, 1, 20, 1, 20, 5, 7, 9, 2, 20, 20, 20, 2, 20, 20, 20, 2, 20, 20, 20, 2, 20, 20, 20, 2, 20, 20, 20, 20, 23, 0, 3, 4, 8, 24, 6, 1, 20, 1, 20, 6, 1, 20, 1, 20, 6, 1, 20, 1, 20, 6, 1, 20, 1, 20, 6, 1, 20, 1, 20, 6, 1, 20, 1, 20, 6, 1, 20, 1, 20, 6, 1, 20, 1, 20, 6, 1, 20, 1, 20, 6, 1, 20, 1, 20, 6, 1, 20, 1, 20, 6, 1, 20, 1, 20, 6, 1, 20, 1, 20, 6, 1, 20, 1, 20, 6, 1, 20, 1, 20, 6, 1, 20, 1, 20, 8, 24, 6, 1, 20, 1, 20, 6, 1, 20, 1, 20, 6, 1, 20, 1, 20, 6, 1, 20, 1, 20, 6, 1, 20, 1, 20, 6, 1, 20, 1, 20, 6, 1, 20, 1, 20, 6, 1, 20, 1, 20, 6, 1, 20, 1, 20, 6, 1, 20, 1, 20, 6, 1, 20, 1, 20, 6, 1, 20, 1, 20, 6, 1, 20, 1, 20, 6, 1, 20, 1, 20, 6, 1, 20, 1, 20, 6, 1, 20, 1, 20]
noncomputable def kc (o : Nat) : Nat := kcl.getD o 99
/-- the kinds of the reference's and of the law's row -/
noncomputable def kml : List Nat := [11, 20, 20, 20, 20, 20, 20, 22, 20, 20, 20, 20, 20, 20, 20, 20, 20, 20, 21]
noncomputable def km (o : Nat) : Nat := bif Nat.blt o 201 then 99 else kml.getD (o - 201) 99
/-- how long the rows are -/
noncomputable def lnl : List Nat := [0, 0, 512, 0, 20000, 0, 256, 0, 512, 0, 0, 0, 0, 16, 16, 288, 0, 16, 16, 32, 0, 16, 16, 288, 0, 16, 16, 32, 0, 16, 16, 19, 320, 3, 0, 0, 0, 0, 16, 0, 0, 90, 0, 400, 0, 0, 90, 0, 400, 0, 0, 90, 0, 400, 0, 0, 90, 0, 400, 0, 0, 90, 0, 400, 0, 0, 90, 0, 400, 0, 0, 90, 0, 400, 0, 0, 90, 0, 400, 0, 0, 90, 0, 400, 0, 0, 90, 0, 400, 0, 0, 90, 0, 400, 0, 0, 90, 0, 400, 0, 0, 90, 0, 400, 0, 0, 90, 0, 400, 0, 0, 90, 0, 400, 0, 0, 90, 0, 400, 0, 16, 0, 0, 90, 0, 400, 0, 0, 90, 0, 400, 0, 0, 90, 0, 400, 0, 0, 90, 0, 400, 0, 0, 90, 0, 400, 0, 0, 90, 0, 400, 0, 0, 90, 0, 400, 0, 0, 90, 0, 400, 0, 0, 90, 0, 400, 0, 0, 90, 0, 400, 0, 0, 90, 0, 400, 0, 0, 90, 0, 400, 0, 0, 90, 0, 400, 0, 0, 90, 0, 400, 0, 0, 90, 0, 400, 0, 0, 90, 0, 400, 0, 512, 20000, 34, 3060, 34, 13600, 34, 300, 600, 512, 360, 360, 330, 512, 16, 16, 16, 1]
noncomputable def ln (o : Nat) : Nat := lnl.getD o 0
noncomputable def st1 {β : Type} (c : hS) (f : hS → Option β) : Option β := f c
noncomputable def opt {β : Type} (x : Option Nat) (a : Option β) (f : Nat → Option β) : Option β := match x with
  | none => a
  | some y => f y
/-- the static rows and the texts -/
noncomputable def sa0 : List Int32 := [16, 17, 18, 0, 8, 7, 9, 6, 10, 5, 11, 4, 12, 3, 13, 2, 14, 1, 15]
noncomputable def sa1 : List Int32 := [117, 115, 116, 97, 114, 0, 48, 48]
noncomputable def sa2 : List Int32 := [48, 55, 48, 55, 48, 49]
noncomputable def sa3 : List Int32 := [80, 75, 3, 4]
noncomputable def sa4 : List Int32 := [80, 75, 1, 2]
noncomputable def sa5 : List Int32 := [80, 75, 5, 6]
noncomputable def sa6 : List Int32 := [6, 8, 14, 18, 22, 26]
noncomputable def sa7 : List Int32 := [2, 2, 4, 4, 4, 2]
noncomputable def tx15 : List Int32 := [48, 48, 48, 48, 55, 53, 53]
noncomputable def tx16 : List Int32 := [48, 48, 48, 48, 54, 52, 52]
noncomputable def tx17 : List Int32 := [48, 48, 48, 48, 48, 48, 48]
noncomputable def tx18 : List Int32 := [48, 48, 48, 48, 48, 48]
noncomputable def tx19 : List Int32 := [84, 82, 65, 73, 76, 69, 82, 33, 33, 33]
