/-! THE METHODS AS FUNCTIONS, printed by gen_l1.py -/
noncomputable def f_X11_checkOf_22 (N : Nat) (p0 : Nat) (k4 : hS → Int32 → Int32 → Option (Int32 × hS)) : Nat → hS → Int32 → Int32 → Int32 → Option (Int32 × hS)
  | 0, _, _, _, _ => none
  | n + 1, c, v1, v2, v3 =>
  if 8 ≤ v3 then
    k4 c v1 (v2 + 1)
  else
    if (v1 &&& 1) = 1 then
      f_X11_checkOf_22 N p0 k4 n c ((j_ushr v1 1) ^^^ (-306674912)) v2 (v3 + 1)
    else
      f_X11_checkOf_22 N p0 k4 n c (j_ushr v1 1) v2 (v3 + 1)
noncomputable def f_X11_checkOf_4 (N : Nat) (p0 : Nat) : Nat → hS → Int32 → Int32 → Option (Int32 × hS)
  | 0, _, _, _ => none
  | n + 1, c, v1, v2 =>
  bnd (f_X2_size c p0) fun x1 c2 =>
  if x1 ≤ v2 then
    some ((v1 ^^^ (-1)), c2)
  else
    bnd (f_X2_get c2 p0 v2) fun x3 c4 =>
    f_X11_checkOf_22 N p0 (f_X11_checkOf_4 N p0 n) N c4 (v1 ^^^ x3) v2 0
noncomputable def f_X11_checkOf (N : Nat) (c : hS) (p0 : Nat) : Option (Int32 × hS) :=
  f_X11_checkOf_4 N p0 N c (-1) 0
noncomputable def f_X5_isBody (N : Nat) (c : hS) (p1 : Int32) : Option (Int32 × hS) :=
  bnd (f_X2_size c 7) fun x1 c2 =>
  if x1 = c2.1 36 12 then
    bnd (f_X11_checkOf N c2 7) fun x3 c4 =>
    bnd (f_X2_little N c4 3 (p1 + 16) 4) fun x5 c6 =>
    if x3 = x5.toInt32 then
      some (1, c6)
    else
      bnd (f_X6_tell c6 4 (p1 + 16)) fun x7 c8 =>
      if x7 = 0 then
        some (0, c8)
      else
        some (1, c8)
  else
    bnd (f_X6_tell c2 14 (p1 + 24)) fun x9 c10 =>
    bif j_b x9 then some (x9, c10) else none
noncomputable def f_X5_isZero (N : Nat) (c : hS) (p1 : Int32) (p2 : Int32) (p3 : Int32) : Option (Int32 × hS) :=
  bnd (f_X2_little N c 3 p1 p2) fun x1 c2 =>
  if j_cmp x1 0 = 0 then
    some (1, c2)
  else
    bnd (f_X6_tell c2 p3 p1) fun x3 c4 =>
    if x3 = 0 then
      some (0, c4)
    else
      some (1, c4)
noncomputable def f_X5_isClosing (N : Nat) (c : hS) : Option (Int32 × hS) :=
  bnd (f_X2_size c 3) fun x1 c2 =>
  st1 (sI c2 36 6 (x1 - 22)) fun c3 =>
  if 0 ≤ c3.1 36 6 then
    bnd (f_X0_isMarked N c3 (c3.1 36 6) sa5 3) fun x4 c5 =>
    if x4 = 0 then
      some (0, c5)
    else
      bnd (f_X5_isZero N c5 ((c5.1 36 6) + 4) 2 6) fun x6 c7 =>
      if x6 = 0 then
        some (0, c7)
      else
        bnd (f_X5_isZero N c7 ((c7.1 36 6) + 6) 2 6) fun x8 c9 =>
        if x8 = 0 then
          some (0, c9)
        else
          bnd (f_X2_little N c9 3 ((c9.1 36 6) + 8) 2) fun x10 c11 =>
          bnd (f_X2_little N c11 3 ((c11.1 36 6) + 10) 2) fun x12 c13 =>
          if j_cmp x10 x12 = 0 then
            bnd (f_X2_little N c13 3 ((c13.1 36 6) + 10) 2) fun x14 c15 =>
            if j_cmp x14 16 ≤ 0 then
              bnd (f_X2_little N c15 3 ((c15.1 36 6) + 16) 4) fun x16 c17 =>
              bnd (f_X2_little N c17 3 ((c17.1 36 6) + 12) 4) fun x18 c19 =>
              if j_cmp (x18 + x16) ((c19.1 36 6).toInt64) = 0 then
                st1 (sI c19 36 7 x16.toInt32) fun c20 =>
                bnd (f_X5_isZero N c20 ((c20.1 36 6) + 20) 2 6) fun x21 c22 =>
                bif j_b x21 then some (x21, c22) else none
              else
                bnd (f_X6_tell c19 12 ((c19.1 36 6) + 12)) fun x23 c24 =>
                bif j_b x23 then some (x23, c24) else none
            else
              bnd (f_X6_tell c15 11 ((c15.1 36 6) + 10)) fun x25 c26 =>
              bif j_b x25 then some (x25, c26) else none
          else
            bnd (f_X6_tell c13 6 ((c13.1 36 6) + 8)) fun x27 c28 =>
            bif j_b x27 then some (x27, c28) else none
  else
    bnd (f_X2_size c3 3) fun x29 c30 =>
    bnd (f_X6_tell c30 1 x29) fun x31 c32 =>
    bif j_b x31 then some (x31, c32) else none
noncomputable def f_X5_isEntry_132 (N : Nat) (p1 : Int32) (c : hS) : Option (Int32 × hS) :=
  bnd (f_X5_isZero N c (p1 + 34) 2 6) fun x1 c2 =>
  if x1 = 0 then
    some (0, c2)
  else
    bnd (f_X2_little N c2 3 (p1 + 28) 2) fun x3 c4 =>
    st1 (sI c4 36 9 x3.toInt32) fun c5 =>
    bnd (f_X2_little N c5 3 (p1 + 30) 2) fun x6 c7 =>
    bnd (f_X2_little N c7 3 (p1 + 32) 2) fun x8 c9 =>
    st1 (sI c9 36 10 ((((p1 + 46) + (c5.1 36 9)) + x6.toInt32) + x8.toInt32)) fun c10 =>
    if c10.1 36 10 ≤ c10.1 36 6 then
      some (1, c10)
    else
      bnd (f_X6_tell c10 12 p1) fun x11 c12 =>
      if x11 = 0 then
        some (0, c12)
      else
        some (1, c12)
noncomputable def f_X5_isEntry (N : Nat) (c : hS) (p1 : Int32) : Option (Int32 × hS) :=
  if (p1 + 46) ≤ c.1 36 6 then
    bnd (f_X0_isMarked N c p1 sa4 3) fun x1 c2 =>
    if x1 = 0 then
      some (0, c2)
    else
      bnd (f_X2_little N c2 3 (p1 + 6) 2) fun x3 c4 =>
      if j_cmp x3 20 ≤ 0 then
        bnd (f_X5_isZero N c4 (p1 + 8) 2 6) fun x5 c6 =>
        if x5 = 0 then
          some (0, c6)
        else
          bnd (f_X2_little N c6 3 (p1 + 10) 2) fun x7 c8 =>
          st1 (sI c8 36 8 x7.toInt32) fun c9 =>
          if c9.1 36 8 = 0 then
            f_X5_isEntry_132 N p1 c9
          else
            if c9.1 36 8 = 8 then
              f_X5_isEntry_132 N p1 c9
            else
              bnd (f_X6_tell c9 8 (p1 + 10)) fun x10 c11 =>
              bif j_b x10 then some (x10, c11) else none
      else
        bnd (f_X6_tell c4 6 (p1 + 6)) fun x12 c13 =>
        bif j_b x12 then some (x12, c13) else none
  else
    bnd (f_X6_tell c 12 p1) fun x14 c15 =>
    bif j_b x14 then some (x14, c15) else none
noncomputable def f_X5_isSame_88 (N : Nat) (p1 : Int32) : Nat → hS → Int32 → Option (Int32 × hS)
  | 0, _, _ => none
  | n + 1, c, v2 =>
  if c.1 36 9 ≤ v2 then
    some (1, c)
  else
    bnd (f_X2_get c 3 (((c.1 36 13) + 30) + v2)) fun x1 c2 =>
    bnd (f_X2_get c2 3 ((p1 + 46) + v2)) fun x3 c4 =>
    if x1 = x3 then
      f_X5_isSame_88 N p1 n c4 (v2 + 1)
    else
      bnd (f_X6_tell c4 13 (((c4.1 36 13) + 30) + v2)) fun x5 c6 =>
      bif j_b x5 then some (x5, c6) else none
noncomputable def f_X5_isSame_2 (N : Nat) (p1 : Int32) : Nat → hS → Int32 → Option (Int32 × hS)
  | 0, _, _ => none
  | n + 1, c, v2 =>
  if (Int32.ofNat sa6.length) ≤ v2 then
    f_X5_isSame_88 N p1 N c 0
  else
    if (Int32.ofNat sa7.length) ≤ v2 then
      f_X5_isSame_88 N p1 N c 0
    else
      bif j_in v2 sa6.length then
      bif j_in v2 sa7.length then
      bnd (f_X2_little N c 3 ((c.1 36 13) + (sa6.getD v2.toNatClampNeg 0)) (sa7.getD v2.toNatClampNeg 0)) fun x1 c2 =>
      bnd (f_X2_little N c2 3 ((p1 + (sa6.getD v2.toNatClampNeg 0)) + 2) (sa7.getD v2.toNatClampNeg 0)) fun x3 c4 =>
      if j_cmp x1 x3 = 0 then
        f_X5_isSame_2 N p1 n c4 (v2 + 1)
      else
        bnd (f_X6_tell c4 13 ((c4.1 36 13) + (sa6.getD v2.toNatClampNeg 0))) fun x5 c6 =>
        bif j_b x5 then some (x5, c6) else none
      else none
      else none
noncomputable def f_X5_isSame (N : Nat) (c : hS) (p1 : Int32) : Option (Int32 × hS) :=
  f_X5_isSame_2 N p1 N c 0
noncomputable def f_X5_isLocal (N : Nat) (c : hS) (p1 : Int32) : Option (Int32 × hS) :=
  bnd (f_X2_little N c 3 (p1 + 42) 4) fun x1 c2 =>
  if j_cmp (x1 + 30) ((c2.1 36 7).toInt64) ≤ 0 then
    st1 (sI c2 36 13 x1.toInt32) fun c3 =>
    bnd (f_X0_isMarked N c3 (c3.1 36 13) sa3 3) fun x4 c5 =>
    if x4 = 0 then
      some (0, c5)
    else
      bnd (f_X5_isSame N c5 p1) fun x6 c7 =>
      if x6 = 0 then
        some (0, c7)
      else
        bnd (f_X2_little N c7 3 ((c7.1 36 13) + 28) 2) fun x8 c9 =>
        st1 (sI c9 36 14 ((((c7.1 36 13) + 30) + (c7.1 36 9)) + x8.toInt32)) fun c10 =>
        bnd (f_X2_little N c10 3 (p1 + 20) 4) fun x11 c12 =>
        if j_cmp (((c10.1 36 14).toInt64) + x11) ((c12.1 36 7).toInt64) ≤ 0 then
          st1 (sI c12 36 15 ((((c10.1 36 14).toInt64) + x11).toInt32)) fun c13 =>
          some (1, c13)
        else
          bnd (f_X6_tell c12 12 (p1 + 42)) fun x14 c15 =>
          bif j_b x14 then some (x14, c15) else none
  else
    bnd (f_X6_tell c2 12 (p1 + 42)) fun x16 c17 =>
    bif j_b x16 then some (x16, c17) else none
noncomputable def f_X5_isMember_143 (N : Nat) (p1 : Int32) (c : hS) : Option (Int32 × hS) :=
  bnd (f_X2_little N c 3 (p1 + 24) 4) fun x1 c2 =>
  if j_cmp x1 400 ≤ 0 then
    st1 (sI c2 36 12 x1.toInt32) fun c3 =>
    if c3.1 36 8 = 0 then
      bnd (f_X2_little N c3 3 (p1 + 20) 4) fun x4 c5 =>
      if j_cmp x4 x1 = 0 then
        some (1, c5)
      else
        bnd (f_X6_tell c5 7 (p1 + 20)) fun x6 c7 =>
        if x6 = 0 then
          some (0, c7)
        else
          some (1, c7)
    else
      some (1, c3)
  else
    bnd (f_X6_tell c2 7 (p1 + 24)) fun x8 c9 =>
    bif j_b x8 then some (x8, c9) else none
noncomputable def f_X5_isMember_75 (N : Nat) (p1 : Int32) (c : hS) (w0 : Int32) (w1 : Int32) : Option (Int32 × hS) :=
  bnd (f_X2_addRow N c 5 3 w1 w0) fun _ c1 =>
  if c1.1 36 11 = 0 then
    f_X5_isMember_143 N p1 c1
  else
    bnd (f_X5_isZero N c1 (p1 + 10) 2 7) fun x2 c3 =>
    if x2 = 0 then
      some (0, c3)
    else
      bnd (f_X5_isZero N c3 (p1 + 16) 4 7) fun x4 c5 =>
      if x4 = 0 then
        some (0, c5)
      else
        bnd (f_X5_isZero N c5 (p1 + 20) 4 7) fun x6 c7 =>
        if x6 = 0 then
          some (0, c7)
        else
          bnd (f_X5_isZero N c7 (p1 + 24) 4 7) fun x8 c9 =>
          if x8 = 0 then
            some (0, c9)
          else
            f_X5_isMember_143 N p1 c9
noncomputable def f_X5_isMember_38 (N : Nat) (p1 : Int32) (c : hS) (v2 : Int32) (w0 : Int32) : Option (Int32 × hS) :=
  bif j_b w0 then
  st1 (sI c 36 11 w0) fun c1 =>
  bnd (f_X2_cutTo c1 5 0) fun _ c2 =>
  if c2.1 36 11 = 0 then
    f_X5_isMember_75 N p1 c2 (v2 + 1) (p1 + 46)
  else
    f_X5_isMember_75 N p1 c2 v2 (p1 + 46)
  else none
noncomputable def f_X5_isMember_37 (N : Nat) (p1 : Int32) (c : hS) (v2 : Int32) : Option (Int32 × hS) :=
  f_X5_isMember_38 N p1 c v2 0
noncomputable def f_X5_isMember (N : Nat) (c : hS) (p1 : Int32) : Option (Int32 × hS) :=
  if c.1 36 9 ≤ 0 then
    f_X5_isMember_37 N p1 c (((p1 + 46) + (c.1 36 9)) - 1)
  else
    bnd (f_X2_get c 3 (((p1 + 46) + (c.1 36 9)) - 1)) fun x1 c2 =>
    if x1 = 47 then
      f_X5_isMember_38 N p1 c2 (((p1 + 46) + (c.1 36 9)) - 1) 1
    else
      f_X5_isMember_37 N p1 c2 (((p1 + 46) + (c.1 36 9)) - 1)
noncomputable def f_X5_takeIn_138 (N : Nat) (p1 : Nat) (k34 : hS → Int32 → Int32 → Int32 → Option (Int32 × hS)) (c : hS) (v2 : Int32) (v3 : Int32) (v4 : Int32) : Option (Int32 × hS) :=
  bnd (f_X5_isBody N c v3) fun x1 c2 =>
  if x1 = 0 then
    some (0, c2)
  else
    bnd (f_X2_size c2 7) fun x3 c4 =>
    bnd (f_X0_arrives N c4 p1 (c2.1 36 11) 7 0 x3 v3) fun x5 c6 =>
    if x5 = 0 then
      some (0, c6)
    else
      k34 c6 v2 (c6.1 36 10) (v4 + 1)
noncomputable def f_X5_takeIn_34 (N : Nat) (p1 : Nat) : Nat → hS → Int32 → Int32 → Int32 → Option (Int32 × hS)
  | 0, _, _, _, _ => none
  | n + 1, c, v2, v3, v4 =>
  if v2 ≤ v4 then
    if v3 = c.1 36 6 then
      some (1, c)
    else
      bnd (f_X6_tell c 12 v3) fun x1 c2 =>
      if x1 = 0 then
        some (0, c2)
      else
        some (1, c2)
  else
    bnd (f_X5_isEntry N c v3) fun x3 c4 =>
    if x3 = 0 then
      some (0, c4)
    else
      bnd (f_X5_isMember N c4 v3) fun x5 c6 =>
      if x5 = 0 then
        some (0, c6)
      else
        bnd (f_X0_isNamed N c6 (v3 + 46)) fun x7 c8 =>
        if x7 = 0 then
          some (0, c8)
        else
          bnd (f_X5_isLocal N c8 v3) fun x9 c10 =>
          if x9 = 0 then
            some (0, c10)
          else
            if c10.1 36 8 = 0 then
              bnd (f_X2_cutTo c10 7 0) fun _ c13 =>
              bnd (f_X2_addRow N c13 7 3 (c13.1 36 14) (c13.1 36 15)) fun _ c14 =>
              f_X5_takeIn_138 N p1 (f_X5_takeIn_34 N p1 n) c14 v2 v3 v4
            else
              bnd (f_X10_open N c10 (c10.1 36 14) (c10.1 36 15) (c10.1 36 12)) fun x11 c12 =>
              if x11 = 0 then
                some (0, c12)
              else
                f_X5_takeIn_138 N p1 (f_X5_takeIn_34 N p1 n) c12 v2 v3 v4
noncomputable def f_X5_takeIn (N : Nat) (c : hS) (p1 : Nat) : Option (Int32 × hS) :=
  bnd (f_X5_isClosing N c) fun x1 c2 =>
  if x1 = 0 then
    some (0, c2)
  else
    bnd (f_X2_little N c2 3 ((c2.1 36 6) + 10) 2) fun x3 c4 =>
    f_X5_takeIn_34 N p1 N c4 x3.toInt32 (c4.1 36 7) 0
noncomputable def f_X5_titleBytes (c : hS) (p0 : Nat) : Option (Int32 × hS) :=
  bnd (f_X2_size c (p0 + 1)) fun x1 c2 =>
  if c2.1 p0 2 = 0 then
    some ((x1 + 0), c2)
  else
    some ((x1 + 1), c2)
noncomputable def f_X5_addEntries_13 (N : Nat) (p1 : Nat) : Nat → hS → Int32 → Int32 → Int32 → Option (Unit × hS)
  | 0, _, _, _, _ => none
  | n + 1, c, v2, v3, v4 =>
  bnd (f_X9_size c p1) fun x1 c2 =>
  if x1 ≤ v4 then
    bnd (f_X2_size c2 3) fun x3 c4 =>
    bnd (f_X2_addMark N c4 3 sa5) fun _ c5 =>
    bnd (f_X2_addZeros N c5 3 4) fun _ c6 =>
    bnd (f_X9_size c6 p1) fun x7 c8 =>
    bnd (f_X2_addLittle N c8 3 x7.toInt64 2) fun _ c9 =>
    bnd (f_X9_size c9 p1) fun x10 c11 =>
    bnd (f_X2_addLittle N c11 3 x10.toInt64 2) fun _ c12 =>
    bnd (f_X2_addLittle N c12 3 ((x3 - v2).toInt64) 4) fun _ c13 =>
    bnd (f_X2_addLittle N c13 3 v2.toInt64 4) fun _ c14 =>
    bnd (f_X2_addZeros N c14 3 2) fun _ c15 =>
    some ((), c15)
  else
    bnd (f_X9_member c2 p1 v4) fun x16 c17 =>
    opt x16 (
      f_X5_addEntries_13 N p1 n c17 v2 v3 (v4 + 1)) fun y18 =>
      bif Nat.beq (kc y18) 6 then
      bnd (f_X2_addMark N c17 3 sa4) fun _ c19 =>
      bnd (f_X2_addLittle N c19 3 20 2) fun _ c20 =>
      bnd (f_X2_addRow N c20 3 3 (v3 + 4) (v3 + 28)) fun _ c21 =>
      bnd (f_X2_addZeros N c21 3 12) fun _ c22 =>
      bnd (f_X2_addLittle N c22 3 v3.toInt64 4) fun _ c23 =>
      bnd (f_X0_addTitle N c23 y18 1) fun _ c24 =>
      bnd (f_X5_titleBytes c24 y18) fun x25 c26 =>
      bnd (f_X2_little N c26 3 (v3 + 18) 4) fun x27 c28 =>
      f_X5_addEntries_13 N p1 n c28 v2 (v3 + ((30 + x25) + x27.toInt32)) (v4 + 1)
      else none
noncomputable def f_X5_addEntries (N : Nat) (c : hS) (p1 : Nat) : Option (Unit × hS) :=
  bnd (f_X2_size c 3) fun x1 c2 =>
  f_X5_addEntries_13 N p1 N c2 x1 0 0
noncomputable def f_X5_addLocal (N : Nat) (c : hS) (p1 : Nat) (p2 : Int32) : Option (Unit × hS) :=
  bnd (f_X2_addMark N c 3 sa3) fun _ c1 =>
  bnd (f_X2_addLittle N c1 3 20 2) fun _ c2 =>
  bnd (f_X2_addLittle N c2 3 0 2) fun _ c3 =>
  bnd (f_X2_addLittle N c3 3 p2.toInt64 2) fun _ c4 =>
  bnd (f_X2_addLittle N c4 3 0 2) fun _ c5 =>
  bnd (f_X2_addLittle N c5 3 33 2) fun _ c6 =>
  bnd (f_X11_checkOf N c6 (p1 + 3)) fun x7 c8 =>
  bnd (f_X2_addLittle N c8 3 x7.toInt64 4) fun _ c9 =>
  bnd (f_X2_addLittle N c9 3 0 4) fun _ c10 =>
  bnd (f_X2_size c10 (p1 + 3)) fun x11 c12 =>
  bnd (f_X2_addLittle N c12 3 x11.toInt64 4) fun _ c13 =>
  bnd (f_X5_titleBytes c13 p1) fun x14 c15 =>
  bnd (f_X2_addLittle N c15 3 x14.toInt64 2) fun _ c16 =>
  bnd (f_X2_addLittle N c16 3 0 2) fun _ c17 =>
  bnd (f_X0_addTitle N c17 p1 1) fun _ c18 =>
  some ((), c18)
noncomputable def f_X5_setSize_2 (N : Nat) (p1 : Int32) (p2 : Int32) : Nat → hS → Int32 → Option (Unit × hS)
  | 0, _, _ => none
  | n + 1, c, v3 =>
  if 4 ≤ v3 then
    some ((), c)
  else
    bnd (f_X2_set c 3 ((p1 + 18) + v3) (j_ushr p2 (8 * v3))) fun _ c1 =>
    f_X5_setSize_2 N p1 p2 n c1 (v3 + 1)
noncomputable def f_X5_setSize (N : Nat) (c : hS) (p1 : Int32) (p2 : Int32) : Option (Unit × hS) :=
  f_X5_setSize_2 N p1 p2 N c 0
noncomputable def f_X8_addBits_2 (N : Nat) (p1 : Int32) (p2 : Int32) : Nat → hS → Int32 → Option (Unit × hS)
  | 0, _, _ => none
  | n + 1, c, v3 =>
  if p2 ≤ v3 then
    some ((), c)
  else
    st1 (sI c 10 1 ((c.1 10 1) ||| (j_shl ((j_shr p1 v3) &&& 1) (c.1 10 2)))) fun c1 =>
    st1 (sI c1 10 2 ((c1.1 10 2) + 1)) fun c2 =>
    if c2.1 10 2 = 8 then
      bnd (f_X2_add c2 3 (c2.1 10 1)) fun _ c3 =>
      st1 (sI c3 10 1 0) fun c4 =>
      st1 (sI c4 10 2 0) fun c5 =>
      f_X8_addBits_2 N p1 p2 n c5 (v3 + 1)
    else
      f_X8_addBits_2 N p1 p2 n c2 (v3 + 1)
noncomputable def f_X8_addBits (N : Nat) (c : hS) (p1 : Int32) (p2 : Int32) : Option (Unit × hS) :=
  f_X8_addBits_2 N p1 p2 N c 0
noncomputable def f_X8_addCode_4 (N : Nat) (p1 : Int32) (p2 : Int32) : Nat → hS → Int32 → Option (Unit × hS)
  | 0, _, _ => none
  | n + 1, c, v3 =>
  if v3 < 0 then
    some ((), c)
  else
    bnd (f_X8_addBits N c (j_shr p1 v3) 1) fun _ c1 =>
    f_X8_addCode_4 N p1 p2 n c1 (v3 + (-1))
noncomputable def f_X8_addCode (N : Nat) (c : hS) (p1 : Int32) (p2 : Int32) : Option (Unit × hS) :=
  f_X8_addCode_4 N p1 p2 N c (p2 - 1)
noncomputable def f_X8_addSymbol (N : Nat) (c : hS) (p1 : Int32) : Option (Unit × hS) :=
  if 144 ≤ p1 then
    if 256 ≤ p1 then
      if 280 ≤ p1 then
        bnd (f_X8_addCode N c ((192 + p1) - 280) 8) fun _ c1 =>
        some ((), c1)
      else
        bnd (f_X8_addCode N c (p1 - 256) 7) fun _ c2 =>
        some ((), c2)
    else
      bnd (f_X8_addCode N c ((400 + p1) - 144) 9) fun _ c3 =>
      some ((), c3)
  else
    bnd (f_X8_addCode N c (48 + p1) 8) fun _ c4 =>
    some ((), c4)
noncomputable def f_X8_distanceSymbol_3 (N : Nat) : Nat → hS → Int32 → Option (Int32 × hS)
  | 0, _, _ => none
  | n + 1, c, v1 =>
  if v1 ≤ 0 then
    some (v1, c)
  else
    bnd (f_X11_distanceBase c v1) fun x1 c2 =>
    if x1 ≤ c2.1 10 3 then
      some (v1, c2)
    else
      f_X8_distanceSymbol_3 N n c2 (v1 + (-1))
noncomputable def f_X8_distanceSymbol (N : Nat) (c : hS) : Option (Int32 × hS) :=
  f_X8_distanceSymbol_3 N N c 29
noncomputable def f_X8_lengthStep_3 (N : Nat) (p1 : Int32) : Nat → hS → Int32 → Option (Int32 × hS)
  | 0, _, _ => none
  | n + 1, c, v2 =>
  if v2 ≤ 0 then
    some (v2, c)
  else
    bnd (f_X11_lengthBase c v2) fun x1 c2 =>
    if x1 ≤ p1 then
      some (v2, c2)
    else
      f_X8_lengthStep_3 N p1 n c2 (v2 + (-1))
noncomputable def f_X8_lengthStep (N : Nat) (c : hS) (p1 : Int32) : Option (Int32 × hS) :=
  f_X8_lengthStep_3 N p1 N c 28
noncomputable def f_X8_longestBefore_67 (N : Nat) (p1 : Nat) (p2 : Int32) (k21 : hS → Int32 → Int32 → Int32 → Option (Int32 × hS)) (c : hS) (v3 : Int32) (v4 : Int32) (v5 : Int32) (v6 : Int32) : Option (Int32 × hS) :=
  if v6 ≤ v4 then
    k21 c v3 v4 (v5 + (-1))
  else
    st1 (sI c 10 3 (p2 - v5)) fun c1 =>
    k21 c1 v3 v6 (v5 + (-1))
noncomputable def f_X8_longestBefore_35 (N : Nat) (p1 : Nat) (p2 : Int32) (k21 : hS → Int32 → Int32 → Int32 → Option (Int32 × hS)) : Nat → hS → Int32 → Int32 → Int32 → Int32 → Option (Int32 × hS)
  | 0, _, _, _, _, _ => none
  | n + 1, c, v3, v4, v5, v6 =>
  if v3 ≤ v6 then
    f_X8_longestBefore_67 N p1 p2 k21 c v3 v4 v5 v6
  else
    bnd (f_X2_get c p1 (v5 + v6)) fun x1 c2 =>
    bnd (f_X2_get c2 p1 (p2 + v6)) fun x3 c4 =>
    if x1 = x3 then
      f_X8_longestBefore_35 N p1 p2 k21 n c4 v3 v4 v5 (v6 + 1)
    else
      f_X8_longestBefore_67 N p1 p2 k21 c4 v3 v4 v5 v6
noncomputable def f_X8_longestBefore_21 (N : Nat) (p1 : Nat) (p2 : Int32) : Nat → hS → Int32 → Int32 → Int32 → Option (Int32 × hS)
  | 0, _, _, _, _ => none
  | n + 1, c, v3, v4, v5 =>
  if v5 < 0 then
    some (v4, c)
  else
    if v3 ≤ v4 then
      some (v4, c)
    else
      f_X8_longestBefore_35 N p1 p2 (f_X8_longestBefore_21 N p1 p2 n) N c v3 v4 v5 0
noncomputable def f_X8_longestBefore (N : Nat) (c : hS) (p1 : Nat) (p2 : Int32) : Option (Int32 × hS) :=
  bnd (f_X2_size c p1) fun x1 c2 =>
  f_X8_longestBefore_21 N p1 p2 N c2 (j_min 258 (x1 - p2)) 0 (p2 - 1)
noncomputable def f_X8_addPacked_24 (N : Nat) (p1 : Nat) : Nat → hS → Int32 → Option (Unit × hS)
  | 0, _, _ => none
  | n + 1, c, v2 =>
  bnd (f_X2_size c p1) fun x1 c2 =>
  if x1 ≤ v2 then
    bnd (f_X8_addSymbol N c2 256) fun _ c3 =>
    if c3.1 10 2 ≤ 0 then
      some ((), c3)
    else
      bnd (f_X2_add c3 3 (c3.1 10 1)) fun _ c4 =>
      some ((), c4)
  else
    bnd (f_X8_longestBefore N c2 p1 v2) fun x5 c6 =>
    if x5 < 3 then
      bnd (f_X2_get c6 p1 v2) fun x7 c8 =>
      bnd (f_X8_addSymbol N c8 x7) fun _ c9 =>
      f_X8_addPacked_24 N p1 n c9 (v2 + 1)
    else
      bnd (f_X8_lengthStep N c6 x5) fun x10 c11 =>
      bnd (f_X8_addSymbol N c11 (257 + x10)) fun _ c12 =>
      bnd (f_X11_lengthBase c12 x10) fun x13 c14 =>
      bnd (f_X11_lengthBits c14 x10) fun x15 c16 =>
      bnd (f_X8_addBits N c16 (x5 - x13) x15) fun _ c17 =>
      bnd (f_X8_distanceSymbol N c17) fun x18 c19 =>
      bnd (f_X8_addCode N c19 x18 5) fun _ c20 =>
      bnd (f_X11_distanceBase c20 x18) fun x21 c22 =>
      bnd (f_X11_distanceBits c22 x18) fun x23 c24 =>
      bnd (f_X8_addBits N c24 ((c20.1 10 3) - x21) x23) fun _ c25 =>
      f_X8_addPacked_24 N p1 n c25 (v2 + x5)
noncomputable def f_X8_addPacked (N : Nat) (c : hS) (p1 : Nat) : Option (Unit × hS) :=
  st1 (sI c 10 1 0) fun c1 =>
  st1 (sI c1 10 2 0) fun c2 =>
  bnd (f_X8_addBits N c2 1 1) fun _ c3 =>
  bnd (f_X8_addBits N c3 1 2) fun _ c4 =>
  f_X8_addPacked_24 N p1 N c4 0
noncomputable def f_X5_layOut_120 (N : Nat) (p1 : Nat) (p2 : Int32) (k2 : hS → Int32 → Option (Unit × hS)) (c : hS) (v3 : Int32) (v5 : Int32) (v7 : Int32) : Option (Unit × hS) :=
  bnd (f_X2_size c 3) fun x1 c2 =>
  bnd (f_X5_setSize N c2 v5 (x1 - v7)) fun _ c3 =>
  k2 c3 (v3 + 1)
noncomputable def f_X5_layOut_67 (N : Nat) (p1 : Nat) (p2 : Int32) (k2 : hS → Int32 → Option (Unit × hS)) (c : hS) (v3 : Int32) (v4 : Nat) (v5 : Int32) (v6 : Int32) (w0 : Int32) (w1 : Nat) : Option (Unit × hS) :=
  bnd (f_X5_addLocal N c w1 w0) fun _ c1 =>
  bnd (f_X2_size c1 3) fun x2 c3 =>
  if v6 = 0 then
    bnd (f_X2_size c3 (v4 + 3)) fun x4 c5 =>
    bnd (f_X2_addRow N c5 3 (v4 + 3) 0 x4) fun _ c6 =>
    f_X5_layOut_120 N p1 p2 k2 c6 v3 v5 x2
  else
    bnd (f_X8_addPacked N c3 (v4 + 3)) fun _ c7 =>
    f_X5_layOut_120 N p1 p2 k2 c7 v3 v5 x2
noncomputable def f_X5_layOut_51 (N : Nat) (p1 : Nat) (p2 : Int32) (k2 : hS → Int32 → Option (Unit × hS)) (c : hS) (v3 : Int32) (v4 : Nat) (v5 : Int32) (w0 : Int32) : Option (Unit × hS) :=
  if w0 = 0 then
    f_X5_layOut_67 N p1 p2 k2 c v3 v4 v5 w0 0 v4
  else
    f_X5_layOut_67 N p1 p2 k2 c v3 v4 v5 w0 8 v4
noncomputable def f_X5_layOut_50 (N : Nat) (p1 : Nat) (p2 : Int32) (k2 : hS → Int32 → Option (Unit × hS)) (c : hS) (v3 : Int32) (v4 : Nat) (v5 : Int32) : Option (Unit × hS) :=
  f_X5_layOut_51 N p1 p2 k2 c v3 v4 v5 0
noncomputable def f_X5_layOut_2 (N : Nat) (p1 : Nat) (p2 : Int32) : Nat → hS → Int32 → Option (Unit × hS)
  | 0, _, _ => none
  | n + 1, c, v3 =>
  bnd (f_X9_size c p1) fun x1 c2 =>
  if x1 ≤ v3 then
    bnd (f_X5_addEntries N c2 p1) fun _ c3 =>
    some ((), c3)
  else
    bnd (f_X9_member c2 p1 v3) fun x4 c5 =>
    opt x4 (
      f_X5_layOut_2 N p1 p2 n c5 (v3 + 1)) fun y6 =>
      bif Nat.beq (kc y6) 6 then
      bnd (f_X2_size c5 3) fun x7 c8 =>
      if p2 = 0 then
        f_X5_layOut_50 N p1 p2 (f_X5_layOut_2 N p1 p2 n) c8 v3 y6 x7
      else
        bnd (f_X2_size c8 (y6 + 3)) fun x9 c10 =>
        if x9 ≤ 0 then
          f_X5_layOut_50 N p1 p2 (f_X5_layOut_2 N p1 p2 n) c10 v3 y6 x7
        else
          f_X5_layOut_51 N p1 p2 (f_X5_layOut_2 N p1 p2 n) c10 v3 y6 x7 1
      else none
noncomputable def f_X5_layOut (N : Nat) (c : hS) (p1 : Nat) (p2 : Int32) : Option (Unit × hS) :=
  f_X5_layOut_2 N p1 p2 N c 0
noncomputable def f_X6_number (c : hS) : Option (Int32 × hS) :=
  some (c.1 9 0, c)
noncomputable def f_X6_place (c : hS) : Option (Int32 × hS) :=
  some (c.1 9 1, c)
noncomputable def f_X6_clear (c : hS) : Option (Unit × hS) :=
  st1 (sI c 9 0 0) fun c1 =>
  st1 (sI c1 9 1 (-1)) fun c2 =>
  some ((), c2)
noncomputable def f_X9_clear (c : hS) (s : Nat) : Option (Unit × hS) :=
  st1 (sI c s 1 0) fun c1 =>
  some ((), c1)
noncomputable def f_X9_hasUnder_2 (N : Nat) (s : Nat) (p1 : Nat) : Nat → hS → Int32 → Option (Int32 × hS)
  | 0, _, _ => none
  | n + 1, c, v2 =>
  if c.1 s 1 ≤ v2 then
    some (0, c)
  else
    bnd (f_X9_member c s v2) fun x1 c2 =>
    opt x1 (
      f_X9_hasUnder_2 N s p1 n c2 (v2 + 1)) fun y3 =>
      bif Nat.beq (kc y3) 6 then
      bnd (f_X2_liesUnder N c2 (y3 + 1) p1) fun x4 c5 =>
      if x4 = 0 then
        f_X9_hasUnder_2 N s p1 n c5 (v2 + 1)
      else
        some (1, c5)
      else none
noncomputable def f_X9_hasUnder (N : Nat) (c : hS) (s : Nat) (p1 : Nat) : Option (Int32 × hS) :=
  f_X9_hasUnder_2 N s p1 N c 0
noncomputable def f_X11_partBehind (c : hS) (p0 : Nat) : Option (Int32 × hS) :=
  bnd (f_X2_size c p0) fun x1 c2 =>
  if x1 = 0 then
    some (0, c2)
  else
    bnd (f_X2_size c2 p0) fun x3 c4 =>
    some ((x3 + 1), c4)
noncomputable def f_X11_partLength_2 (N : Nat) (p0 : Nat) (p1 : Int32) : Nat → hS → Int32 → Option (Int32 × hS)
  | 0, _, _ => none
  | n + 1, c, v2 =>
  bnd (f_X2_size c p0) fun x1 c2 =>
  if x1 ≤ v2 then
    bnd (f_X2_size c2 p0) fun x3 c4 =>
    some ((x3 - p1), c4)
  else
    bnd (f_X2_get c2 p0 v2) fun x5 c6 =>
    if x5 = 47 then
      some ((v2 - p1), c6)
    else
      f_X11_partLength_2 N p0 p1 n c6 (v2 + 1)
noncomputable def f_X11_partLength (N : Nat) (c : hS) (p0 : Nat) (p1 : Int32) : Option (Int32 × hS) :=
  f_X11_partLength_2 N p0 p1 N c p1
noncomputable def f_X9_isSamePart_20 (N : Nat) (p0 : Nat) (p1 : Nat) (p2 : Int32) : Nat → hS → Int32 → Int32 → Option (Int32 × hS)
  | 0, _, _, _ => none
  | n + 1, c, v3, v4 =>
  if (p2 + v3) ≤ v4 then
    some (1, c)
  else
    bnd (f_X2_get c p0 v4) fun x1 c2 =>
    bnd (f_X2_get c2 p1 v4) fun x3 c4 =>
    if x1 = x3 then
      f_X9_isSamePart_20 N p0 p1 p2 n c4 v3 (v4 + 1)
    else
      some (0, c4)
noncomputable def f_X9_isSamePart (N : Nat) (c : hS) (p0 : Nat) (p1 : Nat) (p2 : Int32) : Option (Int32 × hS) :=
  bnd (f_X11_partLength N c p0 p2) fun x1 c2 =>
  bnd (f_X11_partLength N c2 p1 p2) fun x3 c4 =>
  if x3 = x1 then
    f_X9_isSamePart_20 N p0 p1 p2 N c4 x1 p2
  else
    some (0, c4)
noncomputable def f_X9_isFirstOfChild_26 (N : Nat) (s : Nat) (p1 : Nat) (p2 : Int32) : Nat → hS → Nat → Int32 → Option (Int32 × hS)
  | 0, _, _, _ => none
  | n + 1, c, v3, v4 =>
  if p2 ≤ v4 then
    some (1, c)
  else
    bnd (f_X9_member c s v4) fun x1 c2 =>
    opt x1 (
      f_X9_isFirstOfChild_26 N s p1 p2 n c2 v3 (v4 + 1)) fun y3 =>
      bif Nat.beq (kc y3) 6 then
      bnd (f_X2_liesUnder N c2 (y3 + 1) p1) fun x4 c5 =>
      if x4 = 0 then
        f_X9_isFirstOfChild_26 N s p1 p2 n c5 v3 (v4 + 1)
      else
        bnd (f_X11_partBehind c5 p1) fun x6 c7 =>
        bnd (f_X9_isSamePart N c7 (y3 + 1) (v3 + 1) x6) fun x8 c9 =>
        if x8 = 0 then
          f_X9_isFirstOfChild_26 N s p1 p2 n c9 v3 (v4 + 1)
        else
          some (0, c9)
      else none
noncomputable def f_X9_isFirstOfChild (N : Nat) (c : hS) (s : Nat) (p1 : Nat) (p2 : Int32) : Option (Int32 × hS) :=
  bnd (f_X9_member c s p2) fun x1 c2 =>
  opt x1 (
    some (0, c2)) fun y3 =>
    bif Nat.beq (kc y3) 6 then
    bnd (f_X2_liesUnder N c2 (y3 + 1) p1) fun x4 c5 =>
    if x4 = 0 then
      some (0, c5)
    else
      f_X9_isFirstOfChild_26 N s p1 p2 N c5 y3 0
    else none
noncomputable def f_X9_children_4 (N : Nat) (s : Nat) (p1 : Nat) : Nat → hS → Int32 → Int32 → Option (Int32 × hS)
  | 0, _, _, _ => none
  | n + 1, c, v2, v3 =>
  if c.1 s 1 ≤ v3 then
    some (v2, c)
  else
    bnd (f_X9_isFirstOfChild N c s p1 v3) fun x1 c2 =>
    if x1 = 0 then
      f_X9_children_4 N s p1 n c2 v2 (v3 + 1)
    else
      f_X9_children_4 N s p1 n c2 (v2 + 1) (v3 + 1)
noncomputable def f_X9_children (N : Nat) (c : hS) (s : Nat) (p1 : Nat) : Option (Int32 × hS) :=
  f_X9_children_4 N s p1 N c 0 0
noncomputable def f_X9_firstOfChild_5 (N : Nat) (s : Nat) (p1 : Nat) (p2 : Int32) : Nat → hS → Int32 → Int32 → Option (Int32 × hS)
  | 0, _, _, _ => none
  | n + 1, c, v3, v4 =>
  if c.1 s 1 ≤ v4 then
    some ((-1), c)
  else
    bnd (f_X9_isFirstOfChild N c s p1 v4) fun x1 c2 =>
    if x1 = 0 then
      f_X9_firstOfChild_5 N s p1 p2 n c2 v3 (v4 + 1)
    else
      if v3 = p2 then
        some (v4, c2)
      else
        f_X9_firstOfChild_5 N s p1 p2 n c2 (v3 + 1) (v4 + 1)
noncomputable def f_X9_firstOfChild (N : Nat) (c : hS) (s : Nat) (p1 : Nat) (p2 : Int32) : Option (Int32 × hS) :=
  f_X9_firstOfChild_5 N s p1 p2 N c 0 0
noncomputable def f_X10_orderFixed (N : Nat) (c : hS) : Option (Unit × hS) :=
  bnd (f_X10_fillLengths N c 0 144 8) fun _ c1 =>
  bnd (f_X10_fillLengths N c1 144 256 9) fun _ c2 =>
  bnd (f_X10_fillLengths N c2 256 280 7) fun _ c3 =>
  bnd (f_X10_fillLengths N c3 280 288 8) fun _ c4 =>
  bnd (f_X3_order N c4 12 0 288) fun _ c5 =>
  bnd (f_X10_fillLengths N c5 0 32 5) fun _ c6 =>
  bnd (f_X3_order N c6 16 0 32) fun _ c7 =>
  some ((), c7)
noncomputable def f_X11_type (N : Nat) (c : hS) (p1 : Int64) (p3 : Int32) : Option ((Int32 ⊕ Nat) × hS) :=
  if p3 < 1 then
    some (.inr 11, c)
  else
    if p3 ≤ 8 then
      bnd (f_X2_size c 1) fun x1 c2 =>
      if (x1 + p3) ≤ 512 then
        bnd (f_X2_addBig N c2 1 p1 p3) fun _ c3 =>
        bnd (f_X2_size c3 1) fun x4 c5 =>
        some (.inl (x4), c5)
      else
        some (.inr 36, c2)
    else
      some (.inr 11, c)
noncomputable def f_X11_keep (c : hS) (p1 : Int32) : Option ((Unit ⊕ Nat) × hS) :=
  if p1 < 0 then
    some (.inr 15, c)
  else
    bnd (f_X2_size c 1) fun x1 c2 =>
    if p1 ≤ x1 then
      bnd (f_X2_cutTo c2 1 p1) fun _ c3 =>
      some (.inl (()), c3)
    else
      some (.inr 15, c2)
noncomputable def f_X11_typed (c : hS) (p1 : Int32) : Option ((Int32 ⊕ Nat) × hS) :=
  bnd (f_X2_has c 1 p1) fun x1 c2 =>
  if x1 = 0 then
    some (.inr 11, c2)
  else
    bnd (f_X2_get c2 1 p1) fun x3 c4 =>
    some (.inl (x3), c4)
noncomputable def f_X11_come_86 (N : Nat) (p1 : Int32) (p2 : Int32) (c : hS) (w0 : Int32) (w1 : Int32) : Option ((Int32 ⊕ Nat) × hS) :=
  if w1 ≤ w0 then
    bif Nat.beq (kc (c.2.2 0 8)) 8 then
    bnd (f_X9_isInTheWay N c (c.2.2 0 8) 5 p2) fun x2 c3 =>
    if x2 = 0 then
      bif Nat.beq (kc (c3.2.2 0 8)) 8 then
      bnd (f_X9_hasRoomFor N c3 (c3.2.2 0 8) 5) fun x5 c6 =>
      if x5 = 0 then
        some (.inr 138, c6)
      else
        bif Nat.beq (kc (c6.2.2 0 8)) 8 then
        bnd (f_X2_size c6 1) fun x8 c9 =>
        bnd (f_X9_take N c9 (c6.2.2 0 8) 5 p2 1 p1 x8) fun _ c10 =>
        bnd (f_X2_cutTo c10 1 0) fun _ c11 =>
        bif Nat.beq (kc (c11.2.2 0 8)) 8 then
        bnd (f_X9_size c11 (c11.2.2 0 8)) fun x13 c14 =>
        some (.inl (x13), c14)
        else none
        else none
      else none
    else
      some (.inr 114, c3)
    else none
  else
    some (.inr 89, c)
noncomputable def f_X11_come (N : Nat) (c : hS) (p1 : Int32) (p2 : Int32) : Option ((Int32 ⊕ Nat) × hS) :=
  if p1 < 0 then
    some (.inr 15, c)
  else
    bnd (f_X2_size c 1) fun x1 c2 =>
    if p1 ≤ x1 then
      bnd (f_X2_cutTo c2 5 0) fun _ c3 =>
      bnd (f_X2_addRow N c3 5 1 0 p1) fun _ c4 =>
      bnd (f_X11_isName N c4 5) fun x5 c6 =>
      if x5 = 0 then
        some (.inr 56, c6)
      else
        bnd (f_X2_size c6 1) fun x7 c8 =>
        if p2 = 0 then
          f_X11_come_86 N p1 p2 c8 400 (x7 - p1)
        else
          f_X11_come_86 N p1 p2 c8 0 (x7 - p1)
    else
      some (.inr 15, c2)
noncomputable def f_X11_go (N : Nat) (c : hS) (p1 : Int32) : Option ((Int32 ⊕ Nat) × hS) :=
  bif Nat.beq (kc (c.2.2 0 8)) 8 then
  bnd (f_X9_member c (c.2.2 0 8) p1) fun x2 c3 =>
  opt x2 (
    some (.inr 11, c3)) fun y4 =>
    bif Nat.beq (kc y4) 6 then
    bif Nat.beq (kc (c3.2.2 0 8)) 8 then
    bnd (f_X9_drop N c3 (c3.2.2 0 8) p1) fun _ c6 =>
    bif Nat.beq (kc (c6.2.2 0 8)) 8 then
    bnd (f_X9_size c6 (c6.2.2 0 8)) fun x8 c9 =>
    some (.inl (x8), c9)
    else none
    else none
    else none
  else none
noncomputable def f_X11_name (c : hS) (p1 : Int32) (p2 : Int32) : Option ((Int32 ⊕ Nat) × hS) :=
  bif Nat.beq (kc (c.2.2 0 8)) 8 then
  bnd (f_X9_member c (c.2.2 0 8) p1) fun x2 c3 =>
  opt x2 (
    some (.inr 13, c3)) fun y4 =>
    bif Nat.beq (kc y4) 6 then
    if p2 = (-3) then
      if c3.1 y4 2 = 0 then
        some (.inl (0), c3)
      else
        some (.inl (1), c3)
    else
    if p2 = (-2) then
      bnd (f_X2_size c3 (y4 + 3)) fun x5 c6 =>
      some (.inl (x5), c6)
    else
    if p2 = (-1) then
      bnd (f_X2_size c3 (y4 + 1)) fun x7 c8 =>
      some (.inl (x7), c8)
    else
      bnd (f_X2_has c3 (y4 + 1) p2) fun x9 c10 =>
      if x9 = 0 then
        some (.inr 92, c10)
      else
        bnd (f_X2_get c10 (y4 + 1) p2) fun x11 c12 =>
        some (.inl (x11), c12)
    else none
  else none
noncomputable def f_X11_byteAt (c : hS) (p1 : Int32) (p2 : Int32) : Option ((Int32 ⊕ Nat) × hS) :=
  bif Nat.beq (kc (c.2.2 0 8)) 8 then
  bnd (f_X9_member c (c.2.2 0 8) p1) fun x2 c3 =>
  opt x2 (
    some (.inr 24, c3)) fun y4 =>
    bif Nat.beq (kc y4) 6 then
    bnd (f_X2_has c3 (y4 + 3) p2) fun x5 c6 =>
    if x5 = 0 then
      some (.inr 24, c6)
    else
      bnd (f_X2_get c6 (y4 + 3) p2) fun x7 c8 =>
      some (.inl (x7), c8)
    else none
  else none
noncomputable def f_X11_kind (N : Nat) (c : hS) : Option (Int32 × hS) :=
  bnd (f_X2_size c 1) fun x1 c2 =>
  if x1 = 0 then
    some (1, c2)
  else
    bif Nat.beq (kc (c2.2.2 0 8)) 8 then
    bif Nat.beq (kc (c2.2.2 0 8)) 8 then
    bnd (f_X9_find N c2 (c2.2.2 0 8) 1) fun x5 c6 =>
    bnd (f_X9_member c6 (c2.2.2 0 8) x5) fun x7 c8 =>
    opt x7 (
      bif Nat.beq (kc (c8.2.2 0 8)) 8 then
      bnd (f_X9_hasUnder N c8 (c8.2.2 0 8) 1) fun x11 c12 =>
      if x11 = 0 then
        some (0, c12)
      else
        some (1, c12)
      else none) fun y9 =>
      bif Nat.beq (kc y9) 6 then
      if c8.1 y9 2 = 0 then
        some (2, c8)
      else
        some (1, c8)
      else none
    else none
    else none
noncomputable def f_X11_child (N : Nat) (c : hS) (p1 : Int32) (p2 : Int32) : Option ((Int32 ⊕ Nat) × hS) :=
  if p1 = (-1) then
    if p2 = (-1) then
      bif Nat.beq (kc (c.2.2 0 8)) 8 then
      bnd (f_X9_children N c (c.2.2 0 8) 1) fun x15 c16 =>
      some (.inl (x15), c16)
      else none
    else
      some (.inr 10, c)
  else
    bif Nat.beq (kc (c.2.2 0 8)) 8 then
    bif Nat.beq (kc (c.2.2 0 8)) 8 then
    bnd (f_X9_firstOfChild N c (c.2.2 0 8) 1 p1) fun x3 c4 =>
    bnd (f_X9_member c4 (c.2.2 0 8) x3) fun x5 c6 =>
    opt x5 (
      some (.inr 56, c6)) fun y7 =>
      bif Nat.beq (kc y7) 6 then
      bnd (f_X11_partBehind c6 1) fun x8 c9 =>
      bnd (f_X11_partLength N c9 (y7 + 1) x8) fun x10 c11 =>
      if p2 = (-1) then
        some (.inl (x10), c11)
      else
        if p2 < 0 then
          some (.inr 104, c11)
        else
          if p2 < x10 then
            bnd (f_X2_get c11 (y7 + 1) (x8 + p2)) fun x12 c13 =>
            some (.inl (x12), c13)
          else
            some (.inr 104, c11)
      else none
    else none
    else none
noncomputable def f_X11_archiveOf (c : hS) (p1 : Int32) : Option ((Option Nat) × hS) :=
  if p1 < 0 then
    some (none, c)
  else
    if (Int32.ofNat (ln 33)) ≤ p1 then
      some (none, c)
    else
      bif j_in p1 (ln 33) then
      some ((some (34 + p1.toNatClampNeg)), c)
      else none
noncomputable def f_X11_write (N : Nat) (c : hS) (p1 : Int32) (p2 : Int32) : Option ((Int32 ⊕ Nat) × hS) :=
  bnd (f_X11_archiveOf c p1) fun x1 c2 =>
  opt x1 (
    some (.inr 10, c2)) fun y3 =>
    bnd (f_X2_cutTo c2 3 0) fun _ c4 =>
    bif Nat.beq (kc (c4.2.2 0 8)) 8 then
    if y3 = 34 then
      bnd (f_X1_layOut N c4 (c4.2.2 0 8) p2) fun _ c6 =>
      bnd (f_X2_size c6 3) fun x7 c8 =>
      some (.inl (x7), c8)
    else
    if y3 = 35 then
      bnd (f_X4_layOut N c4 (c4.2.2 0 8) p2) fun _ c9 =>
      bnd (f_X2_size c9 3) fun x10 c11 =>
      some (.inl (x10), c11)
    else
    if y3 = 36 then
      bnd (f_X5_layOut N c4 (c4.2.2 0 8) p2) fun _ c12 =>
      bnd (f_X2_size c12 3) fun x13 c14 =>
      some (.inl (x13), c14)
    else
      none
    else none
noncomputable def f_X11_read (N : Nat) (c : hS) (p1 : Int32) : Option ((Int32 ⊕ Nat) × hS) :=
  bnd (f_X11_archiveOf c p1) fun x1 c2 =>
  opt x1 (
    some (.inr 10, c2)) fun y3 =>
    bnd (f_X6_clear c2) fun _ c4 =>
    bif Nat.beq (kc (c4.2.2 0 9)) 8 then
    bnd (f_X9_clear c4 (c4.2.2 0 9)) fun _ c6 =>
    bif Nat.beq (kc (c6.2.2 0 9)) 8 then
    if y3 = 34 then
      bnd (f_X1_takeIn N c6 (c6.2.2 0 9)) fun x8 c9 =>
      if x8 = 0 then
        some (.inl ((-1)), c9)
      else
        bif Nat.beq (kc (c9.2.2 0 8)) 8 then
        bif Nat.beq (kc (c9.2.2 0 9)) 8 then
        st1 (sR c9 0 8 (c9.2.2 0 9)) fun c12 =>
        st1 (sR c12 0 9 (c9.2.2 0 8)) fun c13 =>
        bif Nat.beq (kc (c13.2.2 0 8)) 8 then
        bnd (f_X9_size c13 (c13.2.2 0 8)) fun x15 c16 =>
        some (.inl (x15), c16)
        else none
        else none
        else none
    else
    if y3 = 35 then
      bnd (f_X4_takeIn N c6 (c6.2.2 0 9)) fun x17 c18 =>
      if x17 = 0 then
        some (.inl ((-1)), c18)
      else
        bif Nat.beq (kc (c18.2.2 0 8)) 8 then
        bif Nat.beq (kc (c18.2.2 0 9)) 8 then
        st1 (sR c18 0 8 (c18.2.2 0 9)) fun c21 =>
        st1 (sR c21 0 9 (c18.2.2 0 8)) fun c22 =>
        bif Nat.beq (kc (c22.2.2 0 8)) 8 then
        bnd (f_X9_size c22 (c22.2.2 0 8)) fun x24 c25 =>
        some (.inl (x24), c25)
        else none
        else none
        else none
    else
    if y3 = 36 then
      bnd (f_X5_takeIn N c6 (c6.2.2 0 9)) fun x26 c27 =>
      if x26 = 0 then
        some (.inl ((-1)), c27)
      else
        bif Nat.beq (kc (c27.2.2 0 8)) 8 then
        bif Nat.beq (kc (c27.2.2 0 9)) 8 then
        st1 (sR c27 0 8 (c27.2.2 0 9)) fun c30 =>
        st1 (sR c30 0 9 (c27.2.2 0 8)) fun c31 =>
        bif Nat.beq (kc (c31.2.2 0 8)) 8 then
        bnd (f_X9_size c31 (c31.2.2 0 8)) fun x33 c34 =>
        some (.inl (x33), c34)
        else none
        else none
        else none
    else
      none
    else none
    else none
noncomputable def f_X11_fault (c : hS) (p1 : Int32) : Option ((Int32 ⊕ Nat) × hS) :=
  if p1 = 0 then
    bnd (f_X6_number c) fun x1 c2 =>
    some (.inl (x1), c2)
  else
  if p1 = 1 then
    bnd (f_X6_place c) fun x3 c4 =>
    some (.inl (x3), c4)
  else
    some (.inr 44, c)
noncomputable def f_X11_pack (N : Nat) (c : hS) : Option (Int32 × hS) :=
  bnd (f_X2_cutTo c 3 0) fun _ c1 =>
  bnd (f_X8_addPacked N c1 1) fun _ c2 =>
  bnd (f_X2_size c2 3) fun x3 c4 =>
  some (x3, c4)
noncomputable def f_X11_unpack (N : Nat) (c : hS) : Option (Int32 × hS) :=
  bnd (f_X6_clear c) fun _ c1 =>
  bnd (f_X2_size c1 3) fun x2 c3 =>
  bnd (f_X10_open N c3 0 x2 512) fun x4 c5 =>
  if x4 = 0 then
    some ((-1), c5)
  else
    bnd (f_X2_cutTo c5 1 0) fun _ c6 =>
    bnd (f_X2_size c6 7) fun x7 c8 =>
    bnd (f_X2_addRow N c8 1 7 0 x7) fun _ c9 =>
    bnd (f_X2_size c9 1) fun x10 c11 =>
    some (x10, c11)
noncomputable def f_X11_check (N : Nat) (c : hS) : Option (Int32 × hS) :=
  bnd (f_X11_checkOf N c 1) fun x1 c2 =>
  some (x1, c2)
noncomputable def f_X11_feed (N : Nat) (c : hS) (p1 : Int32) (p2 : Int32) (p3 : Int32) (p4 : Int32) (p5 : Int32) : Option ((Int32 ⊕ Nat) × hS) :=
  bnd (f_X2_size c 3) fun x1 c2 =>
  if (x1 + 20) ≤ 20000 then
    bnd (f_X2_addBig N c2 3 p1.toInt64 4) fun _ c3 =>
    bnd (f_X2_addBig N c3 3 p2.toInt64 4) fun _ c4 =>
    bnd (f_X2_addBig N c4 3 p3.toInt64 4) fun _ c5 =>
    bnd (f_X2_addBig N c5 3 p4.toInt64 4) fun _ c6 =>
    bnd (f_X2_addBig N c6 3 p5.toInt64 4) fun _ c7 =>
    bnd (f_X2_size c7 3) fun x8 c9 =>
    some (.inl (x8), c9)
  else
    some (.inr 16, c2)
noncomputable def f_X11_end (c : hS) (p1 : Int32) : Option ((Unit ⊕ Nat) × hS) :=
  if p1 < 0 then
    some (.inr 15, c)
  else
    bnd (f_X2_size c 3) fun x1 c2 =>
    if p1 ≤ x1 then
      bnd (f_X2_cutTo c2 3 p1) fun _ c3 =>
      some (.inl (()), c3)
    else
      some (.inr 15, c2)
noncomputable def f_X11_poke (c : hS) (p1 : Int32) (p2 : Int32) : Option ((Int32 ⊕ Nat) × hS) :=
  bnd (f_X2_has c 3 p1) fun x1 c2 =>
  if x1 = 0 then
    some (.inr 11, c2)
  else
    if p2 < 0 then
      some (.inr 32, c2)
    else
      if p2 ≤ 255 then
        bnd (f_X2_get c2 3 p1) fun x3 c4 =>
        bnd (f_X2_set c4 3 p1 p2) fun _ c5 =>
        some (.inl (x3), c5)
      else
        some (.inr 32, c2)
noncomputable def f_X11_at_53 (N : Nat) (p1 : Int32) (p2 : Int32) : Nat → hS → Int64 → Int32 → Option ((Int64 ⊕ Nat) × hS)
  | 0, _, _, _ => none
  | n + 1, c, v3, v5 =>
  if p2 ≤ v5 then
    some (.inl (v3), c)
  else
    bnd (f_X2_get c 3 (p1 + v5)) fun x1 c2 =>
    f_X11_at_53 N p1 p2 n c2 ((j_lshl v3 8) ||| x1.toInt64) (v5 + 1)
noncomputable def f_X11_at (N : Nat) (c : hS) (p1 : Int32) (p2 : Int32) : Option ((Int64 ⊕ Nat) × hS) :=
  if p2 < 1 then
    some (.inr 11, c)
  else
    if p2 ≤ 8 then
      if p1 < 0 then
        some (.inr 38, c)
      else
        bnd (f_X2_size c 3) fun x1 c2 =>
        if p1 ≤ (x1 - p2) then
          f_X11_at_53 N p1 p2 N c2 0 0
        else
          some (.inr 38, c2)
    else
      some (.inr 11, c)
noncomputable def f_X11_count (c : hS) (p1 : Int32) : Option ((Int32 ⊕ Nat) × hS) :=
  if p1 = 0 then
    bif Nat.beq (kc (c.2.2 0 8)) 8 then
    bnd (f_X9_size c (c.2.2 0 8)) fun x2 c3 =>
    some (.inl (x2), c3)
    else none
  else
  if p1 = 1 then
    bnd (f_X2_size c 1) fun x4 c5 =>
    some (.inl (x4), c5)
  else
  if p1 = 2 then
    bnd (f_X2_size c 3) fun x6 c7 =>
    some (.inl (x6), c7)
  else
    some (.inr 52, c)
noncomputable def f_X12_thrown (c : hS) : Option (Int32 × hS) :=
  some (c.1 201 0, c)
noncomputable def f_X12_in (c : hS) (p0 : Int64) (p2 : Int64) (p4 : Int64) : Option (Int32 × hS) :=
  if j_cmp p0 p2 < 0 then
    some (0, c)
  else
    if 0 < j_cmp p0 p4 then
      some (0, c)
    else
      some (1, c)
noncomputable def f_X12_refuses (c : hS) (p1 : Int32) (p2 : Int32) : Option (Int32 × hS) :=
  if c.1 201 0 = 0 then
    if p1 = 0 then
      if c.1 201 0 ≤ 0 then
        some (0, c)
      else
        some (1, c)
    else
      st1 (sI c 201 0 p2) fun c1 =>
      if c1.1 201 0 ≤ 0 then
        some (0, c1)
      else
        some (1, c1)
  else
    if c.1 201 0 ≤ 0 then
      some (0, c)
    else
      some (1, c)
noncomputable def f_X12_fails (c : hS) (p1 : Int32) (p2 : Int32) : Option (Int32 × hS) :=
  if c.1 201 5 = 0 then
    st1 (sI c 201 5 p1) fun c1 =>
    st1 (sI c1 201 6 p2) fun c2 =>
    some (0, c2)
  else
    some (0, c)
noncomputable def f_X12_type_62 (N : Nat) (p1 : Int64) (p3 : Int32) : Nat → hS → Int32 → Option (Int32 × hS)
  | 0, _, _ => none
  | n + 1, c, v4 =>
  if v4 < 0 then
    some (c.1 201 2, c)
  else
    bif j_in (c.1 201 2) (ln 202) then
    st1 (sI c 202 (c.1 201 2).toNatClampNeg (((j_lushr p1 (8 * v4)) &&& 255).toInt32)) fun c1 =>
    st1 (sI c1 201 2 ((c1.1 201 2) + 1)) fun c2 =>
    f_X12_type_62 N p1 p3 n c2 (v4 + (-1))
    else none
noncomputable def f_X12_type_48 (N : Nat) (p1 : Int64) (p3 : Int32) (c : hS) (w0 : Int32) : Option (Int32 × hS) :=
  bnd (f_X12_refuses c w0 2) fun x1 c2 =>
  if x1 = 0 then
    f_X12_type_62 N p1 p3 N c2 (p3 - 1)
  else
    some (0, c2)
noncomputable def f_X12_type_23 (N : Nat) (p1 : Int64) (p3 : Int32) (c : hS) (w0 : Int32) : Option (Int32 × hS) :=
  bnd (f_X12_refuses c w0 1) fun x1 c2 =>
  if x1 = 0 then
    if ((c2.1 201 2) + p3) ≤ 512 then
      f_X12_type_48 N p1 p3 c2 0
    else
      f_X12_type_48 N p1 p3 c2 1
  else
    some (0, c2)
noncomputable def f_X12_type (N : Nat) (c : hS) (p1 : Int64) (p3 : Int32) : Option (Int32 × hS) :=
  st1 (sI c 201 0 0) fun c1 =>
  bnd (f_X12_in c1 p3.toInt64 1 8) fun x2 c3 =>
  if x2 = 0 then
    f_X12_type_23 N p1 p3 c3 1
  else
    f_X12_type_23 N p1 p3 c3 0
noncomputable def f_X12_keep_25 (p1 : Int32) (c : hS) (w0 : Int32) : Option (Unit × hS) :=
  bnd (f_X12_refuses c w0 1) fun x1 c2 =>
  if x1 = 0 then
    st1 (sI c2 201 2 p1) fun c3 =>
    some ((), c3)
  else
    some ((), c2)
noncomputable def f_X12_keep (c : hS) (p1 : Int32) : Option (Unit × hS) :=
  st1 (sI c 201 0 0) fun c1 =>
  bnd (f_X12_in c1 p1.toInt64 0 ((c1.1 201 2).toInt64)) fun x2 c3 =>
  if x2 = 0 then
    f_X12_keep_25 p1 c3 1
  else
    f_X12_keep_25 p1 c3 0
noncomputable def f_X12_typed_27 (p1 : Int32) (c : hS) (w0 : Int32) : Option (Int32 × hS) :=
  bnd (f_X12_refuses c w0 1) fun x1 c2 =>
  if x1 = 0 then
    bif j_in p1 (ln 202) then
    some (c2.1 202 p1.toNatClampNeg, c2)
    else none
  else
    some (0, c2)
noncomputable def f_X12_typed (c : hS) (p1 : Int32) : Option (Int32 × hS) :=
  st1 (sI c 201 0 0) fun c1 =>
  bnd (f_X12_in c1 p1.toInt64 0 (((c1.1 201 2) - 1).toInt64)) fun x2 c3 =>
  if x2 = 0 then
    f_X12_typed_27 p1 c3 1
  else
    f_X12_typed_27 p1 c3 0
noncomputable def f_X12_put (c : hS) (p1 : Int32) : Option (Unit × hS) :=
  bif j_in (c.1 201 4) (ln 203) then
  st1 (sI c 203 (c.1 201 4).toNatClampNeg (p1 &&& 255)) fun c1 =>
  st1 (sI c1 201 4 ((c1.1 201 4) + 1)) fun c2 =>
  some ((), c2)
  else none
noncomputable def f_X12_feed_89 (N : Nat) (p1 : Int32) (p2 : Int32) (p3 : Int32) (p4 : Int32) (p5 : Int32) (k36 : hS → Int32 → Option (Int32 × hS)) (c : hS) (v6 : Int32) (w0 : Int32) : Option (Int32 × hS) :=
  bnd (f_X12_put c (j_shr w0 (24 - (8 * (j_rem v6 4))))) fun _ c1 =>
  k36 c1 (v6 + 1)
noncomputable def f_X12_feed_36 (N : Nat) (p1 : Int32) (p2 : Int32) (p3 : Int32) (p4 : Int32) (p5 : Int32) : Nat → hS → Int32 → Option (Int32 × hS)
  | 0, _, _ => none
  | n + 1, c, v6 =>
  if 20 ≤ v6 then
    some (c.1 201 4, c)
  else
    if 4 ≤ v6 then
      if 8 ≤ v6 then
        if 12 ≤ v6 then
          if 16 ≤ v6 then
            f_X12_feed_89 N p1 p2 p3 p4 p5 (f_X12_feed_36 N p1 p2 p3 p4 p5 n) c v6 p5
          else
            f_X12_feed_89 N p1 p2 p3 p4 p5 (f_X12_feed_36 N p1 p2 p3 p4 p5 n) c v6 p4
        else
          f_X12_feed_89 N p1 p2 p3 p4 p5 (f_X12_feed_36 N p1 p2 p3 p4 p5 n) c v6 p3
      else
        f_X12_feed_89 N p1 p2 p3 p4 p5 (f_X12_feed_36 N p1 p2 p3 p4 p5 n) c v6 p2
    else
      f_X12_feed_89 N p1 p2 p3 p4 p5 (f_X12_feed_36 N p1 p2 p3 p4 p5 n) c v6 p1
noncomputable def f_X12_feed_24 (N : Nat) (p1 : Int32) (p2 : Int32) (p3 : Int32) (p4 : Int32) (p5 : Int32) (c : hS) (w0 : Int32) : Option (Int32 × hS) :=
  bnd (f_X12_refuses c w0 1) fun x1 c2 =>
  if x1 = 0 then
    f_X12_feed_36 N p1 p2 p3 p4 p5 N c2 0
  else
    some (0, c2)
noncomputable def f_X12_feed (N : Nat) (c : hS) (p1 : Int32) (p2 : Int32) (p3 : Int32) (p4 : Int32) (p5 : Int32) : Option (Int32 × hS) :=
  st1 (sI c 201 0 0) fun c1 =>
  if ((c1.1 201 4) + 20) ≤ 20000 then
    f_X12_feed_24 N p1 p2 p3 p4 p5 c1 0
  else
    f_X12_feed_24 N p1 p2 p3 p4 p5 c1 1
noncomputable def f_X12_end_25 (p1 : Int32) (c : hS) (w0 : Int32) : Option (Unit × hS) :=
  bnd (f_X12_refuses c w0 1) fun x1 c2 =>
  if x1 = 0 then
    st1 (sI c2 201 4 p1) fun c3 =>
    some ((), c3)
  else
    some ((), c2)
noncomputable def f_X12_end (c : hS) (p1 : Int32) : Option (Unit × hS) :=
  st1 (sI c 201 0 0) fun c1 =>
  bnd (f_X12_in c1 p1.toInt64 0 ((c1.1 201 4).toInt64)) fun x2 c3 =>
  if x2 = 0 then
    f_X12_end_25 p1 c3 1
  else
    f_X12_end_25 p1 c3 0
noncomputable def f_X12_poke_52 (p1 : Int32) (p2 : Int32) (c : hS) (w0 : Int32) : Option (Int32 × hS) :=
  bnd (f_X12_refuses c w0 2) fun x1 c2 =>
  if x1 = 0 then
    bif j_in p1 (ln 203) then
    bif j_in p1 (ln 203) then
    st1 (sI c2 203 p1.toNatClampNeg p2) fun c3 =>
    some (c2.1 203 p1.toNatClampNeg, c3)
    else none
    else none
  else
    some (0, c2)
noncomputable def f_X12_poke_27 (p1 : Int32) (p2 : Int32) (c : hS) (w0 : Int32) : Option (Int32 × hS) :=
  bnd (f_X12_refuses c w0 1) fun x1 c2 =>
  if x1 = 0 then
    bnd (f_X12_in c2 p2.toInt64 0 255) fun x3 c4 =>
    if x3 = 0 then
      f_X12_poke_52 p1 p2 c4 1
    else
      f_X12_poke_52 p1 p2 c4 0
  else
    some (0, c2)
noncomputable def f_X12_poke (c : hS) (p1 : Int32) (p2 : Int32) : Option (Int32 × hS) :=
  st1 (sI c 201 0 0) fun c1 =>
  bnd (f_X12_in c1 p1.toInt64 0 (((c1.1 201 4) - 1).toInt64)) fun x2 c3 =>
  if x2 = 0 then
    f_X12_poke_27 p1 p2 c3 1
  else
    f_X12_poke_27 p1 p2 c3 0
noncomputable def f_X12_at_64 (N : Nat) (p1 : Int32) (p2 : Int32) : Nat → hS → Int64 → Int32 → Option (Int64 × hS)
  | 0, _, _, _ => none
  | n + 1, c, v3, v5 =>
  if p2 ≤ v5 then
    some (v3, c)
  else
    bif j_in (p1 + v5) (ln 203) then
    f_X12_at_64 N p1 p2 n c ((j_lshl v3 8) ||| ((c.1 203 (p1 + v5).toNatClampNeg).toInt64)) (v5 + 1)
    else none
noncomputable def f_X12_at_50 (N : Nat) (p1 : Int32) (p2 : Int32) (c : hS) (w0 : Int32) : Option (Int64 × hS) :=
  bnd (f_X12_refuses c w0 2) fun x1 c2 =>
  if x1 = 0 then
    f_X12_at_64 N p1 p2 N c2 0 0
  else
    some (0, c2)
noncomputable def f_X12_at_45 (N : Nat) (p1 : Int32) (p2 : Int32) (c : hS) : Option (Int64 × hS) :=
  f_X12_at_50 N p1 p2 c 1
noncomputable def f_X12_at_23 (N : Nat) (p1 : Int32) (p2 : Int32) (c : hS) (w0 : Int32) : Option (Int64 × hS) :=
  bnd (f_X12_refuses c w0 1) fun x1 c2 =>
  if x1 = 0 then
    if p1 < 0 then
      f_X12_at_45 N p1 p2 c2
    else
      if p1 ≤ ((c2.1 201 4) - p2) then
        f_X12_at_50 N p1 p2 c2 0
      else
        f_X12_at_45 N p1 p2 c2
  else
    some (0, c2)
noncomputable def f_X12_at (N : Nat) (c : hS) (p1 : Int32) (p2 : Int32) : Option (Int64 × hS) :=
  st1 (sI c 201 0 0) fun c1 =>
  bnd (f_X12_in c1 p2.toInt64 1 8) fun x2 c3 =>
  if x2 = 0 then
    f_X12_at_23 N p1 p2 c3 1
  else
    f_X12_at_23 N p1 p2 c3 0
noncomputable def f_X12_count_23 (p1 : Int32) (c : hS) (w0 : Int32) : Option (Int32 × hS) :=
  bnd (f_X12_refuses c w0 1) fun x1 c2 =>
  if x1 = 0 then
    if p1 = 0 then
      some (c2.1 201 7, c2)
    else
      if p1 = 1 then
        some (c2.1 201 2, c2)
      else
        some (c2.1 201 4, c2)
  else
    some (0, c2)
noncomputable def f_X12_count (c : hS) (p1 : Int32) : Option (Int32 × hS) :=
  st1 (sI c 201 0 0) fun c1 =>
  bnd (f_X12_in c1 p1.toInt64 0 2) fun x2 c3 =>
  if x2 = 0 then
    f_X12_count_23 p1 c3 1
  else
    f_X12_count_23 p1 c3 0
noncomputable def f_X12_fault_21 (p1 : Int32) (c : hS) (w0 : Int32) : Option (Int32 × hS) :=
  bnd (f_X12_refuses c w0 1) fun x1 c2 =>
  if x1 = 0 then
    if p1 = 0 then
      some (c2.1 201 5, c2)
    else
      some (c2.1 201 6, c2)
  else
    some (0, c2)
noncomputable def f_X12_fault (c : hS) (p1 : Int32) : Option (Int32 × hS) :=
  st1 (sI c 201 0 0) fun c1 =>
  bnd (f_X12_in c1 p1.toInt64 0 1) fun x2 c3 =>
  if x2 = 0 then
    f_X12_fault_21 p1 c3 1
  else
    f_X12_fault_21 p1 c3 0
noncomputable def f_X12_nameAt (c : hS) (p1 : Int32) (p2 : Int32) : Option (Int32 × hS) :=
  bif j_in ((90 * p1) + p2) (ln 205) then
  some (c.1 205 ((90 * p1) + p2).toNatClampNeg, c)
  else none
noncomputable def f_X12_isName_50 (N : Nat) (k23 : hS → Int32 → Int32 → Int32 → Option (Int32 × hS)) (c : hS) (v1 : Int32) (v2 : Int32) (v3 : Int32) (w0 : Int32) : Option (Int32 × hS) :=
  if w0 = 47 then
    if v1 = 0 then
      some (0, c)
    else
      if v2 = 0 then
        k23 c 0 1 (v3 + 1)
      else
        if 3 ≤ v1 then
          k23 c 0 1 (v3 + 1)
        else
          some (0, c)
  else
    bnd (f_X12_in c w0.toInt64 33 126) fun x1 c2 =>
    if x1 = 0 then
      some (0, c2)
    else
      if v2 = 0 then
        k23 c2 (v1 + 1) 0 (v3 + 1)
      else
        if w0 = 46 then
          k23 c2 (v1 + 1) 1 (v3 + 1)
        else
          k23 c2 (v1 + 1) 0 (v3 + 1)
noncomputable def f_X12_isName_23 (N : Nat) : Nat → hS → Int32 → Int32 → Int32 → Option (Int32 × hS)
  | 0, _, _, _, _ => none
  | n + 1, c, v1, v2, v3 =>
  if c.1 201 14 < v3 then
    some (1, c)
  else
    if c.1 201 14 ≤ v3 then
      f_X12_isName_50 N (f_X12_isName_23 N n) c v1 v2 v3 47
    else
      bif j_in v3 (ln 209) then
      f_X12_isName_50 N (f_X12_isName_23 N n) c v1 v2 v3 (c.1 209 v3.toNatClampNeg)
      else none
noncomputable def f_X12_isName (N : Nat) (c : hS) : Option (Int32 × hS) :=
  bnd (f_X12_in c ((c.1 201 14).toInt64) 1 90) fun x1 c2 =>
  if x1 = 0 then
    some (0, c2)
  else
    f_X12_isName_23 N N c2 0 1 0
noncomputable def f_X12_isNamed_21 (N : Nat) (p1 : Int32) : Nat → hS → Int32 → Int32 → Option (Int32 × hS)
  | 0, _, _, _ => none
  | n + 1, c, v2, v3 =>
  if c.1 201 14 ≤ v3 then
    bif j_b v2 then some (v2, c) else none
  else
    if v2 = 0 then
      bif j_b v2 then some (v2, c) else none
    else
      bnd (f_X12_nameAt c p1 v3) fun x1 c2 =>
      bif j_in v3 (ln 209) then
      if x1 = c2.1 209 v3.toNatClampNeg then
        f_X12_isNamed_21 N p1 n c2 1 (v3 + 1)
      else
        f_X12_isNamed_21 N p1 n c2 0 (v3 + 1)
      else none
noncomputable def f_X12_isNamed (N : Nat) (c : hS) (p1 : Int32) : Option (Int32 × hS) :=
  bif j_in p1 (ln 204) then
  if c.1 204 p1.toNatClampNeg = c.1 201 14 then
    f_X12_isNamed_21 N p1 N c 1 0
  else
    f_X12_isNamed_21 N p1 N c 0 0
  else none
noncomputable def f_X12_isUnderNew_37 (N : Nat) (p1 : Int32) : Nat → hS → Int32 → Int32 → Option (Int32 × hS)
  | 0, _, _, _ => none
  | n + 1, c, v2, v3 =>
  if c.1 201 14 ≤ v3 then
    bif j_b v2 then some (v2, c) else none
  else
    if v2 = 0 then
      bif j_b v2 then some (v2, c) else none
    else
      bnd (f_X12_nameAt c p1 v3) fun x1 c2 =>
      bif j_in v3 (ln 209) then
      if x1 = c2.1 209 v3.toNatClampNeg then
        f_X12_isUnderNew_37 N p1 n c2 1 (v3 + 1)
      else
        f_X12_isUnderNew_37 N p1 n c2 0 (v3 + 1)
      else none
noncomputable def f_X12_isUnderNew (N : Nat) (c : hS) (p1 : Int32) : Option (Int32 × hS) :=
  bif j_in p1 (ln 204) then
  if c.1 204 p1.toNatClampNeg ≤ ((c.1 201 14) + 1) then
    f_X12_isUnderNew_37 N p1 N c 0 0
  else
    bnd (f_X12_nameAt c p1 (c.1 201 14)) fun x1 c2 =>
    if x1 = 47 then
      f_X12_isUnderNew_37 N p1 N c2 1 0
    else
      f_X12_isUnderNew_37 N p1 N c2 0 0
  else none
noncomputable def f_X12_isNewUnder_37 (N : Nat) (p1 : Int32) : Nat → hS → Int32 → Int32 → Int32 → Option (Int32 × hS)
  | 0, _, _, _, _ => none
  | n + 1, c, v2, v3, v4 =>
  if v2 ≤ v4 then
    bif j_b v3 then some (v3, c) else none
  else
    if v3 = 0 then
      bif j_b v3 then some (v3, c) else none
    else
      bnd (f_X12_nameAt c p1 v4) fun x1 c2 =>
      bif j_in v4 (ln 209) then
      if x1 = c2.1 209 v4.toNatClampNeg then
        f_X12_isNewUnder_37 N p1 n c2 v2 1 (v4 + 1)
      else
        f_X12_isNewUnder_37 N p1 n c2 v2 0 (v4 + 1)
      else none
noncomputable def f_X12_isNewUnder (N : Nat) (c : hS) (p1 : Int32) : Option (Int32 × hS) :=
  bif j_in p1 (ln 204) then
  if c.1 201 14 ≤ ((c.1 204 p1.toNatClampNeg) + 1) then
    f_X12_isNewUnder_37 N p1 N c (c.1 204 p1.toNatClampNeg) 0 0
  else
    bif j_in (c.1 204 p1.toNatClampNeg) (ln 209) then
    if c.1 209 (c.1 204 p1.toNatClampNeg).toNatClampNeg = 47 then
      f_X12_isNewUnder_37 N p1 N c (c.1 204 p1.toNatClampNeg) 1 0
    else
      f_X12_isNewUnder_37 N p1 N c (c.1 204 p1.toNatClampNeg) 0 0
    else none
  else none
noncomputable def f_X12_seek_2 (N : Nat) (p1 : Int32) (p2 : Int32) : Nat → hS → Int32 → Option (Int32 × hS)
  | 0, _, _ => none
  | n + 1, c, v3 =>
  if (p1 + p2) ≤ v3 then
    some ((-1), c)
  else
    bnd (f_X12_isNamed N c v3) fun x1 c2 =>
    if x1 = 0 then
      f_X12_seek_2 N p1 p2 n c2 (v3 + 1)
    else
      some (v3, c2)
noncomputable def f_X12_seek (N : Nat) (c : hS) (p1 : Int32) (p2 : Int32) : Option (Int32 × hS) :=
  f_X12_seek_2 N p1 p2 N c p1
noncomputable def f_X12_isInTheWay_53 (N : Nat) (p1 : Int32) (p2 : Int32) (k5 : hS → Int32 → Int32 → Option (Int32 × hS)) (c : hS) (v3 : Int32) (v4 : Int32) (w0 : Int32) : Option (Int32 × hS) :=
  if v3 = 0 then
    bnd (f_X12_isNamed N c v4) fun x1 c2 =>
    if x1 = 0 then
      if w0 = 0 then
        k5 c2 0 (v4 + 1)
      else
        k5 c2 1 (v4 + 1)
    else
      k5 c2 0 (v4 + 1)
  else
    k5 c 1 (v4 + 1)
noncomputable def f_X12_isInTheWay_48 (N : Nat) (p1 : Int32) (p2 : Int32) (k5 : hS → Int32 → Int32 → Option (Int32 × hS)) (c : hS) (v3 : Int32) (v4 : Int32) : Option (Int32 × hS) :=
  f_X12_isInTheWay_53 N p1 p2 k5 c v3 v4 1
noncomputable def f_X12_isInTheWay_52 (N : Nat) (p1 : Int32) (p2 : Int32) (k5 : hS → Int32 → Int32 → Option (Int32 × hS)) (c : hS) (v3 : Int32) (v4 : Int32) : Option (Int32 × hS) :=
  f_X12_isInTheWay_53 N p1 p2 k5 c v3 v4 0
noncomputable def f_X12_isInTheWay_29 (N : Nat) (p1 : Int32) (p2 : Int32) (k5 : hS → Int32 → Int32 → Option (Int32 × hS)) (c : hS) (v3 : Int32) (v4 : Int32) : Option (Int32 × hS) :=
  bif j_in v4 (ln 208) then
  if c.1 208 v4.toNatClampNeg = 0 then
    bnd (f_X12_isNewUnder N c v4) fun x1 c2 =>
    if x1 = 0 then
      f_X12_isInTheWay_52 N p1 p2 k5 c2 v3 v4
    else
      f_X12_isInTheWay_48 N p1 p2 k5 c2 v3 v4
  else
    f_X12_isInTheWay_52 N p1 p2 k5 c v3 v4
  else none
noncomputable def f_X12_isInTheWay_5 (N : Nat) (p1 : Int32) (p2 : Int32) : Nat → hS → Int32 → Int32 → Option (Int32 × hS)
  | 0, _, _, _ => none
  | n + 1, c, v3, v4 =>
  if (p1 + p2) ≤ v4 then
    bif j_b v3 then some (v3, c) else none
  else
    if c.1 201 18 = 0 then
      bnd (f_X12_isUnderNew N c v4) fun x1 c2 =>
      if x1 = 0 then
        f_X12_isInTheWay_29 N p1 p2 (f_X12_isInTheWay_5 N p1 p2 n) c2 v3 v4
      else
        f_X12_isInTheWay_48 N p1 p2 (f_X12_isInTheWay_5 N p1 p2 n) c2 v3 v4
    else
      f_X12_isInTheWay_29 N p1 p2 (f_X12_isInTheWay_5 N p1 p2 n) c v3 v4
noncomputable def f_X12_isInTheWay (N : Nat) (c : hS) (p1 : Int32) (p2 : Int32) : Option (Int32 × hS) :=
  f_X12_isInTheWay_5 N p1 p2 N c 0 p1
noncomputable def f_X12_move_74 (N : Nat) (p1 : Int32) (p2 : Int32) : Nat → hS → Int32 → Option (Unit × hS)
  | 0, _, _ => none
  | n + 1, c, v3 =>
  if 400 ≤ v3 then
    some ((), c)
  else
    bif j_in ((400 * p1) + v3) (ln 207) then
    bif j_in ((400 * p2) + v3) (ln 207) then
    st1 (sI c 207 ((400 * p2) + v3).toNatClampNeg (c.1 207 ((400 * p1) + v3).toNatClampNeg)) fun c1 =>
    f_X12_move_74 N p1 p2 n c1 (v3 + 1)
    else none
    else none
noncomputable def f_X12_move_38 (N : Nat) (p1 : Int32) (p2 : Int32) : Nat → hS → Int32 → Option (Unit × hS)
  | 0, _, _ => none
  | n + 1, c, v3 =>
  if 90 ≤ v3 then
    f_X12_move_74 N p1 p2 N c 0
  else
    bif j_in ((90 * p1) + v3) (ln 205) then
    bif j_in ((90 * p2) + v3) (ln 205) then
    st1 (sI c 205 ((90 * p2) + v3).toNatClampNeg (c.1 205 ((90 * p1) + v3).toNatClampNeg)) fun c1 =>
    f_X12_move_38 N p1 p2 n c1 (v3 + 1)
    else none
    else none
noncomputable def f_X12_move (N : Nat) (c : hS) (p1 : Int32) (p2 : Int32) : Option (Unit × hS) :=
  bif j_in p1 (ln 204) then
  bif j_in p2 (ln 204) then
  st1 (sI c 204 p2.toNatClampNeg (c.1 204 p1.toNatClampNeg)) fun c1 =>
  bif j_in p1 (ln 206) then
  bif j_in p2 (ln 206) then
  st1 (sI c1 206 p2.toNatClampNeg (c1.1 206 p1.toNatClampNeg)) fun c2 =>
  bif j_in p1 (ln 208) then
  bif j_in p2 (ln 208) then
  st1 (sI c2 208 p2.toNatClampNeg (j_z (c2.1 208 p1.toNatClampNeg))) fun c3 =>
  f_X12_move_38 N p1 p2 N c3 0
  else none
  else none
  else none
  else none
  else none
  else none
noncomputable def f_X12_stand_115 (N : Nat) (p1 : Int32) (p2 : Int32) : Nat → hS → Int32 → Int32 → Int32 → Option (Int32 × hS)
  | 0, _, _, _, _ => none
  | n + 1, c, v4, v5, v6 =>
  if c.1 201 16 ≤ v6 then
    bif j_in v5 (ln 208) then
    st1 (sI c 208 v5.toNatClampNeg (j_z (c.1 201 18))) fun c1 =>
    some ((v4 + 1), c1)
    else none
  else
    bif j_in v6 (ln 210) then
    bif j_in ((400 * v5) + v6) (ln 207) then
    st1 (sI c 207 ((400 * v5) + v6).toNatClampNeg (c.1 210 v6.toNatClampNeg)) fun c2 =>
    f_X12_stand_115 N p1 p2 n c2 v4 v5 (v6 + 1)
    else none
    else none
noncomputable def f_X12_stand_66 (N : Nat) (p1 : Int32) (p2 : Int32) : Nat → hS → Int32 → Int32 → Int32 → Option (Int32 × hS)
  | 0, _, _, _, _ => none
  | n + 1, c, v4, v5, v6 =>
  if c.1 201 14 ≤ v6 then
    bif j_in v5 (ln 206) then
    st1 (sI c 206 v5.toNatClampNeg (c.1 201 16)) fun c1 =>
    f_X12_stand_115 N p1 p2 N c1 v4 v5 0
    else none
  else
    bif j_in v6 (ln 209) then
    bif j_in ((90 * v5) + v6) (ln 205) then
    st1 (sI c 205 ((90 * v5) + v6).toNatClampNeg (c.1 209 v6.toNatClampNeg)) fun c2 =>
    f_X12_stand_66 N p1 p2 n c2 v4 v5 (v6 + 1)
    else none
    else none
noncomputable def f_X12_stand_46 (N : Nat) (p1 : Int32) (p2 : Int32) (c : hS) (v4 : Int32) : Option (Int32 × hS) :=
  bif j_in (p1 + v4) (ln 204) then
  st1 (sI c 204 (p1 + v4).toNatClampNeg (c.1 201 14)) fun c1 =>
  f_X12_stand_66 N p1 p2 N c1 v4 (p1 + v4) 0
  else none
noncomputable def f_X12_stand_17 (N : Nat) (p1 : Int32) (p2 : Int32) : Nat → hS → Int32 → Int32 → Option (Int32 × hS)
  | 0, _, _, _ => none
  | n + 1, c, v4, v5 =>
  if (p1 + p2) ≤ (v5 + 1) then
    f_X12_stand_46 N p1 p2 c (v4 + (-1))
  else
    bnd (f_X12_move N c (v5 + 1) v5) fun _ c1 =>
    f_X12_stand_17 N p1 p2 n c1 v4 (v5 + 1)
noncomputable def f_X12_stand (N : Nat) (c : hS) (p1 : Int32) (p2 : Int32) : Option (Int32 × hS) :=
  bnd (f_X12_seek N c p1 p2) fun x1 c2 =>
  if x1 < 0 then
    f_X12_stand_46 N p1 p2 c2 p2
  else
    f_X12_stand_17 N p1 p2 N c2 p2 x1
