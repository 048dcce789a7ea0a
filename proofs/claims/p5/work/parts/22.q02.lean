/-! THE METHODS AS FUNCTIONS, printed by gen_l1.py -/
noncomputable def f_X12_come_193 (N : Nat) (p1 : Int32) (p2 : Int32) : Nat → hS → Int32 → Option (Int32 × hS)
  | 0, _, _ => none
  | n + 1, c, v3 =>
  if c.1 201 16 ≤ v3 then
    bnd (f_X12_stand N c 0 (c.1 201 7)) fun x1 c2 =>
    st1 (sI c2 201 7 x1) fun c3 =>
    st1 (sI c3 201 2 0) fun c4 =>
    some (c4.1 201 7, c4)
  else
    bif j_in (p1 + v3) (ln 202) then
    bif j_in v3 (ln 210) then
    st1 (sI c 210 v3.toNatClampNeg (c.1 202 (p1 + v3).toNatClampNeg)) fun c5 =>
    f_X12_come_193 N p1 p2 n c5 (v3 + 1)
    else none
    else none
noncomputable def f_X12_come_182 (N : Nat) (p1 : Int32) (p2 : Int32) (c : hS) (w0 : Int32) : Option (Int32 × hS) :=
  bnd (f_X12_refuses c w0 3) fun x1 c2 =>
  if x1 = 0 then
    f_X12_come_193 N p1 p2 N c2 0
  else
    some (0, c2)
noncomputable def f_X12_come_181 (N : Nat) (p1 : Int32) (p2 : Int32) (c : hS) : Option (Int32 × hS) :=
  f_X12_come_182 N p1 p2 c 0
noncomputable def f_X12_come_129 (N : Nat) (p1 : Int32) (p2 : Int32) (c : hS) (w0 : Int32) : Option (Int32 × hS) :=
  bnd (f_X12_refuses c w0 1) fun x1 c2 =>
  if x1 = 0 then
    bnd (f_X12_isInTheWay N c2 0 (c2.1 201 7)) fun x3 c4 =>
    bnd (f_X12_refuses c4 x3 2) fun x5 c6 =>
    if x5 = 0 then
      if c6.1 201 7 = 16 then
        bnd (f_X12_seek N c6 0 (c6.1 201 7)) fun x7 c8 =>
        if 0 ≤ x7 then
          f_X12_come_181 N p1 p2 c8
        else
          f_X12_come_182 N p1 p2 c8 1
      else
        f_X12_come_181 N p1 p2 c6
    else
      some (0, c6)
  else
    some (0, c2)
noncomputable def f_X12_come_124 (N : Nat) (p1 : Int32) (p2 : Int32) (c : hS) : Option (Int32 × hS) :=
  f_X12_come_129 N p1 p2 c 1
noncomputable def f_X12_come_114 (N : Nat) (p1 : Int32) (p2 : Int32) (c : hS) : Option (Int32 × hS) :=
  if c.1 201 16 ≤ 400 then
    f_X12_come_129 N p1 p2 c 0
  else
    f_X12_come_124 N p1 p2 c
noncomputable def f_X12_come_54 (N : Nat) (p1 : Int32) (p2 : Int32) : Nat → hS → Int32 → Option (Int32 × hS)
  | 0, _, _ => none
  | n + 1, c, v3 =>
  if c.1 201 14 ≤ v3 then
    st1 (sI c 201 16 ((c.1 201 2) - p1)) fun c1 =>
    bif j_b p2 then
    st1 (sI c1 201 18 p2) fun c2 =>
    bnd (f_X12_isName N c2) fun x3 c4 =>
    if x3 = 0 then
      f_X12_come_124 N p1 p2 c4
    else
      if p2 = 0 then
        f_X12_come_114 N p1 p2 c4
      else
        if 0 < c4.1 201 16 then
          f_X12_come_124 N p1 p2 c4
        else
          f_X12_come_114 N p1 p2 c4
    else none
  else
    bif j_in v3 (ln 202) then
    bif j_in v3 (ln 209) then
    st1 (sI c 209 v3.toNatClampNeg (c.1 202 v3.toNatClampNeg)) fun c5 =>
    f_X12_come_54 N p1 p2 n c5 (v3 + 1)
    else none
    else none
noncomputable def f_X12_come_25 (N : Nat) (p1 : Int32) (p2 : Int32) (c : hS) (w0 : Int32) : Option (Int32 × hS) :=
  bnd (f_X12_refuses c w0 1) fun x1 c2 =>
  if x1 = 0 then
    if 300 ≤ p1 then
      st1 (sI c2 201 14 299) fun c3 =>
      f_X12_come_54 N p1 p2 N c3 0
    else
      st1 (sI c2 201 14 p1) fun c4 =>
      f_X12_come_54 N p1 p2 N c4 0
  else
    some (0, c2)
noncomputable def f_X12_come (N : Nat) (c : hS) (p1 : Int32) (p2 : Int32) : Option (Int32 × hS) :=
  st1 (sI c 201 0 0) fun c1 =>
  bnd (f_X12_in c1 p1.toInt64 0 ((c1.1 201 2).toInt64)) fun x2 c3 =>
  if x2 = 0 then
    f_X12_come_25 N p1 p2 c3 1
  else
    f_X12_come_25 N p1 p2 c3 0
noncomputable def f_X12_go_48 (N : Nat) (p1 : Int32) : Nat → hS → Int32 → Option (Int32 × hS)
  | 0, _, _ => none
  | n + 1, c, v2 =>
  if c.1 201 7 ≤ v2 then
    some (c.1 201 7, c)
  else
    bnd (f_X12_move N c (v2 + 1) v2) fun _ c1 =>
    f_X12_go_48 N p1 n c1 (v2 + 1)
noncomputable def f_X12_go_27 (N : Nat) (p1 : Int32) (c : hS) (w0 : Int32) : Option (Int32 × hS) :=
  bnd (f_X12_refuses c w0 1) fun x1 c2 =>
  if x1 = 0 then
    st1 (sI c2 201 7 ((c2.1 201 7) - 1)) fun c3 =>
    f_X12_go_48 N p1 N c3 p1
  else
    some (0, c2)
noncomputable def f_X12_go (N : Nat) (c : hS) (p1 : Int32) : Option (Int32 × hS) :=
  st1 (sI c 201 0 0) fun c1 =>
  bnd (f_X12_in c1 p1.toInt64 0 (((c1.1 201 7) - 1).toInt64)) fun x2 c3 =>
  if x2 = 0 then
    f_X12_go_27 N p1 c3 1
  else
    f_X12_go_27 N p1 c3 0
noncomputable def f_X12_name_47 (p1 : Int32) (p2 : Int32) (c : hS) (w0 : Int32) : Option (Int32 × hS) :=
  bnd (f_X12_refuses c w0 1) fun x1 c2 =>
  if x1 = 0 then
    if p2 = (-1) then
      bif j_in p1 (ln 204) then
      some (c2.1 204 p1.toNatClampNeg, c2)
      else none
    else
      if p2 = (-2) then
        bif j_in p1 (ln 206) then
        some (c2.1 206 p1.toNatClampNeg, c2)
        else none
      else
        if p2 = (-3) then
          bif j_in p1 (ln 208) then
          if c2.1 208 p1.toNatClampNeg = 0 then
            some (0, c2)
          else
            some (1, c2)
          else none
        else
          bnd (f_X12_nameAt c2 p1 p2) fun x3 c4 =>
          some (x3, c4)
  else
    some (0, c2)
noncomputable def f_X12_name_42 (p1 : Int32) (p2 : Int32) (c : hS) : Option (Int32 × hS) :=
  f_X12_name_47 p1 p2 c 1
noncomputable def f_X12_name (c : hS) (p1 : Int32) (p2 : Int32) : Option (Int32 × hS) :=
  st1 (sI c 201 0 0) fun c1 =>
  bnd (f_X12_in c1 p1.toInt64 0 (((c1.1 201 7) - 1).toInt64)) fun x2 c3 =>
  if x2 = 0 then
    f_X12_name_42 p1 p2 c3
  else
    bif j_in p1 (ln 204) then
    bnd (f_X12_in c3 p2.toInt64 (-3) (((c3.1 204 p1.toNatClampNeg) - 1).toInt64)) fun x4 c5 =>
    if x4 = 0 then
      f_X12_name_42 p1 p2 c5
    else
      f_X12_name_47 p1 p2 c5 0
    else none
noncomputable def f_X12_byteAt_45 (p1 : Int32) (p2 : Int32) (c : hS) (w0 : Int32) : Option (Int32 × hS) :=
  bnd (f_X12_refuses c w0 1) fun x1 c2 =>
  if x1 = 0 then
    bif j_in ((400 * p1) + p2) (ln 207) then
    some (c2.1 207 ((400 * p1) + p2).toNatClampNeg, c2)
    else none
  else
    some (0, c2)
noncomputable def f_X12_byteAt_40 (p1 : Int32) (p2 : Int32) (c : hS) : Option (Int32 × hS) :=
  f_X12_byteAt_45 p1 p2 c 1
noncomputable def f_X12_byteAt (c : hS) (p1 : Int32) (p2 : Int32) : Option (Int32 × hS) :=
  st1 (sI c 201 0 0) fun c1 =>
  bnd (f_X12_in c1 p1.toInt64 0 (((c1.1 201 7) - 1).toInt64)) fun x2 c3 =>
  if x2 = 0 then
    f_X12_byteAt_40 p1 p2 c3
  else
    bif j_in p1 (ln 206) then
    bnd (f_X12_in c3 p2.toInt64 0 (((c3.1 206 p1.toNatClampNeg) - 1).toInt64)) fun x4 c5 =>
    if x4 = 0 then
      f_X12_byteAt_40 p1 p2 c5
    else
      f_X12_byteAt_45 p1 p2 c5 0
    else none
noncomputable def f_X12_takePath_26 (N : Nat) : Nat → hS → Int32 → Option (Unit × hS)
  | 0, _, _ => none
  | n + 1, c, v1 =>
  if c.1 201 14 ≤ v1 then
    some ((), c)
  else
    bif j_in v1 (ln 202) then
    bif j_in v1 (ln 209) then
    st1 (sI c 209 v1.toNatClampNeg (c.1 202 v1.toNatClampNeg)) fun c1 =>
    f_X12_takePath_26 N n c1 (v1 + 1)
    else none
    else none
noncomputable def f_X12_takePath (N : Nat) (c : hS) : Option (Unit × hS) :=
  if 300 ≤ c.1 201 2 then
    st1 (sI c 201 14 299) fun c1 =>
    f_X12_takePath_26 N N c1 0
  else
    st1 (sI c 201 14 (c.1 201 2)) fun c2 =>
    f_X12_takePath_26 N N c2 0
noncomputable def f_X12_kind_49 (N : Nat) : Nat → hS → Int32 → Option (Int32 × hS)
  | 0, _, _ => none
  | n + 1, c, v2 =>
  if c.1 201 7 ≤ v2 then
    some (0, c)
  else
    bnd (f_X12_isUnderNew N c v2) fun x1 c2 =>
    if x1 = 0 then
      f_X12_kind_49 N n c2 (v2 + 1)
    else
      some (1, c2)
noncomputable def f_X12_kind (N : Nat) (c : hS) : Option (Int32 × hS) :=
  st1 (sI c 201 0 0) fun c1 =>
  bnd (f_X12_takePath N c1) fun _ c2 =>
  if c2.1 201 2 = 0 then
    some (1, c2)
  else
    bnd (f_X12_seek N c2 0 (c2.1 201 7)) fun x3 c4 =>
    if x3 < 0 then
      f_X12_kind_49 N N c4 0
    else
      bif j_in x3 (ln 208) then
      if c4.1 208 x3.toNatClampNeg = 0 then
        some (2, c4)
      else
        some (1, c4)
      else none
noncomputable def f_X12_findPart_42 (N : Nat) (p1 : Int32) : Nat → hS → Option (Unit × hS)
  | 0, _ => none
  | n + 1, c =>
  bif j_in p1 (ln 204) then
  if c.1 204 p1.toNatClampNeg ≤ ((c.1 201 19) + (c.1 201 20)) then
    some ((), c)
  else
    bnd (f_X12_nameAt c p1 ((c.1 201 19) + (c.1 201 20))) fun x1 c2 =>
    if x1 = 47 then
      some ((), c2)
    else
      st1 (sI c2 201 20 ((c2.1 201 20) + 1)) fun c3 =>
      f_X12_findPart_42 N p1 n c3
  else none
noncomputable def f_X12_findPart_21 (N : Nat) (p1 : Int32) (c : hS) : Option (Unit × hS) :=
  if c.1 201 14 = 0 then
    st1 (sI c 201 19 0) fun c2 =>
    f_X12_findPart_42 N p1 N c2
  else
    st1 (sI c 201 19 ((c.1 201 14) + 1)) fun c1 =>
    f_X12_findPart_42 N p1 N c1
noncomputable def f_X12_findPart (N : Nat) (c : hS) (p1 : Int32) : Option (Unit × hS) :=
  st1 (sI c 201 20 0) fun c1 =>
  if c1.1 201 14 ≤ 0 then
    f_X12_findPart_21 N p1 c1
  else
    bnd (f_X12_isUnderNew N c1 p1) fun x2 c3 =>
    if x2 = 0 then
      some ((), c3)
    else
      f_X12_findPart_21 N p1 c3
noncomputable def f_X12_isSamePart_24 (N : Nat) (p1 : Int32) (p2 : Int32) (p3 : Int32) (p4 : Int32) : Nat → hS → Int32 → Int32 → Option (Int32 × hS)
  | 0, _, _, _ => none
  | n + 1, c, v5, v6 =>
  if p3 ≤ v6 then
    bif j_b v5 then some (v5, c) else none
  else
    if v5 = 0 then
      bif j_b v5 then some (v5, c) else none
    else
      bnd (f_X12_nameAt c p1 (p2 + v6)) fun x1 c2 =>
      bnd (f_X12_nameAt c2 p4 ((c2.1 201 19) + v6)) fun x3 c4 =>
      if x1 = x3 then
        f_X12_isSamePart_24 N p1 p2 p3 p4 n c4 1 (v6 + 1)
      else
        f_X12_isSamePart_24 N p1 p2 p3 p4 n c4 0 (v6 + 1)
noncomputable def f_X12_isSamePart (N : Nat) (c : hS) (p1 : Int32) (p2 : Int32) (p3 : Int32) (p4 : Int32) : Option (Int32 × hS) :=
  bnd (f_X12_findPart N c p4) fun _ c1 =>
  if c1.1 201 20 = p3 then
    f_X12_isSamePart_24 N p1 p2 p3 p4 N c1 1 0
  else
    f_X12_isSamePart_24 N p1 p2 p3 p4 N c1 0 0
noncomputable def f_X12_isFresh_29 (N : Nat) (p1 : Int32) : Nat → hS → Int32 → Int32 → Int32 → Int32 → Option (Int32 × hS)
  | 0, _, _, _, _, _ => none
  | n + 1, c, v2, v3, v4, v5 =>
  if p1 ≤ v5 then
    st1 (sI c 201 19 v2) fun c1 =>
    st1 (sI c1 201 20 v3) fun c2 =>
    bif j_b v4 then some (v4, c2) else none
  else
    if v4 = 0 then
      st1 (sI c 201 19 v2) fun c3 =>
      st1 (sI c3 201 20 v3) fun c4 =>
      bif j_b v4 then some (v4, c4) else none
    else
      bnd (f_X12_isSamePart N c p1 v2 v3 v5) fun x5 c6 =>
      if x5 = 0 then
        f_X12_isFresh_29 N p1 n c6 v2 v3 1 (v5 + 1)
      else
        f_X12_isFresh_29 N p1 n c6 v2 v3 0 (v5 + 1)
noncomputable def f_X12_isFresh (N : Nat) (c : hS) (p1 : Int32) : Option (Int32 × hS) :=
  bnd (f_X12_findPart N c p1) fun _ c1 =>
  if c1.1 201 20 ≤ 0 then
    f_X12_isFresh_29 N p1 N c1 (c1.1 201 19) (c1.1 201 20) 0 0
  else
    f_X12_isFresh_29 N p1 N c1 (c1.1 201 19) (c1.1 201 20) 1 0
noncomputable def f_X12_child_89 (N : Nat) (p1 : Int32) (p2 : Int32) (c : hS) (v4 : Int32) (w0 : Int32) : Option (Int32 × hS) :=
  bnd (f_X12_refuses c w0 1) fun x1 c2 =>
  if x1 = 0 then
    if p2 = (-1) then
      some (c2.1 201 20, c2)
    else
      bnd (f_X12_nameAt c2 v4 ((c2.1 201 19) + p2)) fun x3 c4 =>
      some (x3, c4)
  else
    some (0, c2)
noncomputable def f_X12_child_145 (N : Nat) (p1 : Int32) (p2 : Int32) (c : hS) (v3 : Int32) (w0 : Int32) : Option (Int32 × hS) :=
  bnd (f_X12_refuses c w0 1) fun x1 c2 =>
  if x1 = 0 then
    some (v3, c2)
  else
    some (0, c2)
noncomputable def f_X12_child_39 (N : Nat) (p1 : Int32) (p2 : Int32) : Nat → hS → Int32 → Int32 → Option (Int32 × hS)
  | 0, _, _, _ => none
  | n + 1, c, v3, v4 =>
  if c.1 201 7 ≤ v4 then
    if p1 = (-1) then
      f_X12_child_145 N p1 p2 c v3 0
    else
      f_X12_child_145 N p1 p2 c v3 1
  else
    bnd (f_X12_isFresh N c v4) fun x1 c2 =>
    if x1 = 0 then
      f_X12_child_39 N p1 p2 n c2 v3 (v4 + 1)
    else
      if v3 = p1 then
        bnd (f_X12_in c2 p2.toInt64 (-1) (((c2.1 201 20) - 1).toInt64)) fun x3 c4 =>
        if x3 = 0 then
          f_X12_child_89 N p1 p2 c4 v4 1
        else
          f_X12_child_89 N p1 p2 c4 v4 0
      else
        f_X12_child_39 N p1 p2 n c2 (v3 + 1) (v4 + 1)
noncomputable def f_X12_child_21 (N : Nat) (p1 : Int32) (p2 : Int32) (c : hS) (w0 : Int32) : Option (Int32 × hS) :=
  bnd (f_X12_refuses c w0 1) fun x1 c2 =>
  if x1 = 0 then
    bnd (f_X12_takePath N c2) fun _ c3 =>
    f_X12_child_39 N p1 p2 N c3 0 0
  else
    some (0, c2)
noncomputable def f_X12_child_20 (N : Nat) (p1 : Int32) (p2 : Int32) (c : hS) : Option (Int32 × hS) :=
  f_X12_child_21 N p1 p2 c 0
noncomputable def f_X12_child (N : Nat) (c : hS) (p1 : Int32) (p2 : Int32) : Option (Int32 × hS) :=
  st1 (sI c 201 0 0) fun c1 =>
  if p1 = (-1) then
    if p2 = (-1) then
      f_X12_child_20 N p1 p2 c1
    else
      f_X12_child_21 N p1 p2 c1 1
  else
    f_X12_child_20 N p1 p2 c1
noncomputable def f_X12_isRow_41 (N : Nat) (p1 : Int32) (p2 : Int32) (p3 : Int32) (p4 : Int32) (p5 : Int32) (p6 : Int32) (k3 : hS → Int32 → Option (Int32 × hS)) (c : hS) (v7 : Int32) (w0 : Int32) : Option (Int32 × hS) :=
  bif j_in (p1 + v7) (ln 203) then
  if c.1 203 (p1 + v7).toNatClampNeg = w0 then
    k3 c (v7 + 1)
  else
    bnd (f_X12_fails c p6 (p1 + v7)) fun x1 c2 =>
    bif j_b x1 then some (x1, c2) else none
  else none
noncomputable def f_X12_isRow_3 (N : Nat) (p1 : Int32) (p2 : Int32) (p3 : Int32) (p4 : Int32) (p5 : Int32) (p6 : Int32) : Nat → hS → Int32 → Option (Int32 × hS)
  | 0, _, _ => none
  | n + 1, c, v7 =>
  if 4 ≤ v7 then
    some (1, c)
  else
    if v7 = 0 then
      f_X12_isRow_41 N p1 p2 p3 p4 p5 p6 (f_X12_isRow_3 N p1 p2 p3 p4 p5 p6 n) c v7 p2
    else
      if v7 = 1 then
        f_X12_isRow_41 N p1 p2 p3 p4 p5 p6 (f_X12_isRow_3 N p1 p2 p3 p4 p5 p6 n) c v7 p3
      else
        if v7 = 2 then
          f_X12_isRow_41 N p1 p2 p3 p4 p5 p6 (f_X12_isRow_3 N p1 p2 p3 p4 p5 p6 n) c v7 p4
        else
          f_X12_isRow_41 N p1 p2 p3 p4 p5 p6 (f_X12_isRow_3 N p1 p2 p3 p4 p5 p6 n) c v7 p5
noncomputable def f_X12_isRow (N : Nat) (c : hS) (p1 : Int32) (p2 : Int32) (p3 : Int32) (p4 : Int32) (p5 : Int32) (p6 : Int32) : Option (Int32 × hS) :=
  f_X12_isRow_3 N p1 p2 p3 p4 p5 p6 N c 0
noncomputable def f_X12_reaches (c : hS) (p1 : Int64) : Option (Int32 × hS) :=
  if j_cmp p1 ((c.1 201 4).toInt64) ≤ 0 then
    some (1, c)
  else
    bnd (f_X12_fails c 1 (c.1 201 4)) fun x1 c2 =>
    if x1 = 0 then
      some (0, c2)
    else
      some (1, c2)
noncomputable def f_X12_areZeros_2 (N : Nat) (p1 : Int32) : Nat → hS → Int32 → Option (Int32 × hS)
  | 0, _, _ => none
  | n + 1, c, v2 =>
  if c.1 201 4 ≤ v2 then
    some (1, c)
  else
    bif j_in v2 (ln 203) then
    if c.1 203 v2.toNatClampNeg = 0 then
      f_X12_areZeros_2 N p1 n c (v2 + 1)
    else
      bnd (f_X12_fails c 2 v2) fun x1 c2 =>
      bif j_b x1 then some (x1, c2) else none
    else none
noncomputable def f_X12_areZeros (N : Nat) (c : hS) (p1 : Int32) : Option (Int32 × hS) :=
  f_X12_areZeros_2 N p1 N c p1
noncomputable def f_X12_comes_43 (N : Nat) (p1 : Int32) (c : hS) : Option (Int32 × hS) :=
  bnd (f_X12_stand N c 17 (c.1 201 8)) fun x1 c2 =>
  st1 (sI c2 201 8 x1) fun c3 =>
  some (1, c3)
noncomputable def f_X12_comes (N : Nat) (c : hS) (p1 : Int32) : Option (Int32 × hS) :=
  bnd (f_X12_isInTheWay N c 17 (c.1 201 8)) fun x1 c2 =>
  if x1 = 0 then
    if c2.1 201 8 = 16 then
      bnd (f_X12_seek N c2 17 (c2.1 201 8)) fun x5 c6 =>
      if 0 ≤ x5 then
        f_X12_comes_43 N p1 c6
      else
        bnd (f_X12_fails c6 11 p1) fun x7 c8 =>
        bif j_b x7 then some (x7, c8) else none
    else
      f_X12_comes_43 N p1 c2
  else
    bnd (f_X12_fails c2 11 p1) fun x3 c4 =>
    bif j_b x3 then some (x3, c4) else none
noncomputable def f_X12_takeBytes_7 (N : Nat) (p1 : Int32) (p2 : Int32) : Nat → hS → Int32 → Option (Unit × hS)
  | 0, _, _ => none
  | n + 1, c, v3 =>
  if p2 ≤ v3 then
    some ((), c)
  else
    bif j_in (p1 + v3) (ln 203) then
    bif j_in v3 (ln 210) then
    st1 (sI c 210 v3.toNatClampNeg (c.1 203 (p1 + v3).toNatClampNeg)) fun c1 =>
    f_X12_takeBytes_7 N p1 p2 n c1 (v3 + 1)
    else none
    else none
noncomputable def f_X12_takeBytes (N : Nat) (c : hS) (p1 : Int32) (p2 : Int32) : Option (Unit × hS) :=
  st1 (sI c 201 16 p2) fun c1 =>
  f_X12_takeBytes_7 N p1 p2 N c1 0
noncomputable def f_X12_readOctal_7 (N : Nat) (p1 : Int32) (p2 : Int32) : Nat → hS → Int32 → Option (Int32 × hS)
  | 0, _, _ => none
  | n + 1, c, v3 =>
  if (p2 - 1) ≤ v3 then
    bif j_in ((p1 + p2) - 1) (ln 203) then
    if c.1 203 ((p1 + p2) - 1).toNatClampNeg = 0 then
      some (1, c)
    else
      bnd (f_X12_fails c 6 ((p1 + p2) - 1)) fun x1 c2 =>
      if x1 = 0 then
        some (0, c2)
      else
        some (1, c2)
    else none
  else
    bif j_in (p1 + v3) (ln 203) then
    bnd (f_X12_in c ((c.1 203 (p1 + v3).toNatClampNeg).toInt64) 48 55) fun x3 c4 =>
    if x3 = 0 then
      bnd (f_X12_fails c4 6 (p1 + v3)) fun x6 c7 =>
      bif j_b x6 then some (x6, c7) else none
    else
      bif j_in (p1 + v3) (ln 203) then
      st1 (sJ c4 201 21 (((8 * (c4.2.1 201 21)) + ((c4.1 203 (p1 + v3).toNatClampNeg).toInt64)) - 48)) fun c5 =>
      f_X12_readOctal_7 N p1 p2 n c5 (v3 + 1)
      else none
    else none
noncomputable def f_X12_readOctal (N : Nat) (c : hS) (p1 : Int32) (p2 : Int32) : Option (Int32 × hS) :=
  st1 (sJ c 201 21 0) fun c1 =>
  f_X12_readOctal_7 N p1 p2 N c1 0
noncomputable def f_X12_readSum_65 (N : Nat) (p1 : Int32) (c : hS) (v3 : Int32) : Option (Int32 × hS) :=
  bnd (f_X12_fails c 3 ((p1 + 148) + v3)) fun x1 c2 =>
  bif j_b x1 then some (x1, c2) else none
noncomputable def f_X12_readSum_78 (N : Nat) (p1 : Int32) (k4 : hS → Int32 → Int32 → Option (Int32 × hS)) (c : hS) (v2 : Int32) (v3 : Int32) (v4 : Int32) : Option (Int32 × hS) :=
  if 6 ≤ v3 then
    k4 c v2 (v3 + 1)
  else
    k4 c (((8 * v2) + v4) - 48) (v3 + 1)
noncomputable def f_X12_readSum_62 (N : Nat) (p1 : Int32) (k4 : hS → Int32 → Int32 → Option (Int32 × hS)) (c : hS) (v2 : Int32) (v3 : Int32) (v4 : Int32) (w0 : Int32) (w1 : Int32) : Option (Int32 × hS) :=
  if w1 = w0 then
    f_X12_readSum_78 N p1 k4 c v2 v3 v4
  else
    f_X12_readSum_65 N p1 c v3
noncomputable def f_X12_readSum_112 (N : Nat) (p1 : Int32) : Nat → hS → Int32 → Int32 → Int32 → Option (Int32 × hS)
  | 0, _, _, _, _ => none
  | n + 1, c, v2, v3, v4 =>
  if 512 ≤ v4 then
    if v3 = v2 then
      some (1, c)
    else
      bnd (f_X12_fails c 4 (p1 + 148)) fun x1 c2 =>
      if x1 = 0 then
        some (0, c2)
      else
        some (1, c2)
  else
    bnd (f_X12_in c v4.toInt64 148 155) fun x3 c4 =>
    if x3 = 0 then
      bif j_in (p1 + v4) (ln 203) then
      f_X12_readSum_112 N p1 n c4 v2 (v3 + (c4.1 203 (p1 + v4).toNatClampNeg)) (v4 + 1)
      else none
    else
      f_X12_readSum_112 N p1 n c4 v2 (v3 + 0) (v4 + 1)
noncomputable def f_X12_readSum_4 (N : Nat) (p1 : Int32) : Nat → hS → Int32 → Int32 → Option (Int32 × hS)
  | 0, _, _, _ => none
  | n + 1, c, v2, v3 =>
  if 8 ≤ v3 then
    f_X12_readSum_112 N p1 N c v2 256 0
  else
    bif j_in ((p1 + 148) + v3) (ln 203) then
    if 6 ≤ v3 then
      if v3 = 6 then
        f_X12_readSum_62 N p1 (f_X12_readSum_4 N p1 n) c v2 v3 (c.1 203 ((p1 + 148) + v3).toNatClampNeg) 0 (c.1 203 ((p1 + 148) + v3).toNatClampNeg)
      else
        f_X12_readSum_62 N p1 (f_X12_readSum_4 N p1 n) c v2 v3 (c.1 203 ((p1 + 148) + v3).toNatClampNeg) 32 (c.1 203 ((p1 + 148) + v3).toNatClampNeg)
    else
      bnd (f_X12_in c ((c.1 203 ((p1 + 148) + v3).toNatClampNeg).toInt64) 48 55) fun x1 c2 =>
      if x1 = 0 then
        f_X12_readSum_65 N p1 c2 v3
      else
        f_X12_readSum_78 N p1 (f_X12_readSum_4 N p1 n) c2 v2 v3 (c.1 203 ((p1 + 148) + v3).toNatClampNeg)
    else none
noncomputable def f_X12_readSum (N : Nat) (c : hS) (p1 : Int32) : Option (Int32 × hS) :=
  f_X12_readSum_4 N p1 N c 0 0
noncomputable def f_X12_readMark_68 (N : Nat) (p1 : Int32) (k2 : hS → Int32 → Option (Int32 × hS)) (c : hS) (v2 : Int32) (w0 : Int32) : Option (Int32 × hS) :=
  bif j_in (p1 + v2) (ln 203) then
  if c.1 203 (p1 + v2).toNatClampNeg = w0 then
    k2 c (v2 + 1)
  else
    bnd (f_X12_fails c 5 (p1 + v2)) fun x1 c2 =>
    bif j_b x1 then some (x1, c2) else none
  else none
noncomputable def f_X12_readMark_2 (N : Nat) (p1 : Int32) : Nat → hS → Int32 → Option (Int32 × hS)
  | 0, _, _ => none
  | n + 1, c, v2 =>
  if 8 ≤ v2 then
    some (1, c)
  else
    if v2 = 0 then
      f_X12_readMark_68 N p1 (f_X12_readMark_2 N p1 n) c v2 117
    else
      if v2 = 1 then
        f_X12_readMark_68 N p1 (f_X12_readMark_2 N p1 n) c v2 115
      else
        if v2 = 2 then
          f_X12_readMark_68 N p1 (f_X12_readMark_2 N p1 n) c v2 116
        else
          if v2 = 3 then
            f_X12_readMark_68 N p1 (f_X12_readMark_2 N p1 n) c v2 97
          else
            if v2 = 4 then
              f_X12_readMark_68 N p1 (f_X12_readMark_2 N p1 n) c v2 114
            else
              if v2 = 5 then
                f_X12_readMark_68 N p1 (f_X12_readMark_2 N p1 n) c v2 0
              else
                f_X12_readMark_68 N p1 (f_X12_readMark_2 N p1 n) c v2 48
noncomputable def f_X12_readMark (N : Nat) (c : hS) (p1 : Int32) : Option (Int32 × hS) :=
  f_X12_readMark_2 N p1 N c 0
noncomputable def f_X12_addName_2 (N : Nat) (p1 : Int32) (p2 : Int32) : Nat → hS → Int32 → Option (Unit × hS)
  | 0, _, _ => none
  | n + 1, c, v3 =>
  if p2 ≤ v3 then
    some ((), c)
  else
    bif j_in (p1 + v3) (ln 203) then
    if c.1 203 (p1 + v3).toNatClampNeg = 0 then
      some ((), c)
    else
      bif j_in (p1 + v3) (ln 203) then
      bif j_in (c.1 201 14) (ln 209) then
      st1 (sI c 209 (c.1 201 14).toNatClampNeg (c.1 203 (p1 + v3).toNatClampNeg)) fun c1 =>
      st1 (sI c1 201 14 ((c1.1 201 14) + 1)) fun c2 =>
      f_X12_addName_2 N p1 p2 n c2 (v3 + 1)
      else none
      else none
    else none
noncomputable def f_X12_addName (N : Nat) (c : hS) (p1 : Int32) (p2 : Int32) : Option (Unit × hS) :=
  f_X12_addName_2 N p1 p2 N c 0
noncomputable def f_X12_readBlockHead_277 (N : Nat) (p1 : Int32) (c : hS) (v2 : Int64) : Option (Int32 × hS) :=
  st1 (sI c 201 16 v2.toInt32) fun c1 =>
  bnd (f_X12_isName N c1) fun x2 c3 =>
  if x2 = 0 then
    bnd (f_X12_fails c3 10 p1) fun x4 c5 =>
    if x4 = 0 then
      some (0, c5)
    else
      some (1, c5)
  else
    some (1, c3)
noncomputable def f_X12_readBlockHead_230 (N : Nat) (p1 : Int32) (c : hS) (v2 : Int64) : Option (Int32 × hS) :=
  bnd (f_X12_addName N c p1 100) fun _ c1 =>
  if c1.1 201 18 = 0 then
    f_X12_readBlockHead_277 N p1 c1 v2
  else
    if c1.1 201 14 ≤ 0 then
      f_X12_readBlockHead_277 N p1 c1 v2
    else
      bif j_in ((c1.1 201 14) - 1) (ln 209) then
      if c1.1 209 ((c1.1 201 14) - 1).toNatClampNeg = 47 then
        st1 (sI c1 201 14 ((c1.1 201 14) - 1)) fun c2 =>
        f_X12_readBlockHead_277 N p1 c2 v2
      else
        f_X12_readBlockHead_277 N p1 c1 v2
      else none
noncomputable def f_X12_readBlockHead_169 (N : Nat) (p1 : Int32) (c : hS) (v2 : Int64) (w0 : Int32) (w1 : Int64) : Option (Int32 × hS) :=
  if j_cmp w1 w0.toInt64 ≤ 0 then
    st1 (sI c 201 14 0) fun c1 =>
    bnd (f_X12_addName N c1 (p1 + 345) 155) fun _ c2 =>
    if c2.1 201 14 ≤ 0 then
      f_X12_readBlockHead_230 N p1 c2 v2
    else
      bif j_in (c2.1 201 14) (ln 209) then
      st1 (sI c2 209 (c2.1 201 14).toNatClampNeg 47) fun c3 =>
      st1 (sI c3 201 14 ((c3.1 201 14) + 1)) fun c4 =>
      f_X12_readBlockHead_230 N p1 c4 v2
      else none
  else
    bnd (f_X12_fails c 7 (p1 + 124)) fun x5 c6 =>
    bif j_b x5 then some (x5, c6) else none
noncomputable def f_X12_readBlockHead_151 (N : Nat) (p1 : Int32) (c : hS) (v2 : Int64) (w0 : Int32) : Option (Int32 × hS) :=
  bif j_b w0 then
  st1 (sI c 201 18 w0) fun c1 =>
  if c1.1 201 18 = 0 then
    f_X12_readBlockHead_169 N p1 c1 v2 400 v2
  else
    f_X12_readBlockHead_169 N p1 c1 v2 0 v2
  else none
noncomputable def f_X12_readBlockHead_138 (N : Nat) (p1 : Int32) (c : hS) (v2 : Int64) (v4 : Int32) : Option (Int32 × hS) :=
  if v4 = 53 then
    f_X12_readBlockHead_151 N p1 c v2 1
  else
    f_X12_readBlockHead_151 N p1 c v2 0
noncomputable def f_X12_readBlockHead (N : Nat) (c : hS) (p1 : Int32) : Option (Int32 × hS) :=
  bnd (f_X12_readSum N c p1) fun x1 c2 =>
  if x1 = 0 then
    some (0, c2)
  else
    bnd (f_X12_readMark N c2 (p1 + 257)) fun x3 c4 =>
    if x3 = 0 then
      some (0, c4)
    else
      bnd (f_X12_readOctal N c4 (p1 + 100) 8) fun x5 c6 =>
      if x5 = 0 then
        some (0, c6)
      else
        bnd (f_X12_readOctal N c6 (p1 + 108) 8) fun x7 c8 =>
        if x7 = 0 then
          some (0, c8)
        else
          bnd (f_X12_readOctal N c8 (p1 + 116) 8) fun x9 c10 =>
          if x9 = 0 then
            some (0, c10)
          else
            bnd (f_X12_readOctal N c10 (p1 + 124) 12) fun x11 c12 =>
            if x11 = 0 then
              some (0, c12)
            else
              bnd (f_X12_readOctal N c12 (p1 + 136) 12) fun x13 c14 =>
              if x13 = 0 then
                some (0, c14)
              else
                bif j_in (p1 + 156) (ln 203) then
                if c14.1 203 (p1 + 156).toNatClampNeg = 48 then
                  f_X12_readBlockHead_138 N p1 c14 (c12.2.1 201 21) (c14.1 203 (p1 + 156).toNatClampNeg)
                else
                  if c14.1 203 (p1 + 156).toNatClampNeg = 0 then
                    f_X12_readBlockHead_138 N p1 c14 (c12.2.1 201 21) (c14.1 203 (p1 + 156).toNatClampNeg)
                  else
                    if c14.1 203 (p1 + 156).toNatClampNeg = 53 then
                      f_X12_readBlockHead_138 N p1 c14 (c12.2.1 201 21) (c14.1 203 (p1 + 156).toNatClampNeg)
                    else
                      bnd (f_X12_fails c14 8 (p1 + 156)) fun x15 c16 =>
                      bif j_b x15 then some (x15, c16) else none
                else none
noncomputable def f_X12_isBlank_4 (N : Nat) (p1 : Int32) : Nat → hS → Int32 → Int32 → Option (Int32 × hS)
  | 0, _, _, _ => none
  | n + 1, c, v2, v3 =>
  if 512 ≤ v3 then
    bif j_b v2 then some (v2, c) else none
  else
    if v2 = 0 then
      f_X12_isBlank_4 N p1 n c 0 (v3 + 1)
    else
      bif j_in (p1 + v3) (ln 203) then
      if c.1 203 (p1 + v3).toNatClampNeg = 0 then
        f_X12_isBlank_4 N p1 n c 1 (v3 + 1)
      else
        f_X12_isBlank_4 N p1 n c 0 (v3 + 1)
      else none
noncomputable def f_X12_isBlank (N : Nat) (c : hS) (p1 : Int32) : Option (Int32 × hS) :=
  f_X12_isBlank_4 N p1 N c 1 0
noncomputable def f_X12_readBlocks_2 (N : Nat) : Nat → hS → Int32 → Option (Int32 × hS)
  | 0, _, _ => none
  | n + 1, c, v1 =>
  bnd (f_X12_reaches c ((v1 + 512).toInt64)) fun x1 c2 =>
  if x1 = 0 then
    some (0, c2)
  else
    bnd (f_X12_isBlank N c2 v1) fun x3 c4 =>
    if x3 = 0 then
      bnd (f_X12_readBlockHead N c4 v1) fun x5 c6 =>
      if x5 = 0 then
        some (0, c6)
      else
        bnd (f_X12_reaches c6 (((v1 + 512) + ((((c6.1 201 16) + 511) / 512) * 512)).toInt64)) fun x7 c8 =>
        if x7 = 0 then
          some (0, c8)
        else
          bnd (f_X12_takeBytes N c8 (v1 + 512) (c8.1 201 16)) fun _ c9 =>
          bnd (f_X12_comes N c9 v1) fun x10 c11 =>
          if x10 = 0 then
            some (0, c11)
          else
            f_X12_readBlocks_2 N n c11 ((v1 + 512) + ((((c6.1 201 16) + 511) / 512) * 512))
    else
      bnd (f_X12_reaches c4 ((v1 + 1024).toInt64)) fun x12 c13 =>
      if x12 = 0 then
        some (0, c13)
      else
        bnd (f_X12_areZeros N c13 (v1 + 512)) fun x14 c15 =>
        if x14 = 0 then
          some (0, c15)
        else
          some (1, c15)
noncomputable def f_X12_readBlocks (N : Nat) (c : hS) : Option (Int32 × hS) :=
  f_X12_readBlocks_2 N N c 0
noncomputable def f_X12_digitOf (c : hS) (p0 : Int32) : Option (Int32 × hS) :=
  bnd (f_X12_in c p0.toInt64 48 57) fun x1 c2 =>
  if x1 = 0 then
    bnd (f_X12_in c2 p0.toInt64 97 102) fun x3 c4 =>
    if x3 = 0 then
      bnd (f_X12_in c4 p0.toInt64 65 70) fun x5 c6 =>
      if x5 = 0 then
        some ((-1), c6)
      else
        some ((p0 - 55), c6)
    else
      some ((p0 - 87), c4)
  else
    some ((p0 - 48), c2)
noncomputable def f_X12_hexAt_5 (N : Nat) (p1 : Int32) : Nat → hS → Int64 → Int32 → Option (Int64 × hS)
  | 0, _, _, _ => none
  | n + 1, c, v2, v4 =>
  if 8 ≤ v4 then
    some (v2, c)
  else
    bif j_in (p1 + v4) (ln 203) then
    bnd (f_X12_digitOf c (c.1 203 (p1 + v4).toNatClampNeg)) fun x1 c2 =>
    f_X12_hexAt_5 N p1 n c2 ((16 * v2) + x1.toInt64) (v4 + 1)
    else none
noncomputable def f_X12_hexAt (N : Nat) (c : hS) (p1 : Int32) : Option (Int64 × hS) :=
  f_X12_hexAt_5 N p1 N c 0 0
noncomputable def f_X12_readDigitsHead_49 (N : Nat) (p1 : Int32) (k16 : hS → Int32 → Option (Int32 × hS)) (c : hS) (v2 : Int32) (w0 : Int32) : Option (Int32 × hS) :=
  bif j_in (p1 + v2) (ln 203) then
  if c.1 203 (p1 + v2).toNatClampNeg = w0 then
    k16 c (v2 + 1)
  else
    bnd (f_X12_fails c 3 (p1 + v2)) fun x1 c2 =>
    bif j_b x1 then some (x1, c2) else none
  else none
noncomputable def f_X12_readDigitsHead_32 (N : Nat) (p1 : Int32) (k16 : hS → Int32 → Option (Int32 × hS)) (c : hS) (v2 : Int32) : Option (Int32 × hS) :=
  f_X12_readDigitsHead_49 N p1 k16 c v2 55
noncomputable def f_X12_readDigitsHead_207 (N : Nat) (p1 : Int32) : Nat → hS → Int32 → Option (Int32 × hS)
  | 0, _, _ => none
  | n + 1, c, v4 =>
  if c.1 201 14 ≤ v4 then
    some (1, c)
  else
    bif j_in ((p1 + 110) + v4) (ln 203) then
    bif j_in v4 (ln 209) then
    st1 (sI c 209 v4.toNatClampNeg (c.1 203 ((p1 + 110) + v4).toNatClampNeg)) fun c1 =>
    f_X12_readDigitsHead_207 N p1 n c1 (v4 + 1)
    else none
    else none
noncomputable def f_X12_readDigitsHead_80 (N : Nat) (p1 : Int32) : Nat → hS → Int32 → Option (Int32 × hS)
  | 0, _, _ => none
  | n + 1, c, v2 =>
  if 110 ≤ v2 then
    bnd (f_X12_hexAt N c (p1 + 94)) fun x1 c2 =>
    bnd (f_X12_in c2 x1 1 100) fun x3 c4 =>
    if x3 = 0 then
      bnd (f_X12_fails c4 10 (p1 + 94)) fun x10 c11 =>
      bif j_b x10 then some (x10, c11) else none
    else
      bnd (f_X12_reaches c4 (((p1 + 110).toInt64) + x1)) fun x5 c6 =>
      if x5 = 0 then
        some (0, c6)
      else
        st1 (sI c6 201 14 (x1.toInt32 - 1)) fun c7 =>
        bif j_in ((p1 + 110) + (c7.1 201 14)) (ln 203) then
        if c7.1 203 ((p1 + 110) + (c7.1 201 14)).toNatClampNeg = 0 then
          f_X12_readDigitsHead_207 N p1 N c7 0
        else
          bnd (f_X12_fails c7 10 ((p1 + 110) + (c7.1 201 14))) fun x8 c9 =>
          bif j_b x8 then some (x8, c9) else none
        else none
  else
    bif j_in (p1 + v2) (ln 203) then
    bnd (f_X12_digitOf c (c.1 203 (p1 + v2).toNatClampNeg)) fun x12 c13 =>
    if 0 ≤ x12 then
      f_X12_readDigitsHead_80 N p1 n c13 (v2 + 1)
    else
      bnd (f_X12_fails c13 6 (p1 + v2)) fun x14 c15 =>
      bif j_b x14 then some (x14, c15) else none
    else none
noncomputable def f_X12_readDigitsHead_16 (N : Nat) (p1 : Int32) : Nat → hS → Int32 → Option (Int32 × hS)
  | 0, _, _ => none
  | n + 1, c, v2 =>
  if 6 ≤ v2 then
    f_X12_readDigitsHead_80 N p1 N c 6
  else
    if v2 = 1 then
      f_X12_readDigitsHead_32 N p1 (f_X12_readDigitsHead_16 N p1 n) c v2
    else
      if v2 = 3 then
        f_X12_readDigitsHead_32 N p1 (f_X12_readDigitsHead_16 N p1 n) c v2
      else
        if v2 = 5 then
          f_X12_readDigitsHead_49 N p1 (f_X12_readDigitsHead_16 N p1 n) c v2 49
        else
          f_X12_readDigitsHead_49 N p1 (f_X12_readDigitsHead_16 N p1 n) c v2 48
noncomputable def f_X12_readDigitsHead (N : Nat) (c : hS) (p1 : Int32) : Option (Int32 × hS) :=
  bnd (f_X12_reaches c ((p1 + 110).toInt64)) fun x1 c2 =>
  if x1 = 0 then
    some (0, c2)
  else
    f_X12_readDigitsHead_16 N p1 N c2 0
noncomputable def f_X12_trailerAt (c : hS) (p0 : Int32) : Option (Int32 × hS) :=
  if p0 = 0 then
    some (84, c)
  else
    if p0 = 1 then
      some (82, c)
    else
      if p0 = 6 then
        some (82, c)
      else
        if p0 = 2 then
          some (65, c)
        else
          if p0 = 3 then
            some (73, c)
          else
            if p0 = 4 then
              some (76, c)
            else
              if p0 = 5 then
                some (69, c)
              else
                some (33, c)
noncomputable def f_X12_isTrailer_17 (N : Nat) : Nat → hS → Int32 → Int32 → Option (Int32 × hS)
  | 0, _, _, _ => none
  | n + 1, c, v1, v2 =>
  if 10 ≤ v2 then
    bif j_b v1 then some (v1, c) else none
  else
    if v1 = 0 then
      bif j_b v1 then some (v1, c) else none
    else
      bif j_in v2 (ln 209) then
      bnd (f_X12_trailerAt c v2) fun x1 c2 =>
      if c.1 209 v2.toNatClampNeg = x1 then
        f_X12_isTrailer_17 N n c2 1 (v2 + 1)
      else
        f_X12_isTrailer_17 N n c2 0 (v2 + 1)
      else none
noncomputable def f_X12_isTrailer (N : Nat) (c : hS) : Option (Int32 × hS) :=
  if c.1 201 14 = 10 then
    f_X12_isTrailer_17 N N c 1 0
  else
    f_X12_isTrailer_17 N N c 0 0
noncomputable def f_X12_upToFour (c : hS) (p0 : Int32) : Option (Int32 × hS) :=
  some ((((p0 + 3) / 4) * 4), c)
noncomputable def f_X12_readDigits_160 (N : Nat) (k2 : hS → Int32 → Option (Int32 × hS)) (c : hS) (v1 : Int32) (v2 : Int64) (v4 : Int32) (w0 : Int64) (w1 : Int64) : Option (Int32 × hS) :=
  if j_cmp w1 w0 ≤ 0 then
    bnd (f_X12_isName N c) fun x1 c2 =>
    if x1 = 0 then
      bnd (f_X12_fails c2 10 (v1 + 110)) fun x12 c13 =>
      bif j_b x12 then some (x12, c13) else none
    else
      bnd (f_X12_upToFour c2 v4) fun x3 c4 =>
      bnd (f_X12_upToFour c4 (x3 + v2.toInt32)) fun x5 c6 =>
      bnd (f_X12_reaches c6 x5.toInt64) fun x7 c8 =>
      if x7 = 0 then
        some (0, c8)
      else
        bnd (f_X12_takeBytes N c8 x3 v2.toInt32) fun _ c9 =>
        bnd (f_X12_comes N c9 v1) fun x10 c11 =>
        if x10 = 0 then
          some (0, c11)
        else
          k2 c11 x5
  else
    bnd (f_X12_fails c 7 (v1 + 54)) fun x14 c15 =>
    bif j_b x14 then some (x14, c15) else none
noncomputable def f_X12_readDigits_142 (N : Nat) (k2 : hS → Int32 → Option (Int32 × hS)) (c : hS) (v1 : Int32) (v2 : Int64) (v4 : Int32) (w0 : Int32) : Option (Int32 × hS) :=
  bif j_b w0 then
  st1 (sI c 201 18 w0) fun c1 =>
  if c1.1 201 18 = 0 then
    f_X12_readDigits_160 N k2 c1 v1 v2 v4 400 v2
  else
    f_X12_readDigits_160 N k2 c1 v1 v2 v4 0 v2
  else none
noncomputable def f_X12_readDigits_107 (N : Nat) (k2 : hS → Int32 → Option (Int32 × hS)) (c : hS) (v1 : Int32) (v2 : Int64) (v4 : Int32) (v5 : Int32) : Option (Int32 × hS) :=
  bnd (f_X12_hexAt N c (v1 + 102)) fun x1 c2 =>
  if j_cmp x1 0 = 0 then
    if v5 = 4 then
      f_X12_readDigits_142 N k2 c2 v1 v2 v4 1
    else
      f_X12_readDigits_142 N k2 c2 v1 v2 v4 0
  else
    bnd (f_X12_fails c2 4 (v1 + 102)) fun x3 c4 =>
    bif j_b x3 then some (x3, c4) else none
noncomputable def f_X12_readDigits_2 (N : Nat) : Nat → hS → Int32 → Option (Int32 × hS)
  | 0, _, _ => none
  | n + 1, c, v1 =>
  bnd (f_X12_readDigitsHead N c v1) fun x1 c2 =>
  if x1 = 0 then
    some (0, c2)
  else
    bnd (f_X12_hexAt N c2 (v1 + 54)) fun x3 c4 =>
    bnd (f_X12_isTrailer N c4) fun x5 c6 =>
    if x5 = 0 then
      bnd (f_X12_hexAt N c6 (v1 + 14)) fun x7 c8 =>
      if ((j_lshr x7 12) &&& 15).toInt32 = 8 then
        f_X12_readDigits_107 N (f_X12_readDigits_2 N n) c8 v1 x3 ((v1 + 111) + (c4.1 201 14)) (((j_lshr x7 12) &&& 15).toInt32)
      else
        if ((j_lshr x7 12) &&& 15).toInt32 = 4 then
          f_X12_readDigits_107 N (f_X12_readDigits_2 N n) c8 v1 x3 ((v1 + 111) + (c4.1 201 14)) (((j_lshr x7 12) &&& 15).toInt32)
        else
          bnd (f_X12_fails c8 8 (v1 + 14)) fun x9 c10 =>
          bif j_b x9 then some (x9, c10) else none
    else
      if j_cmp x3 0 = 0 then
        bnd (f_X12_areZeros N c6 ((v1 + 111) + (c4.1 201 14))) fun x13 c14 =>
        bif j_b x13 then some (x13, c14) else none
      else
        bnd (f_X12_fails c6 7 (v1 + 54)) fun x11 c12 =>
        bif j_b x11 then some (x11, c12) else none
noncomputable def f_X12_readDigits (N : Nat) (c : hS) : Option (Int32 × hS) :=
  f_X12_readDigits_2 N N c 0
noncomputable def f_X12_twoAt (c : hS) (p1 : Int32) : Option (Int32 × hS) :=
  bif j_in p1 (ln 203) then
  bif j_in (p1 + 1) (ln 203) then
  some (((c.1 203 p1.toNatClampNeg) ||| (j_shl (c.1 203 (p1 + 1).toNatClampNeg) 8)), c)
  else none
  else none
noncomputable def f_X12_fourAt (c : hS) (p1 : Int32) : Option (Int64 × hS) :=
  bnd (f_X12_twoAt c p1) fun x1 c2 =>
  bnd (f_X12_twoAt c2 (p1 + 2)) fun x3 c4 =>
  some ((x1.toInt64 ||| (j_lshl x3.toInt64 16)), c4)
noncomputable def f_X12_isZeroAt_19 (p1 : Int32) (p2 : Int32) (p3 : Int32) (c : hS) (w0 : Int64) : Option (Int32 × hS) :=
  if j_cmp w0 0 = 0 then
    some (1, c)
  else
    bnd (f_X12_fails c p3 p1) fun x1 c2 =>
    if x1 = 0 then
      some (0, c2)
    else
      some (1, c2)
noncomputable def f_X12_isZeroAt (c : hS) (p1 : Int32) (p2 : Int32) (p3 : Int32) : Option (Int32 × hS) :=
  if p2 = 2 then
    bnd (f_X12_twoAt c p1) fun x3 c4 =>
    f_X12_isZeroAt_19 p1 p2 p3 c4 x3.toInt64
  else
    bnd (f_X12_fourAt c p1) fun x1 c2 =>
    f_X12_isZeroAt_19 p1 p2 p3 c2 x1
noncomputable def f_X12_readEnd (N : Nat) (c : hS) (p1 : Int32) : Option (Int32 × hS) :=
  bnd (f_X12_isRow N c p1 80 75 5 6 3) fun x1 c2 =>
  if x1 = 0 then
    some (0, c2)
  else
    bnd (f_X12_isZeroAt c2 (p1 + 4) 2 6) fun x3 c4 =>
    if x3 = 0 then
      some (0, c4)
    else
      bnd (f_X12_isZeroAt c4 (p1 + 6) 2 6) fun x5 c6 =>
      if x5 = 0 then
        some (0, c6)
      else
        bnd (f_X12_twoAt c6 (p1 + 8)) fun x7 c8 =>
        bnd (f_X12_twoAt c8 (p1 + 10)) fun x9 c10 =>
        if x7 = x9 then
          bnd (f_X12_twoAt c10 (p1 + 10)) fun x11 c12 =>
          if x11 ≤ 16 then
            bnd (f_X12_fourAt c12 (p1 + 12)) fun x13 c14 =>
            bnd (f_X12_fourAt c14 (p1 + 16)) fun x15 c16 =>
            if j_cmp (x13 + x15) p1.toInt64 = 0 then
              bnd (f_X12_isZeroAt c16 (p1 + 20) 2 6) fun x17 c18 =>
              bif j_b x17 then some (x17, c18) else none
            else
              bnd (f_X12_fails c16 12 (p1 + 12)) fun x19 c20 =>
              bif j_b x19 then some (x19, c20) else none
          else
            bnd (f_X12_fails c12 11 (p1 + 10)) fun x21 c22 =>
            bif j_b x21 then some (x21, c22) else none
        else
          bnd (f_X12_fails c10 6 (p1 + 8)) fun x23 c24 =>
          bif j_b x23 then some (x23, c24) else none
noncomputable def f_X12_readEntryHead_370 (N : Nat) (p1 : Int32) (p2 : Int32) : Nat → hS → Int32 → Option (Int32 × hS)
  | 0, _, _ => none
  | n + 1, c, v5 =>
  if c.1 201 14 ≤ v5 then
    bnd (f_X12_isName N c) fun x1 c2 =>
    if x1 = 0 then
      bnd (f_X12_fails c2 10 (p1 + 46)) fun x3 c4 =>
      if x3 = 0 then
        some (0, c4)
      else
        some (1, c4)
    else
      some (1, c2)
  else
    bif j_in ((p1 + 46) + v5) (ln 203) then
    bif j_in v5 (ln 209) then
    st1 (sI c 209 v5.toNatClampNeg (c.1 203 ((p1 + 46) + v5).toNatClampNeg)) fun c5 =>
    f_X12_readEntryHead_370 N p1 p2 n c5 (v5 + 1)
    else none
    else none
noncomputable def f_X12_readEntryHead_340 (N : Nat) (p1 : Int32) (p2 : Int32) (c : hS) (w0 : Int32) : Option (Int32 × hS) :=
  st1 (sI c 201 14 w0) fun c1 =>
  if c1.1 201 14 ≤ 299 then
    st1 (sI c1 201 14 (c1.1 201 14)) fun c2 =>
    f_X12_readEntryHead_370 N p1 p2 N c2 0
  else
    st1 (sI c1 201 14 299) fun c3 =>
    f_X12_readEntryHead_370 N p1 p2 N c3 0
noncomputable def f_X12_readEntryHead_323 (N : Nat) (p1 : Int32) (p2 : Int32) (c : hS) (v4 : Int32) : Option (Int32 × hS) :=
  if c.1 201 18 = 0 then
    f_X12_readEntryHead_340 N p1 p2 c v4
  else
    f_X12_readEntryHead_340 N p1 p2 c (v4 - 1)
noncomputable def f_X12_readEntryHead_262 (N : Nat) (p1 : Int32) (p2 : Int32) (c : hS) (v3 : Int32) (v4 : Int32) : Option (Int32 × hS) :=
  bnd (f_X12_fourAt c (p1 + 24)) fun x1 c2 =>
  if j_cmp x1 400 ≤ 0 then
    if v3 = 0 then
      bnd (f_X12_fourAt c2 (p1 + 20)) fun x3 c4 =>
      bnd (f_X12_fourAt c4 (p1 + 24)) fun x5 c6 =>
      if j_cmp x3 x5 = 0 then
        f_X12_readEntryHead_323 N p1 p2 c6 v4
      else
        bnd (f_X12_fails c6 7 (p1 + 20)) fun x7 c8 =>
        bif j_b x7 then some (x7, c8) else none
    else
      f_X12_readEntryHead_323 N p1 p2 c2 v4
  else
    bnd (f_X12_fails c2 7 (p1 + 24)) fun x9 c10 =>
    bif j_b x9 then some (x9, c10) else none
noncomputable def f_X12_readEntryHead_194 (N : Nat) (p1 : Int32) (p2 : Int32) (c : hS) (v3 : Int32) (v4 : Int32) (w0 : Int32) : Option (Int32 × hS) :=
  bif j_b w0 then
  st1 (sI c 201 18 w0) fun c1 =>
  if c1.1 201 18 = 0 then
    f_X12_readEntryHead_262 N p1 p2 c1 v3 v4
  else
    bnd (f_X12_isZeroAt c1 (p1 + 10) 2 7) fun x2 c3 =>
    if x2 = 0 then
      some (0, c3)
    else
      bnd (f_X12_isZeroAt c3 (p1 + 16) 4 7) fun x4 c5 =>
      if x4 = 0 then
        some (0, c5)
      else
        bnd (f_X12_isZeroAt c5 (p1 + 20) 4 7) fun x6 c7 =>
        if x6 = 0 then
          some (0, c7)
        else
          bnd (f_X12_isZeroAt c7 (p1 + 24) 4 7) fun x8 c9 =>
          if x8 = 0 then
            some (0, c9)
          else
            f_X12_readEntryHead_262 N p1 p2 c9 v3 v4
  else none
noncomputable def f_X12_readEntryHead_193 (N : Nat) (p1 : Int32) (p2 : Int32) (c : hS) (v3 : Int32) (v4 : Int32) : Option (Int32 × hS) :=
  f_X12_readEntryHead_194 N p1 p2 c v3 v4 0
noncomputable def f_X12_readEntryHead_103 (N : Nat) (p1 : Int32) (p2 : Int32) (c : hS) (v3 : Int32) : Option (Int32 × hS) :=
  bnd (f_X12_isZeroAt c (p1 + 34) 2 6) fun x1 c2 =>
  if x1 = 0 then
    some (0, c2)
  else
    bnd (f_X12_twoAt c2 (p1 + 28)) fun x3 c4 =>
    bnd (f_X12_twoAt c4 (p1 + 30)) fun x5 c6 =>
    bnd (f_X12_twoAt c6 (p1 + 32)) fun x7 c8 =>
    if ((((p1 + 46) + x3) + x5) + x7) ≤ p2 then
      if x3 ≤ 0 then
        f_X12_readEntryHead_193 N p1 p2 c8 v3 x3
      else
        bif j_in ((p1 + 45) + x3) (ln 203) then
        if c8.1 203 ((p1 + 45) + x3).toNatClampNeg = 47 then
          f_X12_readEntryHead_194 N p1 p2 c8 v3 x3 1
        else
          f_X12_readEntryHead_193 N p1 p2 c8 v3 x3
        else none
    else
      bnd (f_X12_fails c8 12 p1) fun x9 c10 =>
      bif j_b x9 then some (x9, c10) else none
noncomputable def f_X12_readEntryHead (N : Nat) (c : hS) (p1 : Int32) (p2 : Int32) : Option (Int32 × hS) :=
  if (p1 + 46) ≤ p2 then
    bnd (f_X12_isRow N c p1 80 75 1 2 3) fun x1 c2 =>
    if x1 = 0 then
      some (0, c2)
    else
      bnd (f_X12_twoAt c2 (p1 + 6)) fun x3 c4 =>
      if x3 ≤ 20 then
        bnd (f_X12_isZeroAt c4 (p1 + 8) 2 6) fun x5 c6 =>
        if x5 = 0 then
          some (0, c6)
        else
          bnd (f_X12_twoAt c6 (p1 + 10)) fun x7 c8 =>
          if x7 = 0 then
            f_X12_readEntryHead_103 N p1 p2 c8 x7
          else
            if x7 = 8 then
              f_X12_readEntryHead_103 N p1 p2 c8 x7
            else
              bnd (f_X12_fails c8 8 (p1 + 10)) fun x9 c10 =>
              bif j_b x9 then some (x9, c10) else none
      else
        bnd (f_X12_fails c4 6 (p1 + 6)) fun x11 c12 =>
        bif j_b x11 then some (x11, c12) else none
  else
    bnd (f_X12_fails c 12 p1) fun x13 c14 =>
    bif j_b x13 then some (x13, c14) else none
noncomputable def f_X12_isAsThere_35 (p1 : Int32) (p2 : Int32) (p3 : Int32) (c : hS) : Option (Int32 × hS) :=
  bnd (f_X12_fails c 13 p1) fun x1 c2 =>
  if x1 = 0 then
    some (0, c2)
  else
    some (1, c2)
noncomputable def f_X12_isAsThere (c : hS) (p1 : Int32) (p2 : Int32) (p3 : Int32) : Option (Int32 × hS) :=
  if p3 = 2 then
    bnd (f_X12_twoAt c p1) fun x5 c6 =>
    bnd (f_X12_twoAt c6 p2) fun x7 c8 =>
    if x5 = x7 then
      some (1, c8)
    else
      f_X12_isAsThere_35 p1 p2 p3 c8
  else
    bnd (f_X12_fourAt c p1) fun x1 c2 =>
    bnd (f_X12_fourAt c2 p2) fun x3 c4 =>
    if j_cmp x1 x3 = 0 then
      some (1, c4)
    else
      f_X12_isAsThere_35 p1 p2 p3 c4
noncomputable def f_X12_checkMore_6 (N : Nat) (p0 : Int32) (p1 : Int32) : Nat → hS → Int32 → Int32 → Option (Int32 × hS)
  | 0, _, _, _ => none
  | n + 1, c, v2, v3 =>
  if 8 ≤ v3 then
    some (v2, c)
  else
    if (v2 &&& 1) = 1 then
      f_X12_checkMore_6 N p0 p1 n c ((j_ushr v2 1) ^^^ (-306674912)) (v3 + 1)
    else
      f_X12_checkMore_6 N p0 p1 n c (j_ushr v2 1) (v3 + 1)
noncomputable def f_X12_checkMore (N : Nat) (c : hS) (p0 : Int32) (p1 : Int32) : Option (Int32 × hS) :=
  f_X12_checkMore_6 N p0 p1 N c (p0 ^^^ p1) 0
noncomputable def f_X12_bit (c : hS) : Option (Int32 × hS) :=
  if c.1 201 25 < c.1 201 26 then
    bif j_in ((c.1 201 25) / 8) (ln 203) then
    st1 (sI c 201 25 ((c.1 201 25) + 1)) fun c1 =>
    some (((j_shr (c.1 203 ((c.1 201 25) / 8).toNatClampNeg) (j_rem (c.1 201 25) 8)) &&& 1), c1)
    else none
  else
    bnd (f_X12_fails c 20 ((c.1 201 26) / 8)) fun x2 c3 =>
    some (0, c3)
noncomputable def f_X12_bits_4 (N : Nat) (p1 : Int32) : Nat → hS → Int32 → Int32 → Option (Int32 × hS)
  | 0, _, _, _ => none
  | n + 1, c, v2, v3 =>
  if p1 ≤ v3 then
    some (v2, c)
  else
    if c.1 201 5 = 0 then
      bnd (f_X12_bit c) fun x1 c2 =>
      f_X12_bits_4 N p1 n c2 (v2 ||| (j_shl x1 v3)) (v3 + 1)
    else
      some (v2, c)
noncomputable def f_X12_bits (N : Nat) (c : hS) (p1 : Int32) : Option (Int32 × hS) :=
  f_X12_bits_4 N p1 N c 0 0
noncomputable def f_X12_layCodes_19 (N : Nat) (p1 : Int32) (p2 : Int32) (k5 : hS → Int32 → Int32 → Option (Unit × hS)) : Nat → hS → Int32 → Int32 → Int32 → Option (Unit × hS)
  | 0, _, _, _, _ => none
  | n + 1, c, v3, v4, v5 =>
  if (p1 + p2) ≤ v5 then
    k5 c v3 (v4 + 1)
  else
    bif j_in v5 (ln 212) then
    if c.1 212 v5.toNatClampNeg = v4 then
      bif j_in v5 (ln 213) then
      st1 (sI c 213 v5.toNatClampNeg v3) fun c1 =>
      f_X12_layCodes_19 N p1 p2 k5 n c1 (v3 + 1) v4 (v5 + 1)
      else none
    else
      f_X12_layCodes_19 N p1 p2 k5 n c v3 v4 (v5 + 1)
    else none
noncomputable def f_X12_layCodes_5 (N : Nat) (p1 : Int32) (p2 : Int32) : Nat → hS → Int32 → Int32 → Option (Unit × hS)
  | 0, _, _, _ => none
  | n + 1, c, v3, v4 =>
  if 16 ≤ v4 then
    some ((), c)
  else
    f_X12_layCodes_19 N p1 p2 (f_X12_layCodes_5 N p1 p2 n) N c (2 * v3) v4 p1
noncomputable def f_X12_layCodes (N : Nat) (c : hS) (p1 : Int32) (p2 : Int32) : Option (Unit × hS) :=
  f_X12_layCodes_5 N p1 p2 N c 0 1
noncomputable def f_X12_layFixed_61 (N : Nat) : Nat → hS → Int32 → Option (Unit × hS)
  | 0, _, _ => none
  | n + 1, c, v1 =>
  if 32 ≤ v1 then
    bnd (f_X12_layCodes N c 0 288) fun _ c1 =>
    bnd (f_X12_layCodes N c1 300 32) fun _ c2 =>
    some ((), c2)
  else
    bif j_in (300 + v1) (ln 212) then
    st1 (sI c 212 (300 + v1).toNatClampNeg 5) fun c3 =>
    f_X12_layFixed_61 N n c3 (v1 + 1)
    else none
noncomputable def f_X12_layFixed_2 (N : Nat) : Nat → hS → Int32 → Option (Unit × hS)
  | 0, _, _ => none
  | n + 1, c, v1 =>
  if 288 ≤ v1 then
    f_X12_layFixed_61 N N c 0
  else
    if 144 ≤ v1 then
      if 256 ≤ v1 then
        if 280 ≤ v1 then
          bif j_in v1 (ln 212) then
          st1 (sI c 212 v1.toNatClampNeg 8) fun c1 =>
          f_X12_layFixed_2 N n c1 (v1 + 1)
          else none
        else
          bif j_in v1 (ln 212) then
          st1 (sI c 212 v1.toNatClampNeg 7) fun c2 =>
          f_X12_layFixed_2 N n c2 (v1 + 1)
          else none
      else
        bif j_in v1 (ln 212) then
        st1 (sI c 212 v1.toNatClampNeg 9) fun c3 =>
        f_X12_layFixed_2 N n c3 (v1 + 1)
        else none
    else
      bif j_in v1 (ln 212) then
      st1 (sI c 212 v1.toNatClampNeg 8) fun c4 =>
      f_X12_layFixed_2 N n c4 (v1 + 1)
      else none
noncomputable def f_X12_layFixed (N : Nat) (c : hS) : Option (Unit × hS) :=
  f_X12_layFixed_2 N N c 0
noncomputable def f_X12_add (c : hS) (p1 : Int32) (p2 : Int32) : Option (Int32 × hS) :=
  if c.1 201 23 = c.1 201 24 then
    bnd (f_X12_fails c 23 p2) fun x3 c4 =>
    bif j_b x3 then some (x3, c4) else none
  else
    bif j_in (c.1 201 23) (ln 211) then
    st1 (sI c 211 (c.1 201 23).toNatClampNeg p1) fun c1 =>
    st1 (sI c1 201 23 ((c1.1 201 23) + 1)) fun c2 =>
    some (1, c2)
    else none
noncomputable def f_X12_plain_60 (N : Nat) (p1 : Int32) : Nat → hS → Int32 → Int32 → Option (Int32 × hS)
  | 0, _, _, _ => none
  | n + 1, c, v2, v4 =>
  if v2 ≤ v4 then
    some (1, c)
  else
    bnd (f_X12_bits N c 8) fun x1 c2 =>
    if c2.1 201 5 = 0 then
      bnd (f_X12_add c2 x1 ((c.1 201 25) / 8)) fun x3 c4 =>
      if x3 = 0 then
        some (0, c4)
      else
        f_X12_plain_60 N p1 n c4 v2 (v4 + 1)
    else
      some (0, c2)
noncomputable def f_X12_plain (N : Nat) (c : hS) (p1 : Int32) : Option (Int32 × hS) :=
  st1 (sI c 201 25 ((((c.1 201 25) + 7) / 8) * 8)) fun c1 =>
  bnd (f_X12_bits N c1 16) fun x2 c3 =>
  bnd (f_X12_bits N c3 16) fun x4 c5 =>
  if c5.1 201 5 = 0 then
    if (x2 + x4) = 65535 then
      f_X12_plain_60 N p1 N c5 x2 0
    else
      bnd (f_X12_fails c5 22 p1) fun x6 c7 =>
      bif j_b x6 then some (x6, c7) else none
  else
    some (0, c5)
noncomputable def f_X12_fullness_5 (N : Nat) (p1 : Int32) (p2 : Int32) : Nat → hS → Int32 → Int32 → Option (Int32 × hS)
  | 0, _, _, _ => none
  | n + 1, c, v3, v4 =>
  if (p1 + p2) ≤ v4 then
    some (v3, c)
  else
    bif j_in v4 (ln 212) then
    if c.1 212 v4.toNatClampNeg ≤ 0 then
      f_X12_fullness_5 N p1 p2 n c (v3 + 0) (v4 + 1)
    else
      bif j_in v4 (ln 212) then
      f_X12_fullness_5 N p1 p2 n c (v3 + (j_shr 32768 (c.1 212 v4.toNatClampNeg))) (v4 + 1)
      else none
    else none
noncomputable def f_X12_fullness (N : Nat) (c : hS) (p1 : Int32) (p2 : Int32) : Option (Int32 × hS) :=
  f_X12_fullness_5 N p1 p2 N c 0 p1
noncomputable def f_X12_order (c : hS) (p1 : Int32) : Option (Int32 × hS) :=
  if 3 ≤ p1 then
    if p1 = 3 then
      some (0, c)
    else
      if (j_rem p1 2) = 0 then
        some ((8 + ((p1 - 4) / 2)), c)
      else
        some ((7 - ((p1 - 5) / 2)), c)
  else
    some ((16 + p1), c)
noncomputable def f_X12_symbol_83 (N : Nat) (p1 : Int32) (p2 : Int32) (k48 : hS → Int32 → Int32 → Int32 → Option (Int32 × hS)) : Nat → hS → Int32 → Int32 → Int32 → Int32 → Option (Int32 × hS)
  | 0, _, _, _, _, _ => none
  | n + 1, c, v3, v4, v5, v6 =>
  if (p1 + p2) ≤ v6 then
    k48 c v3 v4 (v5 + 1)
  else
    bif j_in v6 (ln 212) then
    if c.1 212 v6.toNatClampNeg = v5 then
      bif j_in v6 (ln 213) then
      if c.1 213 v6.toNatClampNeg = v4 then
        some ((v6 - p1), c)
      else
        f_X12_symbol_83 N p1 p2 k48 n c v3 v4 v5 (v6 + 1)
      else none
    else
      f_X12_symbol_83 N p1 p2 k48 n c v3 v4 v5 (v6 + 1)
    else none
noncomputable def f_X12_symbol_60 (N : Nat) (p1 : Int32) (p2 : Int32) (k48 : hS → Int32 → Int32 → Int32 → Option (Int32 × hS)) (c : hS) (v3 : Int32) (v4 : Int32) (v5 : Int32) : Option (Int32 × hS) :=
  bnd (f_X12_bit c) fun x1 c2 =>
  if c2.1 201 5 = 0 then
    f_X12_symbol_83 N p1 p2 k48 N c2 v3 ((j_shl v4 1) ||| x1) v5 p1
  else
    some ((-1), c2)
noncomputable def f_X12_symbol_48 (N : Nat) (p1 : Int32) (p2 : Int32) : Nat → hS → Int32 → Int32 → Int32 → Option (Int32 × hS)
  | 0, _, _, _, _ => none
  | n + 1, c, v3, v4, v5 =>
  if v5 ≤ v3 then
    f_X12_symbol_60 N p1 p2 (f_X12_symbol_48 N p1 p2 n) c v3 v4 v5
  else
    if v5 = 1 then
      f_X12_symbol_60 N p1 p2 (f_X12_symbol_48 N p1 p2 n) c v3 v4 v5
    else
      some ((-2), c)
noncomputable def f_X12_symbol_5 (N : Nat) (p1 : Int32) (p2 : Int32) : Nat → hS → Int32 → Int32 → Option (Int32 × hS)
  | 0, _, _, _ => none
  | n + 1, c, v3, v4 =>
  if (p1 + p2) ≤ v4 then
    f_X12_symbol_48 N p1 p2 N c v3 0 1
  else
    bif j_in v4 (ln 212) then
    if c.1 212 v4.toNatClampNeg ≤ v3 then
      f_X12_symbol_5 N p1 p2 n c v3 (v4 + 1)
    else
      bif j_in v4 (ln 212) then
      f_X12_symbol_5 N p1 p2 n c (c.1 212 v4.toNatClampNeg) (v4 + 1)
      else none
    else none
noncomputable def f_X12_symbol (N : Nat) (c : hS) (p1 : Int32) (p2 : Int32) : Option (Int32 × hS) :=
  f_X12_symbol_5 N p1 p2 N c 0 p1
noncomputable def f_X12_readRow_161 (N : Nat) (p1 : Int32) (p2 : Int32) (k2 : hS → Int32 → Option (Int32 × hS)) : Nat → hS → Int32 → Int32 → Int32 → Int32 → Option (Int32 × hS)
  | 0, _, _, _, _, _ => none
  | n + 1, c, v3, v5, v6, v7 =>
  if v5 ≤ v7 then
    k2 c v3
  else
    bif j_in v3 (ln 214) then
    st1 (sI c 214 v3.toNatClampNeg v6) fun c1 =>
    f_X12_readRow_161 N p1 p2 k2 n c1 (v3 + 1) v5 v6 (v7 + 1)
    else none
noncomputable def f_X12_readRow_110 (N : Nat) (p1 : Int32) (p2 : Int32) (k2 : hS → Int32 → Option (Int32 × hS)) (c : hS) (v3 : Int32) (v4 : Int32) (w0 : Int32) : Option (Int32 × hS) :=
  if c.1 201 5 = 0 then
    if (v3 + w0) ≤ p1 then
      if v4 = 16 then
        bif j_in (v3 - 1) (ln 214) then
        f_X12_readRow_161 N p1 p2 k2 N c v3 w0 (c.1 214 (v3 - 1).toNatClampNeg) 0
        else none
      else
        f_X12_readRow_161 N p1 p2 k2 N c v3 w0 0 0
    else
      bnd (f_X12_fails c 24 p2) fun x1 c2 =>
      bif j_b x1 then some (x1, c2) else none
  else
    some (0, c)
noncomputable def f_X12_readRow_67 (N : Nat) (p1 : Int32) (p2 : Int32) (k2 : hS → Int32 → Option (Int32 × hS)) (c : hS) (v3 : Int32) (v4 : Int32) : Option (Int32 × hS) :=
  if v4 = 16 then
    bnd (f_X12_bits N c 2) fun x5 c6 =>
    f_X12_readRow_110 N p1 p2 k2 c6 v3 v4 (3 + x5)
  else
    if v4 = 17 then
      bnd (f_X12_bits N c 3) fun x3 c4 =>
      f_X12_readRow_110 N p1 p2 k2 c4 v3 v4 (3 + x3)
    else
      bnd (f_X12_bits N c 7) fun x1 c2 =>
      f_X12_readRow_110 N p1 p2 k2 c2 v3 v4 (11 + x1)
noncomputable def f_X12_readRow_2 (N : Nat) (p1 : Int32) (p2 : Int32) : Nat → hS → Int32 → Option (Int32 × hS)
  | 0, _, _ => none
  | n + 1, c, v3 =>
  if p1 ≤ v3 then
    some (1, c)
  else
    bnd (f_X12_symbol N c 340 19) fun x1 c2 =>
    if c2.1 201 5 = 0 then
      if 16 ≤ x1 then
        if x1 = 16 then
          if v3 = 0 then
            bnd (f_X12_fails c2 24 p2) fun x3 c4 =>
            bif j_b x3 then some (x3, c4) else none
          else
            f_X12_readRow_67 N p1 p2 (f_X12_readRow_2 N p1 p2 n) c2 v3 x1
        else
          f_X12_readRow_67 N p1 p2 (f_X12_readRow_2 N p1 p2 n) c2 v3 x1
      else
        bif j_in v3 (ln 214) then
        st1 (sI c2 214 v3.toNatClampNeg x1) fun c5 =>
        f_X12_readRow_2 N p1 p2 n c5 (v3 + 1)
        else none
    else
      some (0, c2)
noncomputable def f_X12_readRow (N : Nat) (c : hS) (p1 : Int32) (p2 : Int32) : Option (Int32 × hS) :=
  f_X12_readRow_2 N p1 p2 N c 0
noncomputable def f_X12_readCodes_279 (N : Nat) (p1 : Int32) (k221 : hS → Int32 → Int32 → Int32 → Int32 → Int32 → Option (Int32 × hS)) (c : hS) (v2 : Int32) (v3 : Int32) (v6 : Int32) (v7 : Int32) (w0 : Int32) (w1 : Int32) : Option (Int32 × hS) :=
  bif j_in (300 + v7) (ln 212) then
  if c.1 212 (300 + v7).toNatClampNeg = 1 then
    k221 c v2 v3 (w1 + w0) (v6 + 1) (v7 + 1)
  else
    k221 c v2 v3 (w1 + w0) (v6 + 0) (v7 + 1)
  else none
noncomputable def f_X12_readCodes_257 (N : Nat) (p1 : Int32) (k221 : hS → Int32 → Int32 → Int32 → Int32 → Int32 → Option (Int32 × hS)) (c : hS) (v2 : Int32) (v3 : Int32) (v5 : Int32) (v6 : Int32) (v7 : Int32) (w0 : Int32) (w1 : Int32) : Option (Int32 × hS) :=
  bif j_in w1 (ln 212) then
  st1 (sI c 212 w1.toNatClampNeg w0) fun c1 =>
  bif j_in (300 + v7) (ln 212) then
  if c1.1 212 (300 + v7).toNatClampNeg ≤ 0 then
    f_X12_readCodes_279 N p1 k221 c1 v2 v3 v6 v7 0 v5
  else
    f_X12_readCodes_279 N p1 k221 c1 v2 v3 v6 v7 1 v5
  else none
  else none
noncomputable def f_X12_readCodes_350 (N : Nat) (p1 : Int32) (c : hS) (w0 : Int32) : Option (Int32 × hS) :=
  bif j_in 256 (ln 212) then
  if c.1 212 (256 : Int32).toNatClampNeg = 0 then
    bnd (f_X12_fails c 24 p1) fun x1 c2 =>
    bif j_b x1 then some (x1, c2) else none
  else
    bnd (f_X12_fullness N c 0 288) fun x3 c4 =>
    if x3 = 32768 then
      if w0 = 0 then
        bnd (f_X12_fails c4 24 p1) fun x9 c10 =>
        bif j_b x9 then some (x9, c10) else none
      else
        bnd (f_X12_layCodes N c4 0 288) fun _ c7 =>
        bnd (f_X12_layCodes N c7 300 32) fun _ c8 =>
        some (1, c8)
    else
      bnd (f_X12_fails c4 24 p1) fun x5 c6 =>
      bif j_b x5 then some (x5, c6) else none
  else none
noncomputable def f_X12_readCodes_345 (N : Nat) (p1 : Int32) (c : hS) : Option (Int32 × hS) :=
  f_X12_readCodes_350 N p1 c 1
noncomputable def f_X12_readCodes_349 (N : Nat) (p1 : Int32) (c : hS) : Option (Int32 × hS) :=
  f_X12_readCodes_350 N p1 c 0
noncomputable def f_X12_readCodes_221 (N : Nat) (p1 : Int32) : Nat → hS → Int32 → Int32 → Int32 → Int32 → Int32 → Option (Int32 × hS)
  | 0, _, _, _, _, _, _ => none
  | n + 1, c, v2, v3, v5, v6, v7 =>
  if 32 ≤ v7 then
    bnd (f_X12_fullness N c 300 32) fun x1 c2 =>
    if x1 = 32768 then
      f_X12_readCodes_345 N p1 c2
    else
      if v5 = 0 then
        f_X12_readCodes_345 N p1 c2
      else
        if v5 = 1 then
          if v6 = 1 then
            f_X12_readCodes_345 N p1 c2
          else
            f_X12_readCodes_349 N p1 c2
        else
          f_X12_readCodes_349 N p1 c2
  else
    if v3 ≤ v7 then
      f_X12_readCodes_257 N p1 (f_X12_readCodes_221 N p1 n) c v2 v3 v5 v6 v7 0 (300 + v7)
    else
      bif j_in (v2 + v7) (ln 214) then
      f_X12_readCodes_257 N p1 (f_X12_readCodes_221 N p1 n) c v2 v3 v5 v6 v7 (c.1 214 (v2 + v7).toNatClampNeg) (300 + v7)
      else none
noncomputable def f_X12_readCodes_174 (N : Nat) (p1 : Int32) : Nat → hS → Int32 → Int32 → Int32 → Option (Int32 × hS)
  | 0, _, _, _, _ => none
  | n + 1, c, v2, v3, v5 =>
  if 288 ≤ v5 then
    f_X12_readCodes_221 N p1 N c v2 v3 0 0 0
  else
    if v2 ≤ v5 then
      bif j_in v5 (ln 212) then
      st1 (sI c 212 v5.toNatClampNeg 0) fun c1 =>
      f_X12_readCodes_174 N p1 n c1 v2 v3 (v5 + 1)
      else none
    else
      bif j_in v5 (ln 214) then
      bif j_in v5 (ln 212) then
      st1 (sI c 212 v5.toNatClampNeg (c.1 214 v5.toNatClampNeg)) fun c2 =>
      f_X12_readCodes_174 N p1 n c2 v2 v3 (v5 + 1)
      else none
      else none
noncomputable def f_X12_readCodes_73 (N : Nat) (p1 : Int32) : Nat → hS → Int32 → Int32 → Int32 → Int32 → Option (Int32 × hS)
  | 0, _, _, _, _, _ => none
  | n + 1, c, v2, v3, v4, v5 =>
  if 19 ≤ v5 then
    if c.1 201 5 = 0 then
      bnd (f_X12_fullness N c 340 19) fun x1 c2 =>
      if x1 = 32768 then
        bnd (f_X12_layCodes N c2 340 19) fun _ c3 =>
        bnd (f_X12_readRow N c3 (v2 + v3) p1) fun x4 c5 =>
        if x4 = 0 then
          some (0, c5)
        else
          f_X12_readCodes_174 N p1 N c5 v2 v3 0
      else
        bnd (f_X12_fails c2 24 p1) fun x6 c7 =>
        bif j_b x6 then some (x6, c7) else none
    else
      some (0, c)
  else
    bnd (f_X12_order c v5) fun x8 c9 =>
    if v4 ≤ v5 then
      bif j_in (340 + x8) (ln 212) then
      st1 (sI c9 212 (340 + x8).toNatClampNeg 0) fun c10 =>
      f_X12_readCodes_73 N p1 n c10 v2 v3 v4 (v5 + 1)
      else none
    else
      bnd (f_X12_bits N c9 3) fun x11 c12 =>
      bif j_in (340 + x8) (ln 212) then
      st1 (sI c12 212 (340 + x8).toNatClampNeg x11) fun c13 =>
      f_X12_readCodes_73 N p1 n c13 v2 v3 v4 (v5 + 1)
      else none
noncomputable def f_X12_readCodes_61 (N : Nat) (p1 : Int32) (c : hS) (v2 : Int32) (v3 : Int32) : Option (Int32 × hS) :=
  bnd (f_X12_bits N c 4) fun x1 c2 =>
  f_X12_readCodes_73 N p1 N c2 v2 v3 (4 + x1) 0
noncomputable def f_X12_readCodes_32 (N : Nat) (p1 : Int32) (c : hS) (v2 : Int32) : Option (Int32 × hS) :=
  bnd (f_X12_bits N c 5) fun x1 c2 =>
  if c2.1 201 5 = 0 then
    if (1 + x1) ≤ 30 then
      f_X12_readCodes_61 N p1 c2 v2 (1 + x1)
    else
      bnd (f_X12_fails c2 24 p1) fun x3 c4 =>
      bif j_b x3 then some (x3, c4) else none
  else
    f_X12_readCodes_61 N p1 c2 v2 (1 + x1)
noncomputable def f_X12_readCodes (N : Nat) (c : hS) (p1 : Int32) : Option (Int32 × hS) :=
  bnd (f_X12_bits N c 5) fun x1 c2 =>
  if c2.1 201 5 = 0 then
    if (257 + x1) ≤ 286 then
      f_X12_readCodes_32 N p1 c2 (257 + x1)
    else
      bnd (f_X12_fails c2 24 p1) fun x3 c4 =>
      bif j_b x3 then some (x3, c4) else none
  else
    f_X12_readCodes_32 N p1 c2 (257 + x1)
noncomputable def f_X12_distanceOf (c : hS) (p1 : Int32) : Option (Int32 × hS) :=
  st1 (sI c 201 30 0) fun c1 =>
  if 4 ≤ p1 then
    st1 (sI c1 201 30 ((p1 / 2) - 1)) fun c2 =>
    some ((1 + (j_shl (2 + (j_rem p1 2)) (c2.1 201 30))), c2)
  else
    some ((1 + p1), c1)
noncomputable def f_X12_lengthOf (c : hS) (p1 : Int32) : Option (Int32 × hS) :=
  st1 (sI c 201 30 0) fun c1 =>
  if p1 = 28 then
    some (258, c1)
  else
    if 8 ≤ p1 then
      st1 (sI c1 201 30 ((p1 / 4) - 1)) fun c2 =>
      some ((3 + (j_shl (4 + (j_rem p1 4)) (c2.1 201 30))), c2)
    else
      some ((3 + p1), c1)
