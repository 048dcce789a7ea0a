/-! THE METHODS AS FUNCTIONS, printed by gen_l1.py -/
noncomputable def f_X12_readSymbols_193 (N : Nat) (k0 : hS → Option (Int32 × hS)) : Nat → hS → Int32 → Int32 → Int32 → Int32 → Option (Int32 × hS)
  | 0, _, _, _, _, _ => none
  | n + 1, c, v1, v3, v5, v6 =>
  if v3 ≤ v6 then
    k0 c
  else
    bif j_in ((c.1 201 23) - v5) (ln 211) then
    bnd (f_X12_add c (c.1 211 ((c.1 201 23) - v5).toNatClampNeg) v1) fun x1 c2 =>
    if x1 = 0 then
      some (0, c2)
    else
      f_X12_readSymbols_193 N k0 n c2 v1 v3 v5 (v6 + 1)
    else none
noncomputable def f_X12_readSymbols_0 (N : Nat) : Nat → hS → Option (Int32 × hS)
  | 0, _ => none
  | n + 1, c =>
  bnd (f_X12_symbol N c 0 288) fun x1 c2 =>
  if x1 = (-1) then
    some (0, c2)
  else
    if x1 = (-2) then
      bnd (f_X12_fails c2 25 ((c.1 201 25) / 8)) fun x3 c4 =>
      bif j_b x3 then some (x3, c4) else none
    else
      if x1 ≤ 285 then
        if x1 = 256 then
          some (1, c2)
        else
          if 256 ≤ x1 then
            bnd (f_X12_lengthOf c2 (x1 - 257)) fun x5 c6 =>
            bnd (f_X12_bits N c6 (c6.1 201 30)) fun x7 c8 =>
            if c8.1 201 5 = 0 then
              bnd (f_X12_symbol N c8 300 32) fun x9 c10 =>
              if x9 = (-1) then
                some (0, c10)
              else
                if x9 = (-2) then
                  bnd (f_X12_fails c10 25 ((c.1 201 25) / 8)) fun x11 c12 =>
                  bif j_b x11 then some (x11, c12) else none
                else
                  if x9 ≤ 29 then
                    bnd (f_X12_distanceOf c10 x9) fun x13 c14 =>
                    bnd (f_X12_bits N c14 (c14.1 201 30)) fun x15 c16 =>
                    if c16.1 201 5 = 0 then
                      if (x13 + x15) ≤ c16.1 201 23 then
                        f_X12_readSymbols_193 N (f_X12_readSymbols_0 N n) N c16 ((c.1 201 25) / 8) (x5 + x7) (x13 + x15) 0
                      else
                        bnd (f_X12_fails c16 26 ((c.1 201 25) / 8)) fun x17 c18 =>
                        bif j_b x17 then some (x17, c18) else none
                    else
                      some (0, c16)
                  else
                    bnd (f_X12_fails c10 25 ((c.1 201 25) / 8)) fun x19 c20 =>
                    bif j_b x19 then some (x19, c20) else none
            else
              some (0, c8)
          else
            bnd (f_X12_add c2 x1 ((c.1 201 25) / 8)) fun x21 c22 =>
            if x21 = 0 then
              some (0, c22)
            else
              f_X12_readSymbols_0 N n c22
      else
        bnd (f_X12_fails c2 25 ((c.1 201 25) / 8)) fun x23 c24 =>
        bif j_b x23 then some (x23, c24) else none
noncomputable def f_X12_readSymbols (N : Nat) (c : hS) : Option (Int32 × hS) :=
  f_X12_readSymbols_0 N N c
noncomputable def f_X12_unpackFrom_129 (N : Nat) (p1 : Int32) (p2 : Int32) (p3 : Int32) (k29 : hS → Int32 → Option (Int32 × hS)) (c : hS) (v4 : Int32) (v7 : Int32) : Option (Int32 × hS) :=
  if v7 = 0 then
    some (0, c)
  else
    bnd (f_X12_readSymbols N c) fun x1 c2 =>
    if x1 = 0 then
      some (0, c2)
    else
      k29 c2 v4
noncomputable def f_X12_unpackFrom_56 (N : Nat) (p1 : Int32) (p2 : Int32) (p3 : Int32) (k29 : hS → Int32 → Option (Int32 × hS)) (c : hS) (v5 : Int32) (w0 : Int32) : Option (Int32 × hS) :=
  bnd (f_X12_bits N c 2) fun x1 c2 =>
  if c2.1 201 5 = 0 then
    if x1 = 3 then
      bnd (f_X12_fails c2 21 v5) fun x8 c9 =>
      bif j_b x8 then some (x8, c9) else none
    else
      if x1 = 0 then
        bnd (f_X12_plain N c2 v5) fun x6 c7 =>
        if x6 = 0 then
          some (0, c7)
        else
          k29 c7 w0
      else
        if x1 = 1 then
          bnd (f_X12_layFixed N c2) fun _ c5 =>
          f_X12_unpackFrom_129 N p1 p2 p3 k29 c5 w0 1
        else
          bnd (f_X12_readCodes N c2 v5) fun x3 c4 =>
          f_X12_unpackFrom_129 N p1 p2 p3 k29 c4 w0 x3
  else
    some (0, c2)
noncomputable def f_X12_unpackFrom_29 (N : Nat) (p1 : Int32) (p2 : Int32) (p3 : Int32) : Nat → hS → Int32 → Option (Int32 × hS)
  | 0, _, _ => none
  | n + 1, c, v4 =>
  if v4 = 0 then
    bnd (f_X12_bit c) fun x3 c4 =>
    if x3 = 1 then
      f_X12_unpackFrom_56 N p1 p2 p3 (f_X12_unpackFrom_29 N p1 p2 p3 n) c4 ((c.1 201 25) / 8) 1
    else
      f_X12_unpackFrom_56 N p1 p2 p3 (f_X12_unpackFrom_29 N p1 p2 p3 n) c4 ((c.1 201 25) / 8) 0
  else
    if (((c.1 201 25) + 7) / 8) = p2 then
      some (1, c)
    else
      bnd (f_X12_fails c 27 (((c.1 201 25) + 7) / 8)) fun x1 c2 =>
      if x1 = 0 then
        some (0, c2)
      else
        some (1, c2)
noncomputable def f_X12_unpackFrom (N : Nat) (c : hS) (p1 : Int32) (p2 : Int32) (p3 : Int32) : Option (Int32 × hS) :=
  st1 (sI c 201 25 (8 * p1)) fun c1 =>
  st1 (sI c1 201 26 (8 * p2)) fun c2 =>
  st1 (sI c2 201 24 p3) fun c3 =>
  st1 (sI c3 201 23 0) fun c4 =>
  f_X12_unpackFrom_29 N p1 p2 p3 N c4 0
noncomputable def f_X12_readContent_112 (N : Nat) (p1 : Int32) (p2 : Int32) (p3 : Int32) : Nat → hS → Int32 → Int32 → Option (Int32 × hS)
  | 0, _, _, _ => none
  | n + 1, c, v5, v6 =>
  if c.1 201 16 ≤ v6 then
    bnd (f_X12_fourAt c (p1 + 16)) fun x1 c2 =>
    if (v5 ^^^ (-1)) = x1.toInt32 then
      some (1, c2)
    else
      bnd (f_X12_fails c2 4 (p1 + 16)) fun x3 c4 =>
      if x3 = 0 then
        some (0, c4)
      else
        some (1, c4)
  else
    bif j_in v6 (ln 210) then
    bnd (f_X12_checkMore N c v5 (c.1 210 v6.toNatClampNeg)) fun x5 c6 =>
    f_X12_readContent_112 N p1 p2 p3 n c6 x5 (v6 + 1)
    else none
noncomputable def f_X12_readContent_77 (N : Nat) (p1 : Int32) (p2 : Int32) (p3 : Int32) : Nat → hS → Int32 → Option (Int32 × hS)
  | 0, _, _ => none
  | n + 1, c, v5 =>
  if c.1 201 23 ≤ v5 then
    f_X12_readContent_112 N p1 p2 p3 N c (-1) 0
  else
    bif j_in v5 (ln 211) then
    bif j_in v5 (ln 210) then
    st1 (sI c 210 v5.toNatClampNeg (c.1 211 v5.toNatClampNeg)) fun c1 =>
    f_X12_readContent_77 N p1 p2 p3 n c1 (v5 + 1)
    else none
    else none
noncomputable def f_X12_readContent (N : Nat) (c : hS) (p1 : Int32) (p2 : Int32) (p3 : Int32) : Option (Int32 × hS) :=
  bnd (f_X12_fourAt c (p1 + 24)) fun x1 c2 =>
  bnd (f_X12_twoAt c2 (p1 + 10)) fun x3 c4 =>
  if x3 = 0 then
    bnd (f_X12_takeBytes N c4 p2 p3) fun _ c10 =>
    f_X12_readContent_112 N p1 p2 p3 N c10 (-1) 0
  else
    bnd (f_X12_unpackFrom N c4 p2 (p2 + p3) x1.toInt32) fun x5 c6 =>
    if x5 = 0 then
      some (0, c6)
    else
      if c6.1 201 23 = x1.toInt32 then
        st1 (sI c6 201 16 (c6.1 201 23)) fun c7 =>
        f_X12_readContent_77 N p1 p2 p3 N c7 0
      else
        bnd (f_X12_fails c6 14 (p1 + 24)) fun x8 c9 =>
        bif j_b x8 then some (x8, c9) else none
noncomputable def f_X12_readLocal_170 (N : Nat) (p1 : Int32) (p2 : Int32) : Nat → hS → Int32 → Int32 → Int32 → Option (Int32 × hS)
  | 0, _, _, _, _ => none
  | n + 1, c, v5, v6, v7 =>
  if v6 ≤ v7 then
    bnd (f_X12_twoAt c (v5 + 28)) fun x1 c2 =>
    bnd (f_X12_fourAt c2 (p1 + 20)) fun x3 c4 =>
    if j_cmp ((((v5.toInt64 + 30) + v6.toInt64) + x1.toInt64) + x3) p2.toInt64 ≤ 0 then
      bnd (f_X12_readContent N c4 p1 ((((v5.toInt64 + 30) + v6.toInt64) + x1.toInt64).toInt32) x3.toInt32) fun x5 c6 =>
      bif j_b x5 then some (x5, c6) else none
    else
      bnd (f_X12_fails c4 12 (p1 + 42)) fun x7 c8 =>
      bif j_b x7 then some (x7, c8) else none
  else
    bif j_in ((v5 + 30) + v7) (ln 203) then
    bif j_in ((p1 + 46) + v7) (ln 203) then
    if c.1 203 ((v5 + 30) + v7).toNatClampNeg = c.1 203 ((p1 + 46) + v7).toNatClampNeg then
      f_X12_readLocal_170 N p1 p2 n c v5 v6 (v7 + 1)
    else
      bnd (f_X12_fails c 13 ((v5 + 30) + v7)) fun x9 c10 =>
      bif j_b x9 then some (x9, c10) else none
    else none
    else none
noncomputable def f_X12_readLocal (N : Nat) (c : hS) (p1 : Int32) (p2 : Int32) : Option (Int32 × hS) :=
  bnd (f_X12_fourAt c (p1 + 42)) fun x1 c2 =>
  if j_cmp (x1 + 30) p2.toInt64 ≤ 0 then
    bnd (f_X12_isRow N c2 x1.toInt32 80 75 3 4 3) fun x3 c4 =>
    if x3 = 0 then
      some (0, c4)
    else
      bnd (f_X12_isAsThere c4 (x1.toInt32 + 6) (p1 + 8) 2) fun x5 c6 =>
      if x5 = 0 then
        some (0, c6)
      else
        bnd (f_X12_isAsThere c6 (x1.toInt32 + 8) (p1 + 10) 2) fun x7 c8 =>
        if x7 = 0 then
          some (0, c8)
        else
          bnd (f_X12_isAsThere c8 (x1.toInt32 + 14) (p1 + 16) 4) fun x9 c10 =>
          if x9 = 0 then
            some (0, c10)
          else
            bnd (f_X12_isAsThere c10 (x1.toInt32 + 18) (p1 + 20) 4) fun x11 c12 =>
            if x11 = 0 then
              some (0, c12)
            else
              bnd (f_X12_isAsThere c12 (x1.toInt32 + 22) (p1 + 24) 4) fun x13 c14 =>
              if x13 = 0 then
                some (0, c14)
              else
                bnd (f_X12_isAsThere c14 (x1.toInt32 + 26) (p1 + 28) 2) fun x15 c16 =>
                if x15 = 0 then
                  some (0, c16)
                else
                  bnd (f_X12_twoAt c16 (p1 + 28)) fun x17 c18 =>
                  f_X12_readLocal_170 N p1 p2 N c18 x1.toInt32 x17 0
  else
    bnd (f_X12_fails c2 12 (p1 + 42)) fun x19 c20 =>
    bif j_b x19 then some (x19, c20) else none
noncomputable def f_X12_readDirectory_52 (N : Nat) : Nat → hS → Int32 → Int32 → Int32 → Int32 → Option (Int32 × hS)
  | 0, _, _, _, _, _ => none
  | n + 1, c, v1, v2, v3, v4 =>
  bnd (f_X12_twoAt c (v1 + 10)) fun x1 c2 =>
  if x1 ≤ v4 then
    if v3 = v1 then
      some (1, c2)
    else
      bnd (f_X12_fails c2 12 v3) fun x3 c4 =>
      if x3 = 0 then
        some (0, c4)
      else
        some (1, c4)
  else
    bnd (f_X12_readEntryHead N c2 v3 v1) fun x5 c6 =>
    if x5 = 0 then
      some (0, c6)
    else
      bnd (f_X12_readLocal N c6 v3 v2) fun x7 c8 =>
      if x7 = 0 then
        some (0, c8)
      else
        bnd (f_X12_comes N c8 v3) fun x9 c10 =>
        if x9 = 0 then
          some (0, c10)
        else
          bnd (f_X12_twoAt c10 (v3 + 28)) fun x11 c12 =>
          bnd (f_X12_twoAt c12 (v3 + 30)) fun x13 c14 =>
          bnd (f_X12_twoAt c14 (v3 + 32)) fun x15 c16 =>
          f_X12_readDirectory_52 N n c16 v1 v2 (v3 + (((46 + x11) + x13) + x15)) (v4 + 1)
noncomputable def f_X12_readDirectory (N : Nat) (c : hS) : Option (Int32 × hS) :=
  if 22 ≤ c.1 201 4 then
    bnd (f_X12_readEnd N c ((c.1 201 4) - 22)) fun x1 c2 =>
    if x1 = 0 then
      some (0, c2)
    else
      bnd (f_X12_fourAt c2 (((c.1 201 4) - 22) + 16)) fun x3 c4 =>
      f_X12_readDirectory_52 N N c4 ((c.1 201 4) - 22) x3.toInt32 x3.toInt32 0
  else
    bnd (f_X12_fails c 1 (c.1 201 4)) fun x5 c6 =>
    bif j_b x5 then some (x5, c6) else none
noncomputable def f_X12_read_91 (N : Nat) (p1 : Int32) : Nat → hS → Int32 → Option (Int32 × hS)
  | 0, _, _ => none
  | n + 1, c, v3 =>
  if c.1 201 7 ≤ v3 then
    some (c.1 201 7, c)
  else
    bnd (f_X12_move N c (17 + v3) v3) fun _ c1 =>
    f_X12_read_91 N p1 n c1 (v3 + 1)
noncomputable def f_X12_read_74 (N : Nat) (p1 : Int32) (c : hS) (w0 : Int32) : Option (Int32 × hS) :=
  if w0 = 0 then
    some ((-1), c)
  else
    st1 (sI c 201 7 (c.1 201 8)) fun c1 =>
    f_X12_read_91 N p1 N c1 0
noncomputable def f_X12_read_23 (N : Nat) (p1 : Int32) (c : hS) (w0 : Int32) : Option (Int32 × hS) :=
  bnd (f_X12_refuses c w0 1) fun x1 c2 =>
  if x1 = 0 then
    st1 (sI c2 201 5 0) fun c3 =>
    st1 (sI c3 201 6 (-1)) fun c4 =>
    st1 (sI c4 201 8 0) fun c5 =>
    if p1 = 0 then
      bnd (f_X12_readBlocks N c5) fun x10 c11 =>
      f_X12_read_74 N p1 c11 x10
    else
      if p1 = 1 then
        bnd (f_X12_readDigits N c5) fun x8 c9 =>
        f_X12_read_74 N p1 c9 x8
      else
        bnd (f_X12_readDirectory N c5) fun x6 c7 =>
        f_X12_read_74 N p1 c7 x6
  else
    some (0, c2)
noncomputable def f_X12_read (N : Nat) (c : hS) (p1 : Int32) : Option (Int32 × hS) :=
  st1 (sI c 201 0 0) fun c1 =>
  bnd (f_X12_in c1 p1.toInt64 0 2) fun x2 c3 =>
  if x2 = 0 then
    f_X12_read_23 N p1 c3 1
  else
    f_X12_read_23 N p1 c3 0
noncomputable def f_X12_unpack_42 (N : Nat) : Nat → hS → Int32 → Option (Int32 × hS)
  | 0, _, _ => none
  | n + 1, c, v1 =>
  if c.1 201 23 ≤ v1 then
    some (c.1 201 2, c)
  else
    bif j_in v1 (ln 211) then
    bif j_in v1 (ln 202) then
    st1 (sI c 202 v1.toNatClampNeg (c.1 211 v1.toNatClampNeg)) fun c1 =>
    f_X12_unpack_42 N n c1 (v1 + 1)
    else none
    else none
noncomputable def f_X12_unpack (N : Nat) (c : hS) : Option (Int32 × hS) :=
  st1 (sI c 201 0 0) fun c1 =>
  st1 (sI c1 201 5 0) fun c2 =>
  st1 (sI c2 201 6 (-1)) fun c3 =>
  bnd (f_X12_unpackFrom N c3 0 (c3.1 201 4) 512) fun x4 c5 =>
  if x4 = 0 then
    some ((-1), c5)
  else
    st1 (sI c5 201 2 (c5.1 201 23)) fun c6 =>
    f_X12_unpack_42 N N c6 0
noncomputable def f_X12_check_9 (N : Nat) : Nat → hS → Int32 → Int32 → Option (Int32 × hS)
  | 0, _, _, _ => none
  | n + 1, c, v1, v2 =>
  if c.1 201 2 ≤ v2 then
    some ((v1 ^^^ (-1)), c)
  else
    bif j_in v2 (ln 202) then
    bnd (f_X12_checkMore N c v1 (c.1 202 v2.toNatClampNeg)) fun x1 c2 =>
    f_X12_check_9 N n c2 x1 (v2 + 1)
    else none
noncomputable def f_X12_check (N : Nat) (c : hS) : Option (Int32 × hS) :=
  st1 (sI c 201 0 0) fun c1 =>
  f_X12_check_9 N N c1 (-1) 0
noncomputable def f_X12_putBit (c : hS) (p1 : Int32) : Option (Unit × hS) :=
  st1 (sI c 201 33 ((c.1 201 33) ||| (j_shl p1 (c.1 201 34)))) fun c1 =>
  st1 (sI c1 201 34 ((c1.1 201 34) + 1)) fun c2 =>
  if c2.1 201 34 = 8 then
    bnd (f_X12_put c2 (c2.1 201 33)) fun _ c3 =>
    st1 (sI c3 201 33 0) fun c4 =>
    st1 (sI c4 201 34 0) fun c5 =>
    some ((), c5)
  else
    some ((), c2)
noncomputable def f_X12_putBits_2 (N : Nat) (p1 : Int32) (p2 : Int32) : Nat → hS → Int32 → Option (Unit × hS)
  | 0, _, _ => none
  | n + 1, c, v3 =>
  if p2 ≤ v3 then
    some ((), c)
  else
    bnd (f_X12_putBit c ((j_shr p1 v3) &&& 1)) fun _ c1 =>
    f_X12_putBits_2 N p1 p2 n c1 (v3 + 1)
noncomputable def f_X12_putBits (N : Nat) (c : hS) (p1 : Int32) (p2 : Int32) : Option (Unit × hS) :=
  f_X12_putBits_2 N p1 p2 N c 0
noncomputable def f_X12_putCode_9 (N : Nat) (p1 : Int32) : Nat → hS → Int32 → Option (Unit × hS)
  | 0, _, _ => none
  | n + 1, c, v2 =>
  if v2 < 0 then
    some ((), c)
  else
    bif j_in p1 (ln 213) then
    bnd (f_X12_putBit c ((j_shr (c.1 213 p1.toNatClampNeg) v2) &&& 1)) fun _ c1 =>
    f_X12_putCode_9 N p1 n c1 (v2 + (-1))
    else none
noncomputable def f_X12_putCode (N : Nat) (c : hS) (p1 : Int32) : Option (Unit × hS) :=
  bif j_in p1 (ln 212) then
  f_X12_putCode_9 N p1 N c ((c.1 212 p1.toNatClampNeg) - 1)
  else none
noncomputable def f_X12_match_59 (N : Nat) (p1 : Int32) (k6 : hS → Int32 → Int32 → Option (Int32 × hS)) (c : hS) (v2 : Int32) (v3 : Int32) (v4 : Int32) : Option (Int32 × hS) :=
  if v4 ≤ v2 then
    k6 c v2 (v3 + (-1))
  else
    st1 (sI c 201 35 (p1 - v3)) fun c1 =>
    k6 c1 v4 (v3 + (-1))
noncomputable def f_X12_match_13 (N : Nat) (p1 : Int32) (k6 : hS → Int32 → Int32 → Option (Int32 × hS)) : Nat → hS → Int32 → Int32 → Int32 → Option (Int32 × hS)
  | 0, _, _, _, _ => none
  | n + 1, c, v2, v3, v4 =>
  if 258 ≤ v4 then
    f_X12_match_59 N p1 k6 c v2 v3 v4
  else
    if c.1 201 32 ≤ (p1 + v4) then
      f_X12_match_59 N p1 k6 c v2 v3 v4
    else
      bif j_in (v3 + v4) (ln 215) then
      bif j_in (p1 + v4) (ln 215) then
      if c.1 215 (v3 + v4).toNatClampNeg = c.1 215 (p1 + v4).toNatClampNeg then
        f_X12_match_13 N p1 k6 n c v2 v3 (v4 + 1)
      else
        f_X12_match_59 N p1 k6 c v2 v3 v4
      else none
      else none
noncomputable def f_X12_match_6 (N : Nat) (p1 : Int32) : Nat → hS → Int32 → Int32 → Option (Int32 × hS)
  | 0, _, _, _ => none
  | n + 1, c, v2, v3 =>
  if v3 < 0 then
    some (v2, c)
  else
    f_X12_match_13 N p1 (f_X12_match_6 N p1 n) N c v2 v3 0
noncomputable def f_X12_match (N : Nat) (c : hS) (p1 : Int32) : Option (Int32 × hS) :=
  f_X12_match_6 N p1 N c 0 (p1 - 1)
noncomputable def f_X12_putMatch_50 (N : Nat) (p1 : Int32) (p2 : Int32) : Nat → hS → Int32 → Option (Unit × hS)
  | 0, _, _ => none
  | n + 1, c, v5 =>
  bnd (f_X12_distanceOf c v5) fun x1 c2 =>
  if x1 ≤ p2 then
    bnd (f_X12_distanceOf c2 v5) fun x3 c4 =>
    bnd (f_X12_putCode N c4 (300 + v5)) fun _ c5 =>
    bnd (f_X12_putBits N c5 (p2 - x3) (c5.1 201 30)) fun _ c6 =>
    some ((), c6)
  else
    f_X12_putMatch_50 N p1 p2 n c2 (v5 + (-1))
noncomputable def f_X12_putMatch_3 (N : Nat) (p1 : Int32) (p2 : Int32) : Nat → hS → Int32 → Option (Unit × hS)
  | 0, _, _ => none
  | n + 1, c, v3 =>
  bnd (f_X12_lengthOf c v3) fun x1 c2 =>
  if x1 ≤ p1 then
    bnd (f_X12_lengthOf c2 v3) fun x3 c4 =>
    bnd (f_X12_putCode N c4 (257 + v3)) fun _ c5 =>
    bnd (f_X12_putBits N c5 (p1 - x3) (c5.1 201 30)) fun _ c6 =>
    f_X12_putMatch_50 N p1 p2 N c6 29
  else
    f_X12_putMatch_3 N p1 p2 n c2 (v3 + (-1))
noncomputable def f_X12_putMatch (N : Nat) (c : hS) (p1 : Int32) (p2 : Int32) : Option (Unit × hS) :=
  f_X12_putMatch_3 N p1 p2 N c 28
noncomputable def f_X12_putPacked_22 (N : Nat) : Nat → hS → Int32 → Option (Unit × hS)
  | 0, _, _ => none
  | n + 1, c, v1 =>
  if c.1 201 32 ≤ v1 then
    bnd (f_X12_putCode N c 256) fun _ c1 =>
    if c1.1 201 34 ≤ 0 then
      some ((), c1)
    else
      bnd (f_X12_put c1 (c1.1 201 33)) fun _ c2 =>
      some ((), c2)
  else
    bnd (f_X12_match N c v1) fun x3 c4 =>
    if x3 < 3 then
      bif j_in v1 (ln 215) then
      bnd (f_X12_putCode N c4 (c4.1 215 v1.toNatClampNeg)) fun _ c5 =>
      f_X12_putPacked_22 N n c5 (v1 + 1)
      else none
    else
      bnd (f_X12_putMatch N c4 x3 (c4.1 201 35)) fun _ c6 =>
      f_X12_putPacked_22 N n c6 (v1 + x3)
noncomputable def f_X12_putPacked (N : Nat) (c : hS) : Option (Unit × hS) :=
  st1 (sI c 201 33 0) fun c1 =>
  st1 (sI c1 201 34 0) fun c2 =>
  bnd (f_X12_layFixed N c2) fun _ c3 =>
  bnd (f_X12_putBits N c3 3 3) fun _ c4 =>
  f_X12_putPacked_22 N N c4 0
noncomputable def f_X12_pack_15 (N : Nat) : Nat → hS → Int32 → Option (Int32 × hS)
  | 0, _, _ => none
  | n + 1, c, v1 =>
  if c.1 201 2 ≤ v1 then
    st1 (sI c 201 4 0) fun c1 =>
    bnd (f_X12_putPacked N c1) fun _ c2 =>
    some (c2.1 201 4, c2)
  else
    bif j_in v1 (ln 202) then
    bif j_in v1 (ln 215) then
    st1 (sI c 215 v1.toNatClampNeg (c.1 202 v1.toNatClampNeg)) fun c3 =>
    f_X12_pack_15 N n c3 (v1 + 1)
    else none
    else none
noncomputable def f_X12_pack (N : Nat) (c : hS) : Option (Int32 × hS) :=
  st1 (sI c 201 0 0) fun c1 =>
  st1 (sI c1 201 32 (c1.1 201 2)) fun c2 =>
  f_X12_pack_15 N N c2 0
noncomputable def f_X12_putZeros_0 (N : Nat) (p1 : Int32) : Nat → hS → Option (Unit × hS)
  | 0, _ => none
  | n + 1, c =>
  if p1 ≤ c.1 201 4 then
    some ((), c)
  else
    bnd (f_X12_put c 0) fun _ c1 =>
    f_X12_putZeros_0 N p1 n c1
noncomputable def f_X12_putZeros (N : Nat) (c : hS) (p1 : Int32) : Option (Unit × hS) :=
  f_X12_putZeros_0 N p1 N c
noncomputable def f_X12_putName_2 (N : Nat) (p1 : Int32) (p2 : Int32) : Nat → hS → Int32 → Option (Unit × hS)
  | 0, _, _ => none
  | n + 1, c, v3 =>
  bif j_in p1 (ln 204) then
  if c.1 204 p1.toNatClampNeg ≤ v3 then
    if p2 = 0 then
      some ((), c)
    else
      bif j_in p1 (ln 208) then
      if c.1 208 p1.toNatClampNeg = 0 then
        some ((), c)
      else
        bnd (f_X12_put c 47) fun _ c1 =>
        some ((), c1)
      else none
  else
    bnd (f_X12_nameAt c p1 v3) fun x2 c3 =>
    bnd (f_X12_put c3 x2) fun _ c4 =>
    f_X12_putName_2 N p1 p2 n c4 (v3 + 1)
  else none
noncomputable def f_X12_putName (N : Nat) (c : hS) (p1 : Int32) (p2 : Int32) : Option (Unit × hS) :=
  f_X12_putName_2 N p1 p2 N c 0
noncomputable def f_X12_putBytes_2 (N : Nat) (p1 : Int32) : Nat → hS → Int32 → Option (Unit × hS)
  | 0, _, _ => none
  | n + 1, c, v2 =>
  bif j_in p1 (ln 206) then
  if c.1 206 p1.toNatClampNeg ≤ v2 then
    some ((), c)
  else
    bif j_in ((400 * p1) + v2) (ln 207) then
    bnd (f_X12_put c (c.1 207 ((400 * p1) + v2).toNatClampNeg)) fun _ c1 =>
    f_X12_putBytes_2 N p1 n c1 (v2 + 1)
    else none
  else none
noncomputable def f_X12_putBytes (N : Nat) (c : hS) (p1 : Int32) : Option (Unit × hS) :=
  f_X12_putBytes_2 N p1 N c 0
noncomputable def f_X12_octalAt_3 (N : Nat) (p1 : Int32) (p2 : Int32) (p3 : Int32) : Nat → hS → Int32 → Option (Unit × hS)
  | 0, _, _ => none
  | n + 1, c, v4 =>
  if p3 ≤ v4 then
    some ((), c)
  else
    if (3 * ((p3 - 1) - v4)) ≤ 30 then
      bif j_in (p1 + v4) (ln 203) then
      st1 (sI c 203 (p1 + v4).toNatClampNeg (48 + ((j_shr p2 (3 * ((p3 - 1) - v4))) &&& 7))) fun c1 =>
      f_X12_octalAt_3 N p1 p2 p3 n c1 (v4 + 1)
      else none
    else
      bif j_in (p1 + v4) (ln 203) then
      st1 (sI c 203 (p1 + v4).toNatClampNeg (48 + 0)) fun c2 =>
      f_X12_octalAt_3 N p1 p2 p3 n c2 (v4 + 1)
      else none
noncomputable def f_X12_octalAt (N : Nat) (c : hS) (p1 : Int32) (p2 : Int32) (p3 : Int32) : Option (Unit × hS) :=
  f_X12_octalAt_3 N p1 p2 p3 N c 0
noncomputable def f_X12_writeBlock_241 (N : Nat) (p1 : Int32) : Nat → hS → Int32 → Int32 → Int32 → Option (Unit × hS)
  | 0, _, _, _, _ => none
  | n + 1, c, v2, v3, v4 =>
  if 512 ≤ v4 then
    bnd (f_X12_octalAt N c (v2 + 148) v3 6) fun _ c1 =>
    bif j_in (v2 + 154) (ln 203) then
    st1 (sI c1 203 (v2 + 154).toNatClampNeg 0) fun c2 =>
    bif j_in (v2 + 155) (ln 203) then
    st1 (sI c2 203 (v2 + 155).toNatClampNeg 32) fun c3 =>
    bnd (f_X12_putBytes N c3 p1) fun _ c4 =>
    bnd (f_X12_putZeros N c4 ((((c4.1 201 4) + 511) / 512) * 512)) fun _ c5 =>
    some ((), c5)
    else none
    else none
  else
    bif j_in (v2 + v4) (ln 203) then
    f_X12_writeBlock_241 N p1 n c v2 (v3 + (c.1 203 (v2 + v4).toNatClampNeg)) (v4 + 1)
    else none
noncomputable def f_X12_writeBlock_126 (N : Nat) (p1 : Int32) : Nat → hS → Int32 → Int32 → Option (Unit × hS)
  | 0, _, _, _ => none
  | n + 1, c, v2, v3 =>
  if 8 ≤ v3 then
    bnd (f_X12_octalAt N c (v2 + 329) 0 7) fun _ c1 =>
    bnd (f_X12_octalAt N c1 (v2 + 337) 0 7) fun _ c2 =>
    f_X12_writeBlock_241 N p1 N c2 v2 256 0
  else
    if v3 = 0 then
      bif j_in ((v2 + 257) + v3) (ln 203) then
      st1 (sI c 203 ((v2 + 257) + v3).toNatClampNeg 117) fun c9 =>
      f_X12_writeBlock_126 N p1 n c9 v2 (v3 + 1)
      else none
    else
      if v3 = 1 then
        bif j_in ((v2 + 257) + v3) (ln 203) then
        st1 (sI c 203 ((v2 + 257) + v3).toNatClampNeg 115) fun c8 =>
        f_X12_writeBlock_126 N p1 n c8 v2 (v3 + 1)
        else none
      else
        if v3 = 2 then
          bif j_in ((v2 + 257) + v3) (ln 203) then
          st1 (sI c 203 ((v2 + 257) + v3).toNatClampNeg 116) fun c7 =>
          f_X12_writeBlock_126 N p1 n c7 v2 (v3 + 1)
          else none
        else
          if v3 = 3 then
            bif j_in ((v2 + 257) + v3) (ln 203) then
            st1 (sI c 203 ((v2 + 257) + v3).toNatClampNeg 97) fun c6 =>
            f_X12_writeBlock_126 N p1 n c6 v2 (v3 + 1)
            else none
          else
            if v3 = 4 then
              bif j_in ((v2 + 257) + v3) (ln 203) then
              st1 (sI c 203 ((v2 + 257) + v3).toNatClampNeg 114) fun c5 =>
              f_X12_writeBlock_126 N p1 n c5 v2 (v3 + 1)
              else none
            else
              if v3 = 5 then
                bif j_in ((v2 + 257) + v3) (ln 203) then
                st1 (sI c 203 ((v2 + 257) + v3).toNatClampNeg 0) fun c4 =>
                f_X12_writeBlock_126 N p1 n c4 v2 (v3 + 1)
                else none
              else
                bif j_in ((v2 + 257) + v3) (ln 203) then
                st1 (sI c 203 ((v2 + 257) + v3).toNatClampNeg 48) fun c3 =>
                f_X12_writeBlock_126 N p1 n c3 v2 (v3 + 1)
                else none
noncomputable def f_X12_writeBlock_43 (N : Nat) (p1 : Int32) (c : hS) (v2 : Int32) (w0 : Int32) (w1 : Int32) : Option (Unit × hS) :=
  bnd (f_X12_octalAt N c w1 w0 7) fun _ c1 =>
  bnd (f_X12_octalAt N c1 (v2 + 108) 0 7) fun _ c2 =>
  bnd (f_X12_octalAt N c2 (v2 + 116) 0 7) fun _ c3 =>
  bif j_in p1 (ln 206) then
  bnd (f_X12_octalAt N c3 (v2 + 124) (c3.1 206 p1.toNatClampNeg) 11) fun _ c4 =>
  bnd (f_X12_octalAt N c4 (v2 + 136) 0 11) fun _ c5 =>
  bif j_in p1 (ln 208) then
  if c5.1 208 p1.toNatClampNeg = 0 then
    bif j_in (v2 + 156) (ln 203) then
    st1 (sI c5 203 (v2 + 156).toNatClampNeg 48) fun c6 =>
    f_X12_writeBlock_126 N p1 N c6 v2 0
    else none
  else
    bif j_in (v2 + 156) (ln 203) then
    st1 (sI c5 203 (v2 + 156).toNatClampNeg 53) fun c7 =>
    f_X12_writeBlock_126 N p1 N c7 v2 0
    else none
  else none
  else none
noncomputable def f_X12_writeBlock (N : Nat) (c : hS) (p1 : Int32) : Option (Unit × hS) :=
  bnd (f_X12_putName N c p1 1) fun _ c1 =>
  bnd (f_X12_putZeros N c1 ((c.1 201 4) + 512)) fun _ c2 =>
  bif j_in p1 (ln 208) then
  if c2.1 208 p1.toNatClampNeg = 0 then
    f_X12_writeBlock_43 N p1 c2 (c.1 201 4) 420 ((c.1 201 4) + 100)
  else
    f_X12_writeBlock_43 N p1 c2 (c.1 201 4) 493 ((c.1 201 4) + 100)
  else none
noncomputable def f_X12_putHex_3 (N : Nat) (p1 : Int32) : Nat → hS → Int32 → Option (Unit × hS)
  | 0, _, _ => none
  | n + 1, c, v2 =>
  if v2 < 0 then
    some ((), c)
  else
    if 10 ≤ ((j_shr p1 v2) &&& 15) then
      bnd (f_X12_put c (87 + ((j_shr p1 v2) &&& 15))) fun _ c1 =>
      f_X12_putHex_3 N p1 n c1 (v2 + (-4))
    else
      bnd (f_X12_put c (48 + ((j_shr p1 v2) &&& 15))) fun _ c2 =>
      f_X12_putHex_3 N p1 n c2 (v2 + (-4))
noncomputable def f_X12_putHex (N : Nat) (c : hS) (p1 : Int32) : Option (Unit × hS) :=
  f_X12_putHex_3 N p1 N c 28
noncomputable def f_X12_putDigitsHead_93 (N : Nat) (p1 : Int32) (p2 : Int32) (p3 : Int32) (p4 : Int32) : Nat → hS → Int32 → Option (Unit × hS)
  | 0, _, _ => none
  | n + 1, c, v5 =>
  if 4 ≤ v5 then
    bnd (f_X12_putHex N c p4) fun _ c1 =>
    bnd (f_X12_putHex N c1 0) fun _ c2 =>
    some ((), c2)
  else
    bnd (f_X12_putHex N c 0) fun _ c3 =>
    f_X12_putDigitsHead_93 N p1 p2 p3 p4 n c3 (v5 + 1)
noncomputable def f_X12_putDigitsHead_68 (N : Nat) (p1 : Int32) (p2 : Int32) (p3 : Int32) (p4 : Int32) : Nat → hS → Int32 → Option (Unit × hS)
  | 0, _, _ => none
  | n + 1, c, v5 =>
  if 3 ≤ v5 then
    bnd (f_X12_putHex N c p3) fun _ c1 =>
    f_X12_putDigitsHead_93 N p1 p2 p3 p4 N c1 0
  else
    bnd (f_X12_putHex N c 0) fun _ c2 =>
    f_X12_putDigitsHead_68 N p1 p2 p3 p4 n c2 (v5 + 1)
noncomputable def f_X12_putDigitsHead_3 (N : Nat) (p1 : Int32) (p2 : Int32) (p3 : Int32) (p4 : Int32) : Nat → hS → Int32 → Option (Unit × hS)
  | 0, _, _ => none
  | n + 1, c, v5 =>
  if 6 ≤ v5 then
    bnd (f_X12_putHex N c p1) fun _ c1 =>
    bnd (f_X12_putHex N c1 p2) fun _ c2 =>
    bnd (f_X12_putHex N c2 1) fun _ c3 =>
    f_X12_putDigitsHead_68 N p1 p2 p3 p4 N c3 0
  else
    if v5 = 1 then
      bnd (f_X12_put c 55) fun _ c4 =>
      f_X12_putDigitsHead_3 N p1 p2 p3 p4 n c4 (v5 + 1)
    else
      if v5 = 3 then
        bnd (f_X12_put c 55) fun _ c7 =>
        f_X12_putDigitsHead_3 N p1 p2 p3 p4 n c7 (v5 + 1)
      else
        if v5 = 5 then
          bnd (f_X12_put c 49) fun _ c6 =>
          f_X12_putDigitsHead_3 N p1 p2 p3 p4 n c6 (v5 + 1)
        else
          bnd (f_X12_put c 48) fun _ c5 =>
          f_X12_putDigitsHead_3 N p1 p2 p3 p4 n c5 (v5 + 1)
noncomputable def f_X12_putDigitsHead (N : Nat) (c : hS) (p1 : Int32) (p2 : Int32) (p3 : Int32) (p4 : Int32) : Option (Unit × hS) :=
  f_X12_putDigitsHead_3 N p1 p2 p3 p4 N c 0
noncomputable def f_X12_writeDigits_32 (N : Nat) (k2 : hS → Int32 → Option (Unit × hS)) (c : hS) (v1 : Int32) (w0 : Int32) (w1 : Int32) : Option (Unit × hS) :=
  bif j_in v1 (ln 206) then
  bif j_in v1 (ln 204) then
  bnd (f_X12_putDigitsHead N c w1 w0 (c.1 206 v1.toNatClampNeg) ((c.1 204 v1.toNatClampNeg) + 1)) fun _ c1 =>
  bnd (f_X12_putName N c1 v1 0) fun _ c2 =>
  bnd (f_X12_put c2 0) fun _ c3 =>
  bnd (f_X12_upToFour c3 (c3.1 201 4)) fun x4 c5 =>
  bnd (f_X12_putZeros N c5 x4) fun _ c6 =>
  bnd (f_X12_putBytes N c6 v1) fun _ c7 =>
  bnd (f_X12_upToFour c7 (c7.1 201 4)) fun x8 c9 =>
  bnd (f_X12_putZeros N c9 x8) fun _ c10 =>
  k2 c10 (v1 + 1)
  else none
  else none
noncomputable def f_X12_writeDigits_104 (N : Nat) : Nat → hS → Int32 → Option (Unit × hS)
  | 0, _, _ => none
  | n + 1, c, v1 =>
  if 10 ≤ v1 then
    bnd (f_X12_put c 0) fun _ c1 =>
    bnd (f_X12_upToFour c1 (c1.1 201 4)) fun x2 c3 =>
    bnd (f_X12_putZeros N c3 x2) fun _ c4 =>
    some ((), c4)
  else
    bnd (f_X12_trailerAt c v1) fun x5 c6 =>
    bnd (f_X12_put c6 x5) fun _ c7 =>
    f_X12_writeDigits_104 N n c7 (v1 + 1)
noncomputable def f_X12_writeDigits_2 (N : Nat) : Nat → hS → Int32 → Option (Unit × hS)
  | 0, _, _ => none
  | n + 1, c, v1 =>
  if c.1 201 7 ≤ v1 then
    bnd (f_X12_putDigitsHead N c 0 0 0 11) fun _ c1 =>
    f_X12_writeDigits_104 N N c1 0
  else
    bif j_in v1 (ln 208) then
    if c.1 208 v1.toNatClampNeg = 0 then
      f_X12_writeDigits_32 N (f_X12_writeDigits_2 N n) c v1 33188 (v1 + 1)
    else
      f_X12_writeDigits_32 N (f_X12_writeDigits_2 N n) c v1 16877 (v1 + 1)
    else none
noncomputable def f_X12_writeDigits (N : Nat) (c : hS) : Option (Unit × hS) :=
  f_X12_writeDigits_2 N N c 0
noncomputable def f_X12_putTwo (c : hS) (p1 : Int32) : Option (Unit × hS) :=
  bnd (f_X12_put c p1) fun _ c1 =>
  bnd (f_X12_put c1 (j_shr p1 8)) fun _ c2 =>
  some ((), c2)
noncomputable def f_X12_putFour (c : hS) (p1 : Int32) : Option (Unit × hS) :=
  bnd (f_X12_putTwo c p1) fun _ c1 =>
  bnd (f_X12_putTwo c1 (j_shr p1 16)) fun _ c2 =>
  some ((), c2)
noncomputable def f_X12_checkOf_4 (N : Nat) (p1 : Int32) : Nat → hS → Int32 → Int32 → Option (Int32 × hS)
  | 0, _, _, _ => none
  | n + 1, c, v2, v3 =>
  bif j_in p1 (ln 206) then
  if c.1 206 p1.toNatClampNeg ≤ v3 then
    some ((v2 ^^^ (-1)), c)
  else
    bif j_in ((400 * p1) + v3) (ln 207) then
    bnd (f_X12_checkMore N c v2 (c.1 207 ((400 * p1) + v3).toNatClampNeg)) fun x1 c2 =>
    f_X12_checkOf_4 N p1 n c2 x1 (v3 + 1)
    else none
  else none
noncomputable def f_X12_checkOf (N : Nat) (c : hS) (p1 : Int32) : Option (Int32 × hS) :=
  f_X12_checkOf_4 N p1 N c (-1) 0
noncomputable def f_X12_namedSize (c : hS) (p1 : Int32) : Option (Int32 × hS) :=
  bif j_in p1 (ln 204) then
  bif j_in p1 (ln 208) then
  if c.1 208 p1.toNatClampNeg = 0 then
    some (((c.1 204 p1.toNatClampNeg) + 0), c)
  else
    some (((c.1 204 p1.toNatClampNeg) + 1), c)
  else none
  else none
noncomputable def f_X12_fourInto_2 (N : Nat) (p1 : Int32) (p2 : Int32) : Nat → hS → Int32 → Option (Unit × hS)
  | 0, _, _ => none
  | n + 1, c, v3 =>
  if 4 ≤ v3 then
    some ((), c)
  else
    bif j_in (p1 + v3) (ln 203) then
    st1 (sI c 203 (p1 + v3).toNatClampNeg ((j_shr p2 (8 * v3)) &&& 255)) fun c1 =>
    f_X12_fourInto_2 N p1 p2 n c1 (v3 + 1)
    else none
noncomputable def f_X12_fourInto (N : Nat) (c : hS) (p1 : Int32) (p2 : Int32) : Option (Unit × hS) :=
  f_X12_fourInto_2 N p1 p2 N c 0
noncomputable def f_X12_writeLocal_212 (N : Nat) (p1 : Int32) (p2 : Int32) (c : hS) (v3 : Int32) (v4 : Int32) : Option (Unit × hS) :=
  bif j_in p1 (ln 218) then
  st1 (sI c 218 p1.toNatClampNeg ((c.1 201 4) - v4)) fun c1 =>
  bif j_in p1 (ln 218) then
  bnd (f_X12_fourInto N c1 (v3 + 18) (c1.1 218 p1.toNatClampNeg)) fun _ c2 =>
  some ((), c2)
  else none
  else none
noncomputable def f_X12_writeLocal_165 (N : Nat) (p1 : Int32) (p2 : Int32) : Nat → hS → Int32 → Int32 → Int32 → Option (Unit × hS)
  | 0, _, _, _, _ => none
  | n + 1, c, v3, v4, v5 =>
  if c.1 201 32 ≤ v5 then
    bnd (f_X12_putPacked N c) fun _ c1 =>
    f_X12_writeLocal_212 N p1 p2 c1 v3 v4
  else
    bif j_in ((400 * p1) + v5) (ln 207) then
    bif j_in v5 (ln 215) then
    st1 (sI c 215 v5.toNatClampNeg (c.1 207 ((400 * p1) + v5).toNatClampNeg)) fun c2 =>
    f_X12_writeLocal_165 N p1 p2 n c2 v3 v4 (v5 + 1)
    else none
    else none
noncomputable def f_X12_writeLocal_36 (N : Nat) (p1 : Int32) (p2 : Int32) (c : hS) (v3 : Int32) (w0 : Int32) (w1 : Int32) : Option (Unit × hS) :=
  bif j_in w1 (ln 217) then
  st1 (sI c 217 w1.toNatClampNeg w0) fun c1 =>
  bnd (f_X12_put c1 80) fun _ c2 =>
  bnd (f_X12_put c2 75) fun _ c3 =>
  bnd (f_X12_put c3 3) fun _ c4 =>
  bnd (f_X12_put c4 4) fun _ c5 =>
  bnd (f_X12_putTwo c5 20) fun _ c6 =>
  bnd (f_X12_putTwo c6 0) fun _ c7 =>
  bif j_in p1 (ln 217) then
  bnd (f_X12_putTwo c7 (c7.1 217 p1.toNatClampNeg)) fun _ c8 =>
  bnd (f_X12_putTwo c8 0) fun _ c9 =>
  bnd (f_X12_putTwo c9 33) fun _ c10 =>
  bnd (f_X12_checkOf N c10 p1) fun x11 c12 =>
  bnd (f_X12_putFour c12 x11) fun _ c13 =>
  bnd (f_X12_putFour c13 0) fun _ c14 =>
  bif j_in p1 (ln 206) then
  bnd (f_X12_putFour c14 (c14.1 206 p1.toNatClampNeg)) fun _ c15 =>
  bnd (f_X12_namedSize c15 p1) fun x16 c17 =>
  bnd (f_X12_putTwo c17 x16) fun _ c18 =>
  bnd (f_X12_putTwo c18 0) fun _ c19 =>
  bnd (f_X12_putName N c19 p1 1) fun _ c20 =>
  bif j_in p1 (ln 217) then
  if c20.1 217 p1.toNatClampNeg = 8 then
    bif j_in p1 (ln 206) then
    st1 (sI c20 201 32 (c20.1 206 p1.toNatClampNeg)) fun c22 =>
    f_X12_writeLocal_165 N p1 p2 N c22 v3 (c20.1 201 4) 0
    else none
  else
    bnd (f_X12_putBytes N c20 p1) fun _ c21 =>
    f_X12_writeLocal_212 N p1 p2 c21 v3 (c20.1 201 4)
  else none
  else none
  else none
  else none
noncomputable def f_X12_writeLocal_35 (N : Nat) (p1 : Int32) (p2 : Int32) (c : hS) (v3 : Int32) (w0 : Int32) : Option (Unit × hS) :=
  f_X12_writeLocal_36 N p1 p2 c v3 0 w0
noncomputable def f_X12_writeLocal (N : Nat) (c : hS) (p1 : Int32) (p2 : Int32) : Option (Unit × hS) :=
  bif j_in p1 (ln 216) then
  st1 (sI c 216 p1.toNatClampNeg (c.1 201 4)) fun c1 =>
  if p2 = 0 then
    f_X12_writeLocal_35 N p1 p2 c1 (c.1 201 4) p1
  else
    bif j_in p1 (ln 206) then
    if c1.1 206 p1.toNatClampNeg ≤ 0 then
      f_X12_writeLocal_35 N p1 p2 c1 (c.1 201 4) p1
    else
      f_X12_writeLocal_36 N p1 p2 c1 (c.1 201 4) 8 p1
    else none
  else none
noncomputable def f_X12_writeEntry_100 (N : Nat) (p1 : Int32) : Nat → hS → Int32 → Option (Unit × hS)
  | 0, _, _ => none
  | n + 1, c, v2 =>
  if 4 ≤ v2 then
    bnd (f_X12_putFour c 0) fun _ c1 =>
    bif j_in p1 (ln 216) then
    bnd (f_X12_putFour c1 (c1.1 216 p1.toNatClampNeg)) fun _ c2 =>
    bnd (f_X12_putName N c2 p1 1) fun _ c3 =>
    some ((), c3)
    else none
  else
    bnd (f_X12_putTwo c 0) fun _ c4 =>
    f_X12_writeEntry_100 N p1 n c4 (v2 + 1)
noncomputable def f_X12_writeEntry (N : Nat) (c : hS) (p1 : Int32) : Option (Unit × hS) :=
  bnd (f_X12_put c 80) fun _ c1 =>
  bnd (f_X12_put c1 75) fun _ c2 =>
  bnd (f_X12_put c2 1) fun _ c3 =>
  bnd (f_X12_put c3 2) fun _ c4 =>
  bnd (f_X12_putTwo c4 20) fun _ c5 =>
  bnd (f_X12_putTwo c5 20) fun _ c6 =>
  bnd (f_X12_putTwo c6 0) fun _ c7 =>
  bif j_in p1 (ln 217) then
  bnd (f_X12_putTwo c7 (c7.1 217 p1.toNatClampNeg)) fun _ c8 =>
  bnd (f_X12_putTwo c8 0) fun _ c9 =>
  bnd (f_X12_putTwo c9 33) fun _ c10 =>
  bnd (f_X12_checkOf N c10 p1) fun x11 c12 =>
  bnd (f_X12_putFour c12 x11) fun _ c13 =>
  bif j_in p1 (ln 218) then
  bnd (f_X12_putFour c13 (c13.1 218 p1.toNatClampNeg)) fun _ c14 =>
  bif j_in p1 (ln 206) then
  bnd (f_X12_putFour c14 (c14.1 206 p1.toNatClampNeg)) fun _ c15 =>
  bnd (f_X12_namedSize c15 p1) fun x16 c17 =>
  bnd (f_X12_putTwo c17 x16) fun _ c18 =>
  f_X12_writeEntry_100 N p1 N c18 0
  else none
  else none
  else none
noncomputable def f_X12_writeDirectory_29 (N : Nat) (p1 : Int32) : Nat → hS → Int32 → Int32 → Option (Unit × hS)
  | 0, _, _, _ => none
  | n + 1, c, v2, v3 =>
  if c.1 201 7 ≤ v3 then
    bnd (f_X12_put c 80) fun _ c1 =>
    bnd (f_X12_put c1 75) fun _ c2 =>
    bnd (f_X12_put c2 5) fun _ c3 =>
    bnd (f_X12_put c3 6) fun _ c4 =>
    bnd (f_X12_putTwo c4 0) fun _ c5 =>
    bnd (f_X12_putTwo c5 0) fun _ c6 =>
    bnd (f_X12_putTwo c6 (c6.1 201 7)) fun _ c7 =>
    bnd (f_X12_putTwo c7 (c7.1 201 7)) fun _ c8 =>
    bnd (f_X12_putFour c8 ((c.1 201 4) - v2)) fun _ c9 =>
    bnd (f_X12_putFour c9 v2) fun _ c10 =>
    bnd (f_X12_putTwo c10 0) fun _ c11 =>
    some ((), c11)
  else
    bnd (f_X12_writeEntry N c v3) fun _ c12 =>
    f_X12_writeDirectory_29 N p1 n c12 v2 (v3 + 1)
noncomputable def f_X12_writeDirectory_2 (N : Nat) (p1 : Int32) : Nat → hS → Int32 → Option (Unit × hS)
  | 0, _, _ => none
  | n + 1, c, v2 =>
  if c.1 201 7 ≤ v2 then
    f_X12_writeDirectory_29 N p1 N c (c.1 201 4) 0
  else
    bnd (f_X12_writeLocal N c v2 p1) fun _ c1 =>
    f_X12_writeDirectory_2 N p1 n c1 (v2 + 1)
noncomputable def f_X12_writeDirectory (N : Nat) (c : hS) (p1 : Int32) : Option (Unit × hS) :=
  f_X12_writeDirectory_2 N p1 N c 0
noncomputable def f_X12_write_43 (N : Nat) (p1 : Int32) (p2 : Int32) : Nat → hS → Int32 → Option (Int32 × hS)
  | 0, _, _ => none
  | n + 1, c, v3 =>
  if c.1 201 7 ≤ v3 then
    bnd (f_X12_putZeros N c ((c.1 201 4) + 1024)) fun _ c1 =>
    some (c1.1 201 4, c1)
  else
    bnd (f_X12_writeBlock N c v3) fun _ c2 =>
    f_X12_write_43 N p1 p2 n c2 (v3 + 1)
noncomputable def f_X12_write_23 (N : Nat) (p1 : Int32) (p2 : Int32) (c : hS) (w0 : Int32) : Option (Int32 × hS) :=
  bnd (f_X12_refuses c w0 1) fun x1 c2 =>
  if x1 = 0 then
    st1 (sI c2 201 4 0) fun c3 =>
    if p1 = 0 then
      f_X12_write_43 N p1 p2 N c3 0
    else
      if p1 = 1 then
        bnd (f_X12_writeDigits N c3) fun _ c5 =>
        some (c5.1 201 4, c5)
      else
        bnd (f_X12_writeDirectory N c3 p2) fun _ c4 =>
        some (c4.1 201 4, c4)
  else
    some (0, c2)
noncomputable def f_X12_write (N : Nat) (c : hS) (p1 : Int32) (p2 : Int32) : Option (Int32 × hS) :=
  st1 (sI c 201 0 0) fun c1 =>
  bnd (f_X12_in c1 p1.toInt64 0 2) fun x2 c3 =>
  if x2 = 0 then
    f_X12_write_23 N p1 p2 c3 1
  else
    f_X12_write_23 N p1 p2 c3 0
