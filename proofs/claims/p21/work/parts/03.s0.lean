/-! THE ABSTRACT MACHINE: values with numbered references; the frame's instructions -/
def am_v (ad : Nat → Nat) (v : Value) : Value := match v with
  | .ref k => .ref (ad k)
  | v => v
theorem am_v_cat (ad : Nat → Nat) (v : Value) : (am_v ad v).category = v.category := by cases v <;> rfl
abbrev am_lo (ad : Nat → Nat) (lo : List (Nat × Value)) : List (Nat × Value) := lo.map (fun q => (q.1, am_v ad q.2))
def am_get (lo : List (Nat × Value)) (i : Nat) : Option Value := match lo with
  | [] => none
  | (j, v) :: r => bif Nat.beq j i then some v else am_get r i
def am_set (lo : List (Nat × Value)) (i : Nat) (v : Value) : List (Nat × Value) := (i, v) :: lo.filter (fun q => !(q.1 == i) && !(q.1 + 1 == i && q.2.category == 2))
def am_setL (lo : List (Nat × Value)) (i : Nat) (v : Value) : List (Nat × Value) := (i, v) :: lo.filter (fun q => !(q.1 == i) && (!(q.1 == i + 1) && !(q.1 + 1 == i && q.2.category == 2)))
def am_jmp (pc : Nat) (off : Int) : Option Nat := match (pc : Int) + off with
  | .ofNat t => some t
  | _ => none
theorem am_jmp_eq {pc t : Nat} {off : Int} (h : am_jmp pc off = some t) : (pc : Int) + off = (t : Int) := by
  unfold am_jmp at h
  split at h
  · cases h; assumption
  · cases h
theorem am_get_at : ∀ {lo : List (Nat × Value)} {i : Nat} {v : Value}, am_get lo i = some v → ∃ k : Nat, lo[k]? = some (i, v)
  | [], i, v, h => by simp [am_get] at h
  | (j, w) :: r, i, v, h => by
    unfold am_get at h
    cases hb : Nat.beq j i with
    | true =>
      rw [hb] at h
      cases h
      exact ⟨0, by rw [Nat.eq_of_beq_eq_true hb]; rfl⟩
    | false =>
      rw [hb] at h
      obtain ⟨k, hk⟩ := am_get_at (lo := r) h
      exact ⟨k + 1, by simpa using hk⟩
theorem am_get_lo {ad : Nat → Nat} {lo : List (Nat × Value)} {i : Nat} {v : Value} (h : am_get lo i = some v) : ∃ k : Nat, (am_lo ad lo)[k]? = some (i, am_v ad v) := by
  obtain ⟨k, hk⟩ := am_get_at h
  exact ⟨k, by simp [am_lo, hk]⟩
theorem am_has {ad : Nat → Nat} {ls : Array Slot} {nL : Nat} {lo : List (Nat × Value)} {i : Nat} {v : Value} (hL : lv_has ls nL (am_lo ad lo)) (h : am_get lo i = some v) : ls[i]? = some (.val (am_v ad v)) := by
  obtain ⟨k, hk⟩ := am_get_lo (ad := ad) h
  exact lv_at hL k hk
theorem am_set_lo {ad : Nat → Nat} (lo : List (Nat × Value)) (i : Nat) (v : Value) : (i, am_v ad v) :: (am_lo ad lo).filter (fun q => !(q.1 == i) && !(q.1 + 1 == i && q.2.category == 2)) = am_lo ad (am_set lo i v) := by
  simp [am_lo, am_set, List.filter_map, Function.comp_def, am_v_cat]
theorem am_setL_lo {ad : Nat → Nat} (lo : List (Nat × Value)) (i : Nat) (v : Value) : (i, am_v ad v) :: (am_lo ad lo).filter (fun q => !(q.1 == i) && (!(q.1 == i + 1) && !(q.1 + 1 == i && q.2.category == 2))) = am_lo ad (am_setL lo i v) := by
  simp [am_lo, am_setL, List.filter_map, Function.comp_def, am_v_cat]
theorem am_bT {b : Bool} {t f : Nat} {P : Nat → Prop} (hb : b = true) (h : P (bif b then t else f)) : P t := by rw [hb] at h; exact h
theorem am_bF {b : Bool} {t f : Nat} {P : Nat → Prop} (hb : b = false) (h : P (bif b then t else f)) : P f := by rw [hb] at h; exact h
def am_cc (cd : Jvm.ClassFile.Cond) (x y : Int32) : Bool := match cd with
  | .eq => decide (x = y)
  | .ne => !decide (x = y)
  | .lt => decide (x < y)
  | .ge => decide (y ≤ x)
  | .gt => decide (y < x)
  | .le => decide (x ≤ y)

def am_s0 (nL : Nat) (i : Instr) (pc : Nat) (lo : List (Nat × Value)) (st : List Value) : Option (Nat × List (Nat × Value) × List Value) := match i with
  | .iconst n => some (pc + 1, lo, .int (Int32.ofInt n) :: st)
  | .bipush n => some (pc + 2, lo, .int (Int8.ofInt n).toInt32 :: st)
  | .sipush n => some (pc + 3, lo, .int (Int16.ofInt n).toInt32 :: st)
  | .lconst n => some (pc + 1, lo, .long (Int64.ofNat (n : Nat)) :: st)
  | .aconst_null => some (pc + 1, lo, .null :: st)
  | .iload n => match am_get lo n with
    | some (.int x) => some (pc + 2, lo, .int x :: st)
    | _ => none
  | .iload_n n => match am_get lo (n : Nat) with
    | some (.int x) => some (pc + 1, lo, .int x :: st)
    | _ => none
  | .lload n => match am_get lo n with
    | some (.long x) => some (pc + 2, lo, .long x :: st)
    | _ => none
  | .lload_n n => match am_get lo (n : Nat) with
    | some (.long x) => some (pc + 1, lo, .long x :: st)
    | _ => none
  | .aload n => match am_get lo n with
    | some (.ref x) => some (pc + 2, lo, .ref x :: st)
    | some (.null) => some (pc + 2, lo, .null :: st)
    | _ => none
  | .aload_n n => match am_get lo (n : Nat) with
    | some (.ref x) => some (pc + 1, lo, .ref x :: st)
    | some (.null) => some (pc + 1, lo, .null :: st)
    | _ => none
  | .istore n => match st with
    | .int x :: r => bif Nat.blt (n) nL then some (pc + 2, am_set lo n (.int x), r) else none
    | _ => none
  | .istore_n n => match st with
    | .int x :: r => bif Nat.blt ((n : Nat)) nL then some (pc + 1, am_set lo (n : Nat) (.int x), r) else none
    | _ => none
  | .lstore n => match st with
    | .long x :: r => bif Nat.blt (n + 1) nL then some (pc + 2, am_setL lo n (.long x), r) else none
    | _ => none
  | .lstore_n n => match st with
    | .long x :: r => bif Nat.blt ((n : Nat) + 1) nL then some (pc + 1, am_setL lo (n : Nat) (.long x), r) else none
    | _ => none
  | .astore n => match st with
    | .ref x :: r => bif Nat.blt (n) nL then some (pc + 2, am_set lo n (.ref x), r) else none
    | .null :: r => bif Nat.blt (n) nL then some (pc + 2, am_set lo n (.null), r) else none
    | _ => none
  | .astore_n n => match st with
    | .ref x :: r => bif Nat.blt ((n : Nat)) nL then some (pc + 1, am_set lo (n : Nat) (.ref x), r) else none
    | .null :: r => bif Nat.blt ((n : Nat)) nL then some (pc + 1, am_set lo (n : Nat) (.null), r) else none
    | _ => none
  | .iinc n d => match am_get lo n with
    | some (.int x) => bif Nat.blt n nL then some (pc + 3, am_set lo n (.int (x + Int32.ofInt d)), st) else none
    | _ => none
  | .iadd => match st with
    | .int y :: .int x :: r => some (pc + 1, lo, .int (x + y) :: r)
    | _ => none
  | .isub => match st with
    | .int y :: .int x :: r => some (pc + 1, lo, .int (x - y) :: r)
    | _ => none
  | .imul => match st with
    | .int y :: .int x :: r => some (pc + 1, lo, .int (x * y) :: r)
    | _ => none
  | .iand => match st with
    | .int y :: .int x :: r => some (pc + 1, lo, .int (x &&& y) :: r)
    | _ => none
  | .ior => match st with
    | .int y :: .int x :: r => some (pc + 1, lo, .int (x ||| y) :: r)
    | _ => none
  | .ixor => match st with
    | .int y :: .int x :: r => some (pc + 1, lo, .int (x ^^^ y) :: r)
    | _ => none
  | .ishl => match st with
    | .int y :: .int x :: r => some (pc + 1, lo, .int (x <<< (y &&& 31)) :: r)
    | _ => none
  | .ishr => match st with
    | .int y :: .int x :: r => some (pc + 1, lo, .int (x >>> (y &&& 31)) :: r)
    | _ => none
  | .iushr => match st with
    | .int y :: .int x :: r => some (pc + 1, lo, .int (x.toUInt32 >>> (y.toUInt32 &&& Int32.toUInt32 31)).toInt32 :: r)
    | _ => none
  | .idiv => match st with
    | .int y :: .int x :: r => if y = 0 then none else some (pc + 1, lo, .int (x / y) :: r)
    | _ => none
  | .irem => match st with
    | .int y :: .int x :: r => if y = 0 then none else some (pc + 1, lo, .int (x - x / y * y) :: r)
    | _ => none
  | .ladd => match st with
    | .long y :: .long x :: r => some (pc + 1, lo, .long (x + y) :: r)
    | _ => none
  | .lsub => match st with
    | .long y :: .long x :: r => some (pc + 1, lo, .long (x - y) :: r)
    | _ => none
  | .lmul => match st with
    | .long y :: .long x :: r => some (pc + 1, lo, .long (x * y) :: r)
    | _ => none
  | .land => match st with
    | .long y :: .long x :: r => some (pc + 1, lo, .long (x &&& y) :: r)
    | _ => none
  | .lor => match st with
    | .long y :: .long x :: r => some (pc + 1, lo, .long (x ||| y) :: r)
    | _ => none
  | .lxor => match st with
    | .long y :: .long x :: r => some (pc + 1, lo, .long (x ^^^ y) :: r)
    | _ => none
  | .lshl => match st with
    | .int y :: .long x :: r => some (pc + 1, lo, .long (x <<< (y.toInt64 &&& 63)) :: r)
    | _ => none
  | .lshr => match st with
    | .int y :: .long x :: r => some (pc + 1, lo, .long (x >>> (y.toInt64 &&& 63)) :: r)
    | _ => none
  | .lushr => match st with
    | .int y :: .long x :: r => some (pc + 1, lo, .long (x.toUInt64 >>> (y.toInt64.toUInt64 &&& Int64.toUInt64 63)).toInt64 :: r)
    | _ => none
  | .lcmp => match st with
    | .long y :: .long x :: r => some (pc + 1, lo, .int (lg_cmp x y) :: r)
    | _ => none
  | .ineg => match st with
    | .int x :: r => some (pc + 1, lo, .int (-x) :: r)
    | _ => none
  | .i2l => match st with
    | .int x :: r => some (pc + 1, lo, .long x.toInt64 :: r)
    | _ => none
  | .l2i => match st with
    | .long x :: r => some (pc + 1, lo, .int x.toInt32 :: r)
    | _ => none
  | .i2c => match st with
    | .int x :: r => some (pc + 1, lo, .int (x.toUInt32 % 65536).toInt32 :: r)
    | _ => none
  | .dup => match st with
    | v :: r => if v.category = 1 then some (pc + 1, lo, v :: v :: r) else none
    | _ => none
  | .pop => match st with
    | v :: r => if v.category = 1 then some (pc + 1, lo, r) else none
    | _ => none
  | .dup2 => match st with
    | v :: w :: r => if v.category = 1 ∧ w.category = 1 then some (pc + 1, lo, v :: w :: v :: w :: r) else none
    | _ => none
  | .if_icmp cd off => match st, am_jmp pc off with
    | .int y :: .int x :: r, some t => some (bif am_cc cd x y then t else pc + 3, lo, r)
    | _, _ => none
  | .ifCond cd off => match st, am_jmp pc off with
    | .int x :: r, some t => some (bif am_cc cd x 0 then t else pc + 3, lo, r)
    | _, _ => none
  | .goto off => match am_jmp pc off with
    | some t => some (t, lo, st)
    | _ => none
  | .ifnull off => match st, am_jmp pc off with
    | .ref _ :: r, _ => some (pc + 3, lo, r)
    | .null :: r, some t => some (t, lo, r)
    | _, _ => none
  | .ifnonnull off => match st, am_jmp pc off with
    | .ref _ :: r, some t => some (t, lo, r)
    | .null :: r, _ => some (pc + 3, lo, r)
    | _, _ => none
  | .tableswitch dflt a b offs => match st with
    | .int x :: r => if x.toInt < a ∨ b < x.toInt then (match am_jmp pc dflt with | some t => some (t, lo, r) | none => none) else (match offs[(x.toInt - a).toNat]? with | some off => (match am_jmp pc off with | some t => some (t, lo, r) | none => none) | none => none)
    | _ => none
  | .lookupswitch dflt ps => match st with
    | .int x :: r => if (ps.toList.zip (ps.toList.drop 1)).all (fun (a, next) => a.1 < next.1) = true then (match am_jmp pc (Op.lookupswitch.offset ps.toList dflt x.toInt) with | some t => some (t, lo, r) | none => none) else none
    | _ => none
  | _ => none
/-- an instruction's length, where its row asks it -/
def am_len (i : Instr) : Nat := match i with
  | .bipush _ => 2
  | .sipush _ => 3
  | .iload _ => 2
  | .lload _ => 2
  | .aload _ => 2
  | .istore _ => 2
  | .lstore _ => 2
  | .astore _ => 2
  | .iinc _ _ => 3
  | .if_icmp _ _ => 3
  | .ifCond _ _ => 3
  | .goto _ => 3
  | .ifnull _ => 3
  | .ifnonnull _ => 3
  | .tableswitch _ _ _ _ => 0
  | .lookupswitch _ _ => 0
  | .getfield _ => 3
  | .putfield _ => 3
  | .getstatic _ => 3
  | .new _ => 3
  | .invokevirtual _ => 3
  | .invokespecial _ => 3
  | .invokestatic _ => 3
  | .newarray _ => 2
  | .anewarray _ => 3
  | .ldc _ => 2
  | .ldc_w _ => 3
  | .ldc2_w _ => 3
  | _ => 1
section AMS
variable {p : Program} {l : Launch} {e : Env} {R : Room} {s : State} {m : MethodId} {args : Array Value} {below : List Frame} {meth : Method} {c : Code} {H : Heap} {locs : List Loc} {cells slots : Nat} {Q : State → Prop}
variable {cc : ByteArray} {pc nL : Nat} {ls : Array Slot} {ad : Nat → Nat} {lo : List (Nat × Value)} {st : List Value} {i : Instr} {len : Nat} {u : Nat × List (Nat × Value) × List Value}

theorem am_icmp (cd : Jvm.ClassFile.Cond) (X1 : p.tables.exec = Jvm.exec) (X2 : c.code = cc) {off : Int} {t : Nat} {x : Int32} {y : Int32} {r : List Value} (hd : decode cc pc = .ok (.if_icmp cd off, 3)) (ht : (pc : Int) + off = (t : Int)) (k : W p l e R s m args below meth c H locs cells slots Q (F0 m (bif am_cc cd x y then t else pc + 3) ls r)) : W p l e R s m args below meth c H locs cells slots Q (F0 m pc ls (.int y :: .int x :: r)) := by
  cases cd
  · exact lv_icmp_eq X1 X2 hd ht (fun q => am_bT (P := fun z => W p l e R s m args below meth c H locs cells slots Q (F0 m z ls r)) (show am_cc .eq x y = true from decide_eq_true q) k) (fun q => am_bF (P := fun z => W p l e R s m args below meth c H locs cells slots Q (F0 m z ls r)) (show am_cc .eq x y = false from decide_eq_false q) k)
  · exact lv_icmp_ne X1 X2 hd ht (fun q => am_bT (P := fun z => W p l e R s m args below meth c H locs cells slots Q (F0 m z ls r)) (show am_cc .ne x y = true from (by rw [decide_eq_false q]; rfl : (!decide (x = y)) = true)) k) (fun q => am_bF (P := fun z => W p l e R s m args below meth c H locs cells slots Q (F0 m z ls r)) (show am_cc .ne x y = false from (by rw [decide_eq_true q]; rfl : (!decide (x = y)) = false)) k)
  · exact lv_icmp_lt X1 X2 hd ht (fun q => am_bT (P := fun z => W p l e R s m args below meth c H locs cells slots Q (F0 m z ls r)) (show am_cc .lt x y = true from decide_eq_true q) k) (fun q => am_bF (P := fun z => W p l e R s m args below meth c H locs cells slots Q (F0 m z ls r)) (show am_cc .lt x y = false from decide_eq_false q) k)
  · exact lv_icmp_ge X1 X2 hd ht (fun q => am_bT (P := fun z => W p l e R s m args below meth c H locs cells slots Q (F0 m z ls r)) (show am_cc .ge x y = true from decide_eq_true q) k) (fun q => am_bF (P := fun z => W p l e R s m args below meth c H locs cells slots Q (F0 m z ls r)) (show am_cc .ge x y = false from decide_eq_false q) k)
  · exact lv_icmp_gt X1 X2 hd ht (fun q => am_bT (P := fun z => W p l e R s m args below meth c H locs cells slots Q (F0 m z ls r)) (show am_cc .gt x y = true from decide_eq_true q) k) (fun q => am_bF (P := fun z => W p l e R s m args below meth c H locs cells slots Q (F0 m z ls r)) (show am_cc .gt x y = false from decide_eq_false q) k)
  · exact lv_icmp_le X1 X2 hd ht (fun q => am_bT (P := fun z => W p l e R s m args below meth c H locs cells slots Q (F0 m z ls r)) (show am_cc .le x y = true from decide_eq_true q) k) (fun q => am_bF (P := fun z => W p l e R s m args below meth c H locs cells slots Q (F0 m z ls r)) (show am_cc .le x y = false from decide_eq_false q) k)
theorem am_icond (cd : Jvm.ClassFile.Cond) (X1 : p.tables.exec = Jvm.exec) (X2 : c.code = cc) {off : Int} {t : Nat} {x : Int32} {r : List Value} (hd : decode cc pc = .ok (.ifCond cd off, 3)) (ht : (pc : Int) + off = (t : Int)) (k : W p l e R s m args below meth c H locs cells slots Q (F0 m (bif am_cc cd x 0 then t else pc + 3) ls r)) : W p l e R s m args below meth c H locs cells slots Q (F0 m pc ls (.int x :: r)) := by
  cases cd
  · exact lv_if_eq X1 X2 hd ht (fun q => am_bT (P := fun z => W p l e R s m args below meth c H locs cells slots Q (F0 m z ls r)) (show am_cc .eq x 0 = true from decide_eq_true q) k) (fun q => am_bF (P := fun z => W p l e R s m args below meth c H locs cells slots Q (F0 m z ls r)) (show am_cc .eq x 0 = false from decide_eq_false q) k)
  · exact lv_if_ne X1 X2 hd ht (fun q => am_bT (P := fun z => W p l e R s m args below meth c H locs cells slots Q (F0 m z ls r)) (show am_cc .ne x 0 = true from (by rw [decide_eq_false q]; rfl : (!decide (x = 0)) = true)) k) (fun q => am_bF (P := fun z => W p l e R s m args below meth c H locs cells slots Q (F0 m z ls r)) (show am_cc .ne x 0 = false from (by rw [decide_eq_true q]; rfl : (!decide (x = 0)) = false)) k)
  · exact lv_if_lt X1 X2 hd ht (fun q => am_bT (P := fun z => W p l e R s m args below meth c H locs cells slots Q (F0 m z ls r)) (show am_cc .lt x 0 = true from decide_eq_true q) k) (fun q => am_bF (P := fun z => W p l e R s m args below meth c H locs cells slots Q (F0 m z ls r)) (show am_cc .lt x 0 = false from decide_eq_false q) k)
  · exact lv_if_ge X1 X2 hd ht (fun q => am_bT (P := fun z => W p l e R s m args below meth c H locs cells slots Q (F0 m z ls r)) (show am_cc .ge x 0 = true from decide_eq_true q) k) (fun q => am_bF (P := fun z => W p l e R s m args below meth c H locs cells slots Q (F0 m z ls r)) (show am_cc .ge x 0 = false from decide_eq_false q) k)
  · exact lv_if_gt X1 X2 hd ht (fun q => am_bT (P := fun z => W p l e R s m args below meth c H locs cells slots Q (F0 m z ls r)) (show am_cc .gt x 0 = true from decide_eq_true q) k) (fun q => am_bF (P := fun z => W p l e R s m args below meth c H locs cells slots Q (F0 m z ls r)) (show am_cc .gt x 0 = false from decide_eq_false q) k)
  · exact lv_if_le X1 X2 hd ht (fun q => am_bT (P := fun z => W p l e R s m args below meth c H locs cells slots Q (F0 m z ls r)) (show am_cc .le x 0 = true from decide_eq_true q) k) (fun q => am_bF (P := fun z => W p l e R s m args below meth c H locs cells slots Q (F0 m z ls r)) (show am_cc .le x 0 = false from decide_eq_false q) k)
set_option maxHeartbeats 4000000 in
theorem am_s0_ok (X1 : p.tables.exec = Jvm.exec) (X2 : c.code = cc) (hd : decode cc pc = .ok (i, len)) (hlen : am_len i = 0 ∨ len = am_len i) (h : am_s0 nL i pc lo st = some u) (hL : lv_has ls nL (am_lo ad lo)) (k : ∀ ls' : Array Slot, lv_has ls' nL (am_lo ad u.2.1) → W p l e R s m args below meth c H locs cells slots Q (F0 m u.1 ls' (u.2.2.map (am_v ad)))) : W p l e R s m args below meth c H locs cells slots Q (F0 m pc ls (st.map (am_v ad))) := by
  unfold am_s0 at h
  split at h
  · -- .iconst
    replace hlen : len = 1 := by rcases hlen with q | q; exact absurd q (by simp [am_len]); simpa [am_len] using q
    subst hlen
    cases h
    exact lv_iconst X1 X2 hd rfl (k ls hL)
  · -- .bipush
    replace hlen : len = 2 := by rcases hlen with q | q; exact absurd q (by simp [am_len]); simpa [am_len] using q
    subst hlen
    cases h
    exact lv_bipush X1 X2 hd rfl (k ls hL)
  · -- .sipush
    replace hlen : len = 3 := by rcases hlen with q | q; exact absurd q (by simp [am_len]); simpa [am_len] using q
    subst hlen
    cases h
    exact lv_sipush X1 X2 hd rfl (k ls hL)
  · -- .lconst
    replace hlen : len = 1 := by rcases hlen with q | q; exact absurd q (by simp [am_len]); simpa [am_len] using q
    subst hlen
    cases h
    exact lv_lconst X1 X2 hd rfl (k ls hL)
  · -- .aconst_null
    replace hlen : len = 1 := by rcases hlen with q | q; exact absurd q (by simp [am_len]); simpa [am_len] using q
    subst hlen
    cases h
    exact lv_null X1 X2 hd (k ls hL)
  · -- .iload
    replace hlen : len = 2 := by rcases hlen with q | q; exact absurd q (by simp [am_len]); simpa [am_len] using q
    subst hlen
    split at h
    · rename_i hq; cases h
      exact lv_iload X1 X2 hd (am_has hL hq) (k ls hL)
    · cases h
  · -- .iload_n
    replace hlen : len = 1 := by rcases hlen with q | q; exact absurd q (by simp [am_len]); simpa [am_len] using q
    subst hlen
    split at h
    · rename_i hq; cases h
      exact lv_iload_n X1 X2 hd rfl (am_has hL hq) (k ls hL)
    · cases h
  · -- .lload
    replace hlen : len = 2 := by rcases hlen with q | q; exact absurd q (by simp [am_len]); simpa [am_len] using q
    subst hlen
    split at h
    · rename_i hq; cases h
      exact lv_lload X1 X2 hd (am_has hL hq) (k ls hL)
    · cases h
  · -- .lload_n
    replace hlen : len = 1 := by rcases hlen with q | q; exact absurd q (by simp [am_len]); simpa [am_len] using q
    subst hlen
    split at h
    · rename_i hq; cases h
      exact lv_lload_n X1 X2 hd rfl (am_has hL hq) (k ls hL)
    · cases h
  · -- .aload
    replace hlen : len = 2 := by rcases hlen with q | q; exact absurd q (by simp [am_len]); simpa [am_len] using q
    subst hlen
    split at h
    · rename_i hq; cases h
      exact lv_aload X1 X2 hd (am_has hL hq) (k ls hL)
    · rename_i hq; cases h
      exact lv_aloadN X1 X2 hd (am_has hL hq) (k ls hL)
    · cases h
  · -- .aload_n
    replace hlen : len = 1 := by rcases hlen with q | q; exact absurd q (by simp [am_len]); simpa [am_len] using q
    subst hlen
    split at h
    · rename_i hq; cases h
      exact lv_aload_n X1 X2 hd rfl (am_has hL hq) (k ls hL)
    · rename_i hq; cases h
      exact lv_aload_nN X1 X2 hd rfl (am_has hL hq) (k ls hL)
    · cases h
  · -- .istore
    replace hlen : len = 2 := by rcases hlen with q | q; exact absurd q (by simp [am_len]); simpa [am_len] using q
    subst hlen
    split at h
    · cases hB : Nat.blt _ nL with
      | false => rw [hB] at h; cases h
      | true =>
        rw [hB] at h
        cases h
        exact lv_istore X1 X2 hd hL (by simpa using hB) (am_set_lo lo _ (.int _)) k
    · cases h
  · -- .istore_n
    replace hlen : len = 1 := by rcases hlen with q | q; exact absurd q (by simp [am_len]); simpa [am_len] using q
    subst hlen
    split at h
    · cases hB : Nat.blt _ nL with
      | false => rw [hB] at h; cases h
      | true =>
        rw [hB] at h
        cases h
        exact lv_istore_n X1 X2 hd rfl hL (by simpa using hB) (am_set_lo lo _ (.int _)) k
    · cases h
  · -- .lstore
    replace hlen : len = 2 := by rcases hlen with q | q; exact absurd q (by simp [am_len]); simpa [am_len] using q
    subst hlen
    split at h
    · cases hB : Nat.blt _ nL with
      | false => rw [hB] at h; cases h
      | true =>
        rw [hB] at h
        cases h
        exact lv_lstore X1 X2 hd hL (by simpa using hB) (am_setL_lo lo _ (.long _)) k
    · cases h
  · -- .lstore_n
    replace hlen : len = 1 := by rcases hlen with q | q; exact absurd q (by simp [am_len]); simpa [am_len] using q
    subst hlen
    split at h
    · cases hB : Nat.blt _ nL with
      | false => rw [hB] at h; cases h
      | true =>
        rw [hB] at h
        cases h
        exact lv_lstore_n X1 X2 hd rfl hL (by simpa using hB) (am_setL_lo lo _ (.long _)) k
    · cases h
  · -- .astore
    replace hlen : len = 2 := by rcases hlen with q | q; exact absurd q (by simp [am_len]); simpa [am_len] using q
    subst hlen
    split at h
    · cases hB : Nat.blt _ nL with
      | false => rw [hB] at h; cases h
      | true =>
        rw [hB] at h
        cases h
        exact lv_astore X1 X2 hd hL (by simpa using hB) (am_set_lo lo _ (.ref _)) k
    · cases hB : Nat.blt _ nL with
      | false => rw [hB] at h; cases h
      | true =>
        rw [hB] at h
        cases h
        exact lv_astoreN X1 X2 hd hL (by simpa using hB) (am_set_lo lo _ .null) k
    · cases h
  · -- .astore_n
    replace hlen : len = 1 := by rcases hlen with q | q; exact absurd q (by simp [am_len]); simpa [am_len] using q
    subst hlen
    split at h
    · cases hB : Nat.blt _ nL with
      | false => rw [hB] at h; cases h
      | true =>
        rw [hB] at h
        cases h
        exact lv_astore_n X1 X2 hd rfl hL (by simpa using hB) (am_set_lo lo _ (.ref _)) k
    · cases hB : Nat.blt _ nL with
      | false => rw [hB] at h; cases h
      | true =>
        rw [hB] at h
        cases h
        exact lv_astore_nN X1 X2 hd rfl hL (by simpa using hB) (am_set_lo lo _ .null) k
    · cases h
  · -- .iinc
    replace hlen : len = 3 := by rcases hlen with q | q; exact absurd q (by simp [am_len]); simpa [am_len] using q
    subst hlen
    split at h
    · rename_i hq
      cases hB : Nat.blt _ nL with
      | false => rw [hB] at h; cases h
      | true =>
        rw [hB] at h
        cases h
        obtain ⟨kk, hkk⟩ := am_get_lo (ad := ad) hq
        exact lv_iinc X1 X2 hd hL hkk rfl (by simpa using hB) (am_set_lo lo _ (.int _)) k
    · cases h
  · -- .iadd
    replace hlen : len = 1 := by rcases hlen with q | q; exact absurd q (by simp [am_len]); simpa [am_len] using q
    subst hlen
    split at h
    · cases h
      exact lv_iadd X1 X2 hd (k ls hL)
    · cases h
  · -- .isub
    replace hlen : len = 1 := by rcases hlen with q | q; exact absurd q (by simp [am_len]); simpa [am_len] using q
    subst hlen
    split at h
    · cases h
      exact lv_isub X1 X2 hd (k ls hL)
    · cases h
  · -- .imul
    replace hlen : len = 1 := by rcases hlen with q | q; exact absurd q (by simp [am_len]); simpa [am_len] using q
    subst hlen
    split at h
    · cases h
      exact lv_imul X1 X2 hd (k ls hL)
    · cases h
  · -- .iand
    replace hlen : len = 1 := by rcases hlen with q | q; exact absurd q (by simp [am_len]); simpa [am_len] using q
    subst hlen
    split at h
    · cases h
      exact lv_iand X1 X2 hd (k ls hL)
    · cases h
  · -- .ior
    replace hlen : len = 1 := by rcases hlen with q | q; exact absurd q (by simp [am_len]); simpa [am_len] using q
    subst hlen
    split at h
    · cases h
      exact lv_ior X1 X2 hd (k ls hL)
    · cases h
  · -- .ixor
    replace hlen : len = 1 := by rcases hlen with q | q; exact absurd q (by simp [am_len]); simpa [am_len] using q
    subst hlen
    split at h
    · cases h
      exact lv_ixor X1 X2 hd (k ls hL)
    · cases h
  · -- .ishl
    replace hlen : len = 1 := by rcases hlen with q | q; exact absurd q (by simp [am_len]); simpa [am_len] using q
    subst hlen
    split at h
    · cases h
      exact lv_ishl X1 X2 hd (k ls hL)
    · cases h
  · -- .ishr
    replace hlen : len = 1 := by rcases hlen with q | q; exact absurd q (by simp [am_len]); simpa [am_len] using q
    subst hlen
    split at h
    · cases h
      exact lv_ishr X1 X2 hd (k ls hL)
    · cases h
  · -- .iushr
    replace hlen : len = 1 := by rcases hlen with q | q; exact absurd q (by simp [am_len]); simpa [am_len] using q
    subst hlen
    split at h
    · cases h
      exact lv_iushr X1 X2 hd rfl (k ls hL)
    · cases h
  · -- .idiv
    replace hlen : len = 1 := by rcases hlen with q | q; exact absurd q (by simp [am_len]); simpa [am_len] using q
    subst hlen
    split at h
    · split at h
      · cases h
      · rename_i hn; cases h
        exact lv_idiv X1 X2 hd hn (k ls hL)
    · cases h
  · -- .irem
    replace hlen : len = 1 := by rcases hlen with q | q; exact absurd q (by simp [am_len]); simpa [am_len] using q
    subst hlen
    split at h
    · split at h
      · cases h
      · rename_i hn; cases h
        exact lv_irem X1 X2 hd hn (k ls hL)
    · cases h
  · -- .ladd
    replace hlen : len = 1 := by rcases hlen with q | q; exact absurd q (by simp [am_len]); simpa [am_len] using q
    subst hlen
    split at h
    · cases h
      exact lv_ladd X1 X2 hd (k ls hL)
    · cases h
  · -- .lsub
    replace hlen : len = 1 := by rcases hlen with q | q; exact absurd q (by simp [am_len]); simpa [am_len] using q
    subst hlen
    split at h
    · cases h
      exact lv_lsub X1 X2 hd (k ls hL)
    · cases h
  · -- .lmul
    replace hlen : len = 1 := by rcases hlen with q | q; exact absurd q (by simp [am_len]); simpa [am_len] using q
    subst hlen
    split at h
    · cases h
      exact lv_lmul X1 X2 hd (k ls hL)
    · cases h
  · -- .land
    replace hlen : len = 1 := by rcases hlen with q | q; exact absurd q (by simp [am_len]); simpa [am_len] using q
    subst hlen
    split at h
    · cases h
      exact lv_land X1 X2 hd (k ls hL)
    · cases h
  · -- .lor
    replace hlen : len = 1 := by rcases hlen with q | q; exact absurd q (by simp [am_len]); simpa [am_len] using q
    subst hlen
    split at h
    · cases h
      exact lv_lor X1 X2 hd (k ls hL)
    · cases h
  · -- .lxor
    replace hlen : len = 1 := by rcases hlen with q | q; exact absurd q (by simp [am_len]); simpa [am_len] using q
    subst hlen
    split at h
    · cases h
      exact lv_lxor X1 X2 hd (k ls hL)
    · cases h
  · -- .lshl
    replace hlen : len = 1 := by rcases hlen with q | q; exact absurd q (by simp [am_len]); simpa [am_len] using q
    subst hlen
    split at h
    · cases h
      exact lv_lshl X1 X2 hd rfl (k ls hL)
    · cases h
  · -- .lshr
    replace hlen : len = 1 := by rcases hlen with q | q; exact absurd q (by simp [am_len]); simpa [am_len] using q
    subst hlen
    split at h
    · cases h
      exact lv_lshr X1 X2 hd rfl (k ls hL)
    · cases h
  · -- .lushr
    replace hlen : len = 1 := by rcases hlen with q | q; exact absurd q (by simp [am_len]); simpa [am_len] using q
    subst hlen
    split at h
    · cases h
      exact lv_lushr X1 X2 hd rfl (k ls hL)
    · cases h
  · -- .lcmp
    replace hlen : len = 1 := by rcases hlen with q | q; exact absurd q (by simp [am_len]); simpa [am_len] using q
    subst hlen
    split at h
    · cases h
      exact W.lcmp X1 X2 hd (k ls hL)
    · cases h
  · -- .ineg
    replace hlen : len = 1 := by rcases hlen with q | q; exact absurd q (by simp [am_len]); simpa [am_len] using q
    subst hlen
    split at h
    · cases h
      exact lv_ineg X1 X2 hd (k ls hL)
    · cases h
  · -- .i2l
    replace hlen : len = 1 := by rcases hlen with q | q; exact absurd q (by simp [am_len]); simpa [am_len] using q
    subst hlen
    split at h
    · cases h
      exact lv_i2l X1 X2 hd rfl (k ls hL)
    · cases h
  · -- .l2i
    replace hlen : len = 1 := by rcases hlen with q | q; exact absurd q (by simp [am_len]); simpa [am_len] using q
    subst hlen
    split at h
    · cases h
      exact lv_l2i X1 X2 hd rfl (k ls hL)
    · cases h
  · -- .i2c
    replace hlen : len = 1 := by rcases hlen with q | q; exact absurd q (by simp [am_len]); simpa [am_len] using q
    subst hlen
    split at h
    · cases h
      exact lv_i2c X1 X2 hd rfl (k ls hL)
    · cases h
  · -- .dup
    replace hlen : len = 1 := by rcases hlen with q | q; exact absurd q (by simp [am_len]); simpa [am_len] using q
    subst hlen
    split at h
    · split at h
      · rename_i hc; cases h
        exact lv_dup X1 X2 hd (by rw [am_v_cat]; exact hc) (k ls hL)
      · cases h
    · cases h
  · -- .pop
    replace hlen : len = 1 := by rcases hlen with q | q; exact absurd q (by simp [am_len]); simpa [am_len] using q
    subst hlen
    split at h
    · split at h
      · rename_i hc; cases h
        exact lv_pop X1 X2 hd (by rw [am_v_cat]; exact hc) (k ls hL)
      · cases h
    · cases h
  · -- .dup2
    replace hlen : len = 1 := by rcases hlen with q | q; exact absurd q (by simp [am_len]); simpa [am_len] using q
    subst hlen
    split at h
    · split at h
      · rename_i hc; cases h
        exact lv_dup2_11 X1 X2 hd (by rw [am_v_cat]; exact hc.1) (by rw [am_v_cat]; exact hc.2) (k ls hL)
      · cases h
    · cases h
  · -- .if_icmp
    replace hlen : len = 3 := by rcases hlen with q | q; exact absurd q (by simp [am_len]); simpa [am_len] using q
    subst hlen
    split at h
    · rename_i hj
      cases h
      exact am_icmp _ X1 X2 hd (am_jmp_eq hj) (k ls hL)
    · cases h
  · -- .ifCond
    replace hlen : len = 3 := by rcases hlen with q | q; exact absurd q (by simp [am_len]); simpa [am_len] using q
    subst hlen
    split at h
    · rename_i hj
      cases h
      exact am_icond _ X1 X2 hd (am_jmp_eq hj) (k ls hL)
    · cases h
  · -- .goto
    replace hlen : len = 3 := by rcases hlen with q | q; exact absurd q (by simp [am_len]); simpa [am_len] using q
    subst hlen
    split at h
    · rename_i hj; cases h
      exact lv_goto X1 X2 hd (am_jmp_eq hj) (k ls hL)
    · cases h
  · -- .ifnull
    replace hlen : len = 3 := by rcases hlen with q | q; exact absurd q (by simp [am_len]); simpa [am_len] using q
    subst hlen
    split at h
    · cases h
      exact lv_ifnull X1 X2 hd (k ls hL)
    · rename_i hj; cases h
      exact lv_ifnullN X1 X2 hd (am_jmp_eq hj) (k ls hL)
    · cases h
  · -- .ifnonnull
    replace hlen : len = 3 := by rcases hlen with q | q; exact absurd q (by simp [am_len]); simpa [am_len] using q
    subst hlen
    split at h
    · rename_i hj; cases h
      exact lv_ifnonnull X1 X2 hd (am_jmp_eq hj) (k ls hL)
    · cases h
      exact lv_ifnonnullN X1 X2 hd (k ls hL)
    · cases h
  · -- .tableswitch
    split at h
    · split at h
      · rename_i hc
        split at h
        · rename_i hj; cases h
          exact lv_tableOut X1 X2 hd hc (am_jmp_eq hj) (k ls hL)
        · cases h
      · rename_i hc
        split at h
        · rename_i ho
          split at h
          · rename_i hj; cases h
            exact lv_tableIn X1 X2 hd (fun q => hc (Or.inl q)) (fun q => hc (Or.inr q)) ho (am_jmp_eq hj) (k ls hL)
          · cases h
        · cases h
    · cases h
  · -- .lookupswitch
    split at h
    · split at h
      · rename_i hc
        split at h
        · rename_i hj; cases h
          exact lv_lookup X1 X2 hd hc rfl (am_jmp_eq hj) (k ls hL)
        · cases h
      · cases h
    · cases h
  · cases h
end AMS
