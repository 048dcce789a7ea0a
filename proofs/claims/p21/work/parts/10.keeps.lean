/-! WHAT THE STEPS KEEP -/
def am_fc (n : Nat) (lo : List (Nat × Value)) (st : List Value) : Prop := (∀ q ∈ lo, am_cv n q.2) ∧ ∀ v ∈ st, am_cv n v
theorem am_get_cl {n : Nat} {lo : List (Nat × Value)} {i : Nat} {v : Value} (h : am_get lo i = some v) (hc : ∀ q ∈ lo, am_cv n q.2) : am_cv n v := by
  obtain ⟨k, hk⟩ := am_get_at h
  exact hc _ (List.mem_of_getElem? hk)
theorem am_set_cl {n : Nat} {lo : List (Nat × Value)} {i : Nat} {v : Value} (hc : ∀ q ∈ lo, am_cv n q.2) (hv : am_cv n v) : ∀ q ∈ am_set lo i v, am_cv n q.2 := by
  intro q hq
  rcases List.mem_cons.mp hq with rfl | hq
  · exact hv
  · exact hc q (List.mem_filter.mp hq).1
theorem am_setL_cl {n : Nat} {lo : List (Nat × Value)} {i : Nat} {v : Value} (hc : ∀ q ∈ lo, am_cv n q.2) (hv : am_cv n v) : ∀ q ∈ am_setL lo i v, am_cv n q.2 := by
  intro q hq
  rcases List.mem_cons.mp hq with rfl | hq
  · exact hv
  · exact hc q (List.mem_filter.mp hq).1
theorem am_t1 {n : Nat} {v : Value} {r : List Value} (h : ∀ w ∈ v :: r, am_cv n w) : ∀ w ∈ r, am_cv n w := fun w hw => h w (List.mem_cons_of_mem _ hw)
theorem am_h1 {n : Nat} {v : Value} {r : List Value} (h : ∀ w ∈ v :: r, am_cv n w) : am_cv n v := h v List.mem_cons_self
theorem am_p1 {n : Nat} {v : Value} {r : List Value} (h : am_cv n v) (hr : ∀ w ∈ r, am_cv n w) : ∀ w ∈ v :: r, am_cv n w := List.forall_mem_cons.mpr ⟨h, hr⟩
set_option maxHeartbeats 4000000 in
theorem am_s0_cl {n nL pc : Nat} {i : Instr} {lo : List (Nat × Value)} {st : List Value} {u : Nat × List (Nat × Value) × List Value} (h : am_s0 nL i pc lo st = some u) (hc : am_fc n lo st) : am_fc n u.2.1 u.2.2 := by
  obtain ⟨c1, c2⟩ := hc
  unfold am_s0 at h
  split at h
  · -- .iconst
    cases h
    exact ⟨c1, am_p1 trivial c2⟩
  · -- .bipush
    cases h
    exact ⟨c1, am_p1 trivial c2⟩
  · -- .sipush
    cases h
    exact ⟨c1, am_p1 trivial c2⟩
  · -- .lconst
    cases h
    exact ⟨c1, am_p1 trivial c2⟩
  · -- .aconst_null
    cases h
    exact ⟨c1, am_p1 trivial c2⟩
  · -- .iload
    split at h
    · rename_i hq; cases h; exact ⟨c1, am_p1 (am_get_cl hq c1) c2⟩
    · cases h
  · -- .iload_n
    split at h
    · rename_i hq; cases h; exact ⟨c1, am_p1 (am_get_cl hq c1) c2⟩
    · cases h
  · -- .lload
    split at h
    · rename_i hq; cases h; exact ⟨c1, am_p1 (am_get_cl hq c1) c2⟩
    · cases h
  · -- .lload_n
    split at h
    · rename_i hq; cases h; exact ⟨c1, am_p1 (am_get_cl hq c1) c2⟩
    · cases h
  · -- .aload
    split at h
    · rename_i hq; cases h; exact ⟨c1, am_p1 (am_get_cl hq c1) c2⟩
    · rename_i hq; cases h; exact ⟨c1, am_p1 (am_get_cl hq c1) c2⟩
    · cases h
  · -- .aload_n
    split at h
    · rename_i hq; cases h; exact ⟨c1, am_p1 (am_get_cl hq c1) c2⟩
    · rename_i hq; cases h; exact ⟨c1, am_p1 (am_get_cl hq c1) c2⟩
    · cases h
  · -- .istore
    split at h
    · obtain ⟨-, rfl⟩ := am_cf h
      exact ⟨am_set_cl c1 (am_h1 c2), am_t1 c2⟩
    · cases h
  · -- .istore_n
    split at h
    · obtain ⟨-, rfl⟩ := am_cf h
      exact ⟨am_set_cl c1 (am_h1 c2), am_t1 c2⟩
    · cases h
  · -- .lstore
    split at h
    · obtain ⟨-, rfl⟩ := am_cf h
      exact ⟨am_setL_cl c1 (am_h1 c2), am_t1 c2⟩
    · cases h
  · -- .lstore_n
    split at h
    · obtain ⟨-, rfl⟩ := am_cf h
      exact ⟨am_setL_cl c1 (am_h1 c2), am_t1 c2⟩
    · cases h
  · -- .astore
    split at h
    · obtain ⟨-, rfl⟩ := am_cf h
      exact ⟨am_set_cl c1 (am_h1 c2), am_t1 c2⟩
    · obtain ⟨-, rfl⟩ := am_cf h
      exact ⟨am_set_cl c1 (am_h1 c2), am_t1 c2⟩
    · cases h
  · -- .astore_n
    split at h
    · obtain ⟨-, rfl⟩ := am_cf h
      exact ⟨am_set_cl c1 (am_h1 c2), am_t1 c2⟩
    · obtain ⟨-, rfl⟩ := am_cf h
      exact ⟨am_set_cl c1 (am_h1 c2), am_t1 c2⟩
    · cases h
  · -- .iinc
    split at h
    · obtain ⟨-, rfl⟩ := am_cf h
      exact ⟨am_set_cl c1 trivial, c2⟩
    · cases h
  · -- .iadd
    split at h
    · cases h; exact ⟨c1, am_p1 trivial (am_t1 (am_t1 c2))⟩
    · cases h
  · -- .isub
    split at h
    · cases h; exact ⟨c1, am_p1 trivial (am_t1 (am_t1 c2))⟩
    · cases h
  · -- .imul
    split at h
    · cases h; exact ⟨c1, am_p1 trivial (am_t1 (am_t1 c2))⟩
    · cases h
  · -- .iand
    split at h
    · cases h; exact ⟨c1, am_p1 trivial (am_t1 (am_t1 c2))⟩
    · cases h
  · -- .ior
    split at h
    · cases h; exact ⟨c1, am_p1 trivial (am_t1 (am_t1 c2))⟩
    · cases h
  · -- .ixor
    split at h
    · cases h; exact ⟨c1, am_p1 trivial (am_t1 (am_t1 c2))⟩
    · cases h
  · -- .ishl
    split at h
    · cases h; exact ⟨c1, am_p1 trivial (am_t1 (am_t1 c2))⟩
    · cases h
  · -- .ishr
    split at h
    · cases h; exact ⟨c1, am_p1 trivial (am_t1 (am_t1 c2))⟩
    · cases h
  · -- .iushr
    split at h
    · cases h; exact ⟨c1, am_p1 trivial (am_t1 (am_t1 c2))⟩
    · cases h
  · -- .idiv
    split at h
    · split at h
      · cases h
      · cases h; exact ⟨c1, am_p1 trivial (am_t1 (am_t1 c2))⟩
    · cases h
  · -- .irem
    split at h
    · split at h
      · cases h
      · cases h; exact ⟨c1, am_p1 trivial (am_t1 (am_t1 c2))⟩
    · cases h
  · -- .ladd
    split at h
    · cases h; exact ⟨c1, am_p1 trivial (am_t1 (am_t1 c2))⟩
    · cases h
  · -- .lsub
    split at h
    · cases h; exact ⟨c1, am_p1 trivial (am_t1 (am_t1 c2))⟩
    · cases h
  · -- .lmul
    split at h
    · cases h; exact ⟨c1, am_p1 trivial (am_t1 (am_t1 c2))⟩
    · cases h
  · -- .land
    split at h
    · cases h; exact ⟨c1, am_p1 trivial (am_t1 (am_t1 c2))⟩
    · cases h
  · -- .lor
    split at h
    · cases h; exact ⟨c1, am_p1 trivial (am_t1 (am_t1 c2))⟩
    · cases h
  · -- .lxor
    split at h
    · cases h; exact ⟨c1, am_p1 trivial (am_t1 (am_t1 c2))⟩
    · cases h
  · -- .lshl
    split at h
    · cases h; exact ⟨c1, am_p1 trivial (am_t1 (am_t1 c2))⟩
    · cases h
  · -- .lshr
    split at h
    · cases h; exact ⟨c1, am_p1 trivial (am_t1 (am_t1 c2))⟩
    · cases h
  · -- .lushr
    split at h
    · cases h; exact ⟨c1, am_p1 trivial (am_t1 (am_t1 c2))⟩
    · cases h
  · -- .lcmp
    split at h
    · cases h; exact ⟨c1, am_p1 trivial (am_t1 (am_t1 c2))⟩
    · cases h
  · -- .ineg
    split at h
    · cases h; exact ⟨c1, am_p1 trivial (am_t1 c2)⟩
    · cases h
  · -- .i2l
    split at h
    · cases h; exact ⟨c1, am_p1 trivial (am_t1 c2)⟩
    · cases h
  · -- .l2i
    split at h
    · cases h; exact ⟨c1, am_p1 trivial (am_t1 c2)⟩
    · cases h
  · -- .i2c
    split at h
    · cases h; exact ⟨c1, am_p1 trivial (am_t1 c2)⟩
    · cases h
  · -- .dup
    split at h
    · split at h
      · cases h; exact ⟨c1, am_p1 (am_h1 c2) c2⟩
      · cases h
    · cases h
  · -- .pop
    split at h
    · split at h
      · cases h; exact ⟨c1, am_t1 c2⟩
      · cases h
    · cases h
  · -- .dup2
    split at h
    · split at h
      · cases h; exact ⟨c1, am_p1 (am_h1 c2) (am_p1 (am_h1 (am_t1 c2)) c2)⟩
      · cases h
    · cases h
  · -- .if_icmp
    split at h
    · cases h; exact ⟨c1, am_t1 (am_t1 c2)⟩
    · cases h
  · -- .ifCond
    split at h
    · cases h; exact ⟨c1, am_t1 c2⟩
    · cases h
  · -- .goto
    split at h
    · cases h; exact ⟨c1, c2⟩
    · cases h
  · -- .ifnull
    split at h
    · cases h; exact ⟨c1, am_t1 c2⟩
    · cases h; exact ⟨c1, am_t1 c2⟩
    · cases h
  · -- .ifnonnull
    split at h
    · cases h; exact ⟨c1, am_t1 c2⟩
    · cases h; exact ⟨c1, am_t1 c2⟩
    · cases h
  · -- .tableswitch
    split at h
    · split at h
      · split at h
        · cases h; exact ⟨c1, am_t1 c2⟩
        · cases h
      · split at h
        · split at h
          · cases h; exact ⟨c1, am_t1 c2⟩
          · cases h
        · cases h
    · cases h
  · -- .lookupswitch
    split at h
    · split at h
      · split at h
        · cases h; exact ⟨c1, am_t1 c2⟩
        · cases h
      · cases h
    · cases h
  · cases h
/-- what a heap's step keeps: the numbers that stand, stand; the heap grows -/
def am_gr (h h' : am_H) : Prop := h.1 ≤ h'.1 ∧ h.2.1 ≤ h'.2.1 ∧ h.2.2.1 ≤ h'.2.2.1
theorem am_gr.rf {h : am_H} : am_gr h h := ⟨Nat.le_refl _, Nat.le_refl _, Nat.le_refl _⟩
theorem am_gr.tr {a b c : am_H} (h1 : am_gr a b) (h2 : am_gr b c) : am_gr a c := ⟨Nat.le_trans h1.1 h2.1, Nat.le_trans h1.2.1 h2.2.1, Nat.le_trans h1.2.2 h2.2.2⟩
theorem am_gr.new {h : am_H} {sl : Nat} {c : am_C} : am_gr h (am_new h sl c) := ⟨Nat.le_succ _, Nat.le_succ _, Nat.le_add_right _ _⟩
theorem am_cv_le {n m : Nat} {v : Value} (hnm : n ≤ m) (h : am_cv n v) : am_cv m v := by
  induction hnm with
  | refl => exact h
  | step _ ih => exact am_cv_mono ih
theorem am_fc.le {n m : Nat} {lo : List (Nat × Value)} {st : List Value} (hnm : n ≤ m) (h : am_fc n lo st) : am_fc m lo st := ⟨fun q hq => am_cv_le hnm (h.1 q hq), fun v hv => am_cv_le hnm (h.2 v hv)⟩
set_option maxHeartbeats 4000000 in
theorem am_s1_cl {own pc : Nat} {ini : Bool} {i : Instr} {st : List Value} {h : am_H} {u : Nat × List Value × am_H} (hs : am_s1 own ini i pc st h = some u) (hc : ∀ v ∈ st, am_cv h.1 v) (hh : am_cls h) : (∀ v ∈ u.2.1, am_cv u.2.2.1 v) ∧ am_gr h u.2.2 := by
  unfold am_s1 at hs
  split at hs
  · split at hs
    · obtain ⟨ho, hs⟩ := am_cg hs
      split at hs
      · cases hs
        exact ⟨am_p1 (hh _ (Nat.blt_eq.mp ho) _) (am_t1 hc), am_gr.rf⟩
      · cases hs
    · cases hs
  · split at hs
    · obtain ⟨ho, hs⟩ := am_cg hs
      split at hs
      · obtain ⟨-, rfl⟩ := am_cf hs
        exact ⟨am_t1 (am_t1 hc), am_gr.rf⟩
      · cases hs
    · cases hs
  · split at hs
    · obtain ⟨ho, hs⟩ := am_cg hs
      obtain ⟨-, rfl⟩ := am_cf hs
      exact ⟨am_p1 trivial (am_t1 (am_t1 hc)), am_gr.rf⟩
    · cases hs
  · split at hs
    · obtain ⟨-, rfl⟩ := am_cf hs
      exact ⟨am_t1 (am_t1 (am_t1 hc)), am_gr.rf⟩
    · cases hs
  · split at hs
    · obtain ⟨-, rfl⟩ := am_cf hs
      exact ⟨am_p1 trivial (am_t1 (am_t1 hc)), am_gr.rf⟩
    · cases hs
  · split at hs
    · obtain ⟨-, rfl⟩ := am_cf hs
      exact ⟨am_t1 (am_t1 (am_t1 hc)), am_gr.rf⟩
    · cases hs
  · split at hs
    · obtain ⟨-, rfl⟩ := am_cf hs
      exact ⟨am_p1 trivial (am_t1 (am_t1 hc)), am_gr.rf⟩
    · cases hs
  · split at hs
    · obtain ⟨-, rfl⟩ := am_cf hs
      exact ⟨am_t1 (am_t1 (am_t1 hc)), am_gr.rf⟩
    · cases hs
  · split at hs
    · obtain ⟨hb, rfl⟩ := am_cf hs
      exact ⟨am_p1 (am_rv_c (hh _ (Nat.blt_eq.mp (am_b2 (am_b2 hb).1).1) _)) (am_t1 (am_t1 hc)), am_gr.rf⟩
    · cases hs
  · split at hs
    · obtain ⟨-, rfl⟩ := am_cf hs
      exact ⟨am_t1 (am_t1 (am_t1 hc)), am_gr.rf⟩
    · cases hs
  · split at hs
    · obtain ⟨-, rfl⟩ := am_cf hs
      exact ⟨am_p1 trivial (am_t1 hc), am_gr.rf⟩
    · cases hs
  · split at hs
    · obtain ⟨-, rfl⟩ := am_cf hs
      exact ⟨am_p1 (Or.inl (Nat.lt_succ_self _)) (fun v hv => am_cv_mono (hc v hv)), am_gr.new⟩
    · cases hs
  · split at hs
    · obtain ⟨-, rfl⟩ := am_cf hs
      exact ⟨am_p1 (Or.inl (Nat.lt_succ_self _)) (fun v hv => am_cv_mono (am_t1 hc v hv)), am_gr.new⟩
    · cases hs
  · split at hs
    · obtain ⟨-, rfl⟩ := am_cf hs
      exact ⟨am_p1 (Or.inl (Nat.lt_succ_self _)) (fun v hv => am_cv_mono (am_t1 hc v hv)), am_gr.new⟩
    · cases hs
  · split at hs
    · cases hs
      exact ⟨am_p1 trivial hc, am_gr.rf⟩
    · cases hs
  · split at hs
    · cases hs
      exact ⟨am_p1 trivial hc, am_gr.rf⟩
    · cases hs
  · split at hs
    · cases hs
      exact ⟨am_p1 trivial hc, am_gr.rf⟩
    · cases hs
  · cases hs
