/-! OPERATIONS OVER OPEN VALUES: branches -/
noncomputable def sx_rg (iv : List (Int × Int)) (v : Value) : Option (Int × Int) := match v with
  | .int x => some (x.toInt, x.toInt)
  | .retAddr k => bif Nat.blt k 100 then iv[k]? else none
  | _ => none
noncomputable def sx_rgL (iv : List (Int × Int)) (v : Value) : Option (Int × Int) := match v with
  | .long x => some (x.toInt, x.toInt)
  | .double b => bif Nat.blt b.toNat 100 then iv[b.toNat]? else none
  | _ => none
noncomputable def sx_lt (a b : Int × Int) : Option Bool := if a.2 < b.1 then some true else if b.2 ≤ a.1 then some false else none
noncomputable def sx_eq (a b : Int × Int) : Option Bool := if a.2 < b.1 ∨ b.2 < a.1 then some false else if a.1 = a.2 ∧ b.1 = b.2 ∧ a.1 = b.1 then some true else none
noncomputable def sx_cmp (cd : Jvm.ClassFile.Cond) (a b : Int × Int) : Option Bool := match cd with
  | .eq => sx_eq a b
  | .ne => (sx_eq a b).map not
  | .lt => sx_lt a b
  | .ge => (sx_lt a b).map not
  | .gt => sx_lt b a
  | .le => (sx_lt b a).map not
/-- what is known of the script's ints -/
noncomputable def sx_iv (ρ : Nat → Int32) (iv : List (Int × Int)) : Prop := ∀ k q, iv[k]? = some q → q.1 ≤ (ρ k).toInt ∧ (ρ k).toInt ≤ q.2
section SXB
variable {ρ : Nat → Int32} {iv : List (Int × Int)} {mi pc n : Nat} {M : am_M} {i : Instr}
theorem sx_rg_ok {v w : Value} {a : Int × Int} (hv : sx_iv ρ iv) (h : sx_rg iv v = some a) (hr : sx_rel ρ v w) : ∃ x : Int32, w = .int x ∧ a.1 ≤ x.toInt ∧ x.toInt ≤ a.2 := by
  cases v with
  | int x =>
    cases h
    exact ⟨x, hr, Int.le_refl _, Int.le_refl _⟩
  | retAddr k =>
    obtain ⟨x, rfl, hx⟩ := hr
    have h : (bif Nat.blt k 100 then iv[k]? else none) = some a := h
    obtain ⟨hb, h⟩ := am_cg h
    have e := hx (Nat.blt_eq.mp hb)
    subst e
    exact ⟨_, rfl, hv k a h⟩
  | _ => cases h
theorem sx_rgL_ok {v w : Value} {a : Int × Int} (hv : sx_iv ρ iv) (h : sx_rgL iv v = some a) (hr : sx_rel ρ v w) : ∃ x : Int64, w = .long x ∧ a.1 ≤ x.toInt ∧ x.toInt ≤ a.2 := by
  cases v with
  | long x =>
    cases h
    exact ⟨x, hr, Int.le_refl _, Int.le_refl _⟩
  | double b =>
    obtain ⟨x, rfl, hx⟩ := hr
    have h : (bif Nat.blt b.toNat 100 then iv[b.toNat]? else none) = some a := h
    obtain ⟨hb, h⟩ := am_cg h
    have e := hx (Nat.blt_eq.mp hb)
    subst e
    have h2 := hv _ a h
    refine ⟨_, rfl, ?_⟩
    rw [Int32.toInt_toInt64]
    exact h2
  | _ => cases h
theorem sx_lt_ok {x y : Int32} {a b : Int × Int} {r : Bool} (hx : a.1 ≤ x.toInt ∧ x.toInt ≤ a.2) (hy : b.1 ≤ y.toInt ∧ y.toInt ≤ b.2) (h : sx_lt a b = some r) : decide (x < y) = r ∧ decide (y ≤ x) = !r := by
  unfold sx_lt at h
  split at h
  · cases h
    exact ⟨decide_eq_true (Int32.lt_iff_toInt_lt.mpr (by omega)), decide_eq_false (fun q => by have := Int32.le_iff_toInt_le.mp q; omega)⟩
  · split at h
    · cases h
      exact ⟨decide_eq_false (fun q => by have := Int32.lt_iff_toInt_lt.mp q; omega), decide_eq_true (Int32.le_iff_toInt_le.mpr (by omega))⟩
    · cases h
theorem sx_eq_ok {x y : Int32} {a b : Int × Int} {r : Bool} (hx : a.1 ≤ x.toInt ∧ x.toInt ≤ a.2) (hy : b.1 ≤ y.toInt ∧ y.toInt ≤ b.2) (h : sx_eq a b = some r) : decide (x = y) = r := by
  unfold sx_eq at h
  split at h
  · cases h
    exact decide_eq_false (fun q => by subst q; omega)
  · split at h
    · cases h
      exact decide_eq_true (Int32.toInt_inj.mp (by omega))
    · cases h
theorem sx_mapnot {o : Option Bool} {r : Bool} (h : o.map not = some r) : o = some (!r) := by
  cases o with
  | none => cases h
  | some b => have h := Option.some.inj h; subst h; rw [Bool.not_not]
theorem sx_cmp_ok {cd : Jvm.ClassFile.Cond} {x y : Int32} {a b : Int × Int} {r : Bool} (hx : a.1 ≤ x.toInt ∧ x.toInt ≤ a.2) (hy : b.1 ≤ y.toInt ∧ y.toInt ≤ b.2) (h : sx_cmp cd a b = some r) : am_cc cd x y = r := by
  cases cd with
  | eq => exact sx_eq_ok hx hy h
  | ne =>
    have h1 := sx_eq_ok hx hy (sx_mapnot h)
    show (!decide (x = y)) = r
    rw [h1, Bool.not_not]
  | lt => exact (sx_lt_ok hx hy h).1
  | ge =>
    have h1 := (sx_lt_ok hx hy (sx_mapnot h)).2
    rw [Bool.not_not] at h1
    exact h1
  | gt => exact (sx_lt_ok hy hx h).1
  | le =>
    have h1 := (sx_lt_ok hy hx (sx_mapnot h)).2
    rw [Bool.not_not] at h1
    exact h1
noncomputable def sx_ic (iv : List (Int × Int)) (cd : Jvm.ClassFile.Cond) (t nx : Nat) : sx_Op := fun L st f => match st with
  | .int y :: .int x :: r => some (bif am_cc cd x y then t else nx, L, r, f)
  | y :: x :: r => match sx_rg iv x, sx_rg iv y with
    | some a, some b => match sx_cmp cd a b with
      | some c => some (bif c then t else nx, L, r, f)
      | none => none
    | _, _ => none
  | _ => none
theorem sx_o_ic {cd : Jvm.ClassFile.Cond} {off : Int} {t : Nat} (hv : sx_iv ρ iv) (hM : am_tab[mi]? = some M) (hc : M.1.2.2.2.2.2 pc = some (.if_icmp cd off, n)) (hj : am_jmp pc off = some t) : sx_ok ρ mi pc (sx_ic iv cd t (pc + 3)) := by
  intro L st f lo st' h u hL hst hh hu
  unfold sx_ic at hu
  split at hu
  · rename_i y x r
    cases hu
    obtain ⟨t1, rfl, hs2⟩ := sx_cI hst
    obtain ⟨t2, rfl, hs3⟩ := sx_cI hs2
    exact ⟨_, sx_one0 (u := (bif am_cc cd x y then t else pc + 3, lo, t2)) hM hc rfl rfl (by simp only [am_s0, hj]), rfl, hL, hs3, hh⟩
  · split at hu
    · rename_i a b ha hb
      split at hu
      · rename_i c hcc
        cases hu
        obtain ⟨w, t1, rfl, hr1, hs2⟩ := sx_cV hst
        obtain ⟨w2, t2, rfl, hr2, hs3⟩ := sx_cV hs2
        obtain ⟨x, rfl, hx⟩ := sx_rg_ok hv ha hr2
        obtain ⟨y, rfl, hy⟩ := sx_rg_ok hv hb hr1
        exact ⟨_, sx_one0 (u := (bif c then t else pc + 3, lo, t2)) hM hc rfl rfl (by simp only [am_s0, hj, sx_cmp_ok hx hy hcc]), rfl, hL, hs3, hh⟩
      · cases hu
    · cases hu
  · cases hu
noncomputable def sx_if (iv : List (Int × Int)) (cd : Jvm.ClassFile.Cond) (t nx : Nat) : sx_Op := fun L st f => match st with
  | .int x :: r => some (bif am_cc cd x 0 then t else nx, L, r, f)
  | x :: r => match sx_rg iv x with
    | some a => match sx_cmp cd a (0, 0) with
      | some c => some (bif c then t else nx, L, r, f)
      | none => none
    | none => none
  | _ => none
theorem sx_o_if {cd : Jvm.ClassFile.Cond} {off : Int} {t : Nat} (hv : sx_iv ρ iv) (hM : am_tab[mi]? = some M) (hc : M.1.2.2.2.2.2 pc = some (.ifCond cd off, n)) (hj : am_jmp pc off = some t) : sx_ok ρ mi pc (sx_if iv cd t (pc + 3)) := by
  intro L st f lo st' h u hL hst hh hu
  unfold sx_if at hu
  split at hu
  · rename_i x r
    cases hu
    obtain ⟨t1, rfl, hs2⟩ := sx_cI hst
    exact ⟨_, sx_one0 (u := (bif am_cc cd x 0 then t else pc + 3, lo, t1)) hM hc rfl rfl (by simp only [am_s0, hj]), rfl, hL, hs2, hh⟩
  · split at hu
    · rename_i a ha
      split at hu
      · rename_i c hcc
        cases hu
        obtain ⟨w, t1, rfl, hr1, hs2⟩ := sx_cV hst
        obtain ⟨x, rfl, hx⟩ := sx_rg_ok hv ha hr1
        have h0 : (0 : Int) ≤ (0 : Int32).toInt ∧ (0 : Int32).toInt ≤ 0 := by decide
        exact ⟨_, sx_one0 (u := (bif c then t else pc + 3, lo, t1)) hM hc rfl rfl (by simp only [am_s0, hj, sx_cmp_ok (b := (0, 0)) hx h0 hcc]), rfl, hL, hs2, hh⟩
      · cases hu
    · cases hu
  · cases hu
noncomputable def sx_goto (t : Nat) : sx_Op := fun L st f => some (t, L, st, f)
theorem sx_o_goto {off : Int} {t : Nat} (hM : am_tab[mi]? = some M) (hc : M.1.2.2.2.2.2 pc = some (.goto off, n)) (hj : am_jmp pc off = some t) : sx_ok ρ mi pc (sx_goto t) := by
  intro L st f lo st' h u hL hst hh hu
  cases hu
  exact ⟨_, sx_one0 (u := (t, lo, st')) hM hc rfl rfl (by simp only [am_s0, hj]), rfl, hL, hst, hh⟩
noncomputable def sx_nul (t nx : Nat) : sx_Op := fun L st f => match st with
  | .ref _ :: r => some (nx, L, r, f)
  | .null :: r => some (t, L, r, f)
  | _ => none
theorem sx_o_ifnull {off : Int} {t : Nat} (hM : am_tab[mi]? = some M) (hc : M.1.2.2.2.2.2 pc = some (.ifnull off, n)) (hj : am_jmp pc off = some t) : sx_ok ρ mi pc (sx_nul t (pc + 3)) := by
  intro L st f lo st' h u hL hst hh hu
  unfold sx_nul at hu
  split at hu
  · cases hu
    obtain ⟨t1, rfl, hs2⟩ := sx_cR hst
    exact ⟨_, sx_one0 (u := (pc + 3, lo, t1)) hM hc rfl rfl (by simp only [am_s0]), rfl, hL, hs2, hh⟩
  · cases hu
    obtain ⟨t1, rfl, hs2⟩ := sx_cN hst
    exact ⟨_, sx_one0 (u := (t, lo, t1)) hM hc rfl rfl (by simp only [am_s0, hj]), rfl, hL, hs2, hh⟩
  · cases hu
theorem sx_o_ifnonnull {off : Int} {t : Nat} (hM : am_tab[mi]? = some M) (hc : M.1.2.2.2.2.2 pc = some (.ifnonnull off, n)) (hj : am_jmp pc off = some t) : sx_ok ρ mi pc (sx_nul (pc + 3) t) := by
  intro L st f lo st' h u hL hst hh hu
  unfold sx_nul at hu
  split at hu
  · cases hu
    obtain ⟨t1, rfl, hs2⟩ := sx_cR hst
    exact ⟨_, sx_one0 (u := (t, lo, t1)) hM hc rfl rfl (by simp only [am_s0, hj]), rfl, hL, hs2, hh⟩
  · cases hu
    obtain ⟨t1, rfl, hs2⟩ := sx_cN hst
    exact ⟨_, sx_one0 (u := (pc + 3, lo, t1)) hM hc rfl rfl (by simp only [am_s0]), rfl, hL, hs2, hh⟩
  · cases hu
noncomputable def sx_lc (iv : List (Int × Int)) (nx : Nat) : sx_Op := fun L st f => match st with
  | .long y :: .long x :: r => some (nx, L, .int (lg_cmp x y) :: r, f)
  | y :: x :: r => match sx_rgL iv x, sx_rgL iv y with
    | some a, some b => if a.2 < b.1 then some (nx, L, .int (-1) :: r, f) else if b.2 < a.1 then some (nx, L, .int 1 :: r, f) else none
    | _, _ => none
  | _ => none
theorem sx_o_lcmp (hv : sx_iv ρ iv) (hM : am_tab[mi]? = some M) (hc : M.1.2.2.2.2.2 pc = some (.lcmp, n)) : sx_ok ρ mi pc (sx_lc iv (pc + 1)) := by
  intro L st f lo st' h u hL hst hh hu
  unfold sx_lc at hu
  split at hu
  · rename_i y x r
    cases hu
    obtain ⟨t1, rfl, hs2⟩ := sx_cL hst
    obtain ⟨t2, rfl, hs3⟩ := sx_cL hs2
    exact ⟨_, sx_one0 (u := (pc + 1, lo, .int (lg_cmp x y) :: t2)) hM hc rfl rfl rfl, rfl, hL, sx_mk rfl hs3, hh⟩
  · split at hu
    · rename_i a b ha hb
      obtain ⟨w, t1, rfl, hr1, hs2⟩ := sx_cV hst
      obtain ⟨w2, t2, rfl, hr2, hs3⟩ := sx_cV hs2
      obtain ⟨x, rfl, hx⟩ := sx_rgL_ok hv ha hr2
      obtain ⟨y, rfl, hy⟩ := sx_rgL_ok hv hb hr1
      split at hu
      · cases hu
        have e : lg_cmp x y = -1 := by
          unfold lg_cmp
          rw [if_neg (fun q => by have := Int64.lt_iff_toInt_lt.mp q; omega), if_neg (fun q => by subst q; omega)]
        exact ⟨_, sx_one0 (u := (pc + 1, lo, .int (-1) :: t2)) hM hc rfl rfl (by simp only [am_s0, e]), rfl, hL, sx_mk rfl hs3, hh⟩
      · split at hu
        · cases hu
          have e : lg_cmp x y = 1 := by
            unfold lg_cmp
            rw [if_pos (Int64.lt_iff_toInt_lt.mpr (by omega))]
          exact ⟨_, sx_one0 (u := (pc + 1, lo, .int 1 :: t2)) hM hc rfl rfl (by simp only [am_s0, e]), rfl, hL, sx_mk rfl hs3, hh⟩
        · cases hu
    · cases hu
  · cases hu
noncomputable def sx_sw (iv : List (Int × Int)) (nL pc : Nat) (dflt a b : Int) (offs : Array Int) : sx_Op := fun L st f => match st with
  | .int x :: r => match am_s0 nL (.tableswitch dflt a b offs) pc [] [.int x] with
    | some u => some (u.1, L, r, f)
    | none => none
  | v :: r => match sx_rg iv v, am_jmp pc dflt with
    | some q, some t => bif decide (q.2 < a) || decide (b < q.1) then some (t, L, r, f) else none
    | _, _ => none
  | _ => none
theorem sx_o_sw {dflt a b : Int} {offs : Array Int} (hv : sx_iv ρ iv) (hM : am_tab[mi]? = some M) (hc : M.1.2.2.2.2.2 pc = some (.tableswitch dflt a b offs, n)) : sx_ok ρ mi pc (sx_sw iv M.1.2.1 pc dflt a b offs) := by
  intro L st f lo st' h u hL hst hh hu
  unfold sx_sw at hu
  split at hu
  · rename_i x r
    split at hu
    · rename_i q hq
      cases hu
      obtain ⟨t1, rfl, hs2⟩ := sx_cI hst
      refine ⟨_, sx_one0 (u := (q.1, lo, t1)) hM hc rfl rfl ?_, rfl, hL, hs2, hh⟩
      simp only [am_s0] at hq ⊢
      split at hq
      · rename_i h1
        rw [if_pos h1]
        split at hq
        · cases hq; rfl
        · cases hq
      · rename_i h1
        rw [if_neg h1]
        split at hq
        · split at hq
          · cases hq; rfl
          · cases hq
        · cases hq
    · cases hu
  · split at hu
    · rename_i q t hq ht
      obtain ⟨hb, rfl⟩ := am_cf hu
      obtain ⟨w, t1, rfl, hr1, hs2⟩ := sx_cV hst
      obtain ⟨x, rfl, hx⟩ := sx_rg_ok hv hq hr1
      refine ⟨_, sx_one0 (u := (t, lo, t1)) hM hc rfl rfl ?_, rfl, hL, hs2, hh⟩
      have hb : q.2 < a ∨ b < q.1 := by
        rcases Bool.or_eq_true_iff.mp hb with q | q
        · exact Or.inl (of_decide_eq_true q)
        · exact Or.inr (of_decide_eq_true q)
      simp only [am_s0]
      rw [if_pos (by omega), ht]
    · cases hu
  · cases hu
noncomputable def sx_srt (ps : Array (Int × Int)) : Bool := decide ((ps.toList.zip (ps.toList.drop 1)).all (fun (a, next) => a.1 < next.1) = true)
noncomputable def sx_lk (iv : List (Int × Int)) (nL pc : Nat) (dflt : Int) (ps : Array (Int × Int)) : sx_Op := fun L st f => match st with
  | .int x :: r => match am_s0 nL (.lookupswitch dflt ps) pc [] [.int x] with
    | some u => some (u.1, L, r, f)
    | none => none
  | v :: r => match sx_rg iv v, am_jmp pc dflt with
    | some q, some t => bif sx_srt ps && ps.toList.all (fun e => decide (e.1 < q.1) || decide (q.2 < e.1)) then some (t, L, r, f) else none
    | _, _ => none
  | _ => none
theorem sx_off {x d : Int} : ∀ {l : List (Int × Int)}, (∀ e ∈ l, e.1 ≠ x) → Op.lookupswitch.offset l d x = d
  | [], _ => rfl
  | (a, o) :: r, h => by
    rw [Op.lookupswitch.offset_cons, if_neg (h (a, o) List.mem_cons_self)]
    exact sx_off (fun e he => h e (List.mem_cons_of_mem _ he))
theorem sx_o_lk {dflt : Int} {ps : Array (Int × Int)} (hv : sx_iv ρ iv) (hM : am_tab[mi]? = some M) (hc : M.1.2.2.2.2.2 pc = some (.lookupswitch dflt ps, n)) : sx_ok ρ mi pc (sx_lk iv M.1.2.1 pc dflt ps) := by
  intro L st f lo st' h u hL hst hh hu
  unfold sx_lk at hu
  split at hu
  · rename_i x r
    split at hu
    · rename_i q hq
      cases hu
      obtain ⟨t1, rfl, hs2⟩ := sx_cI hst
      refine ⟨_, sx_one0 (u := (q.1, lo, t1)) hM hc rfl rfl ?_, rfl, hL, hs2, hh⟩
      simp only [am_s0] at hq ⊢
      split at hq
      · rename_i h1
        rw [if_pos h1]
        split at hq
        · cases hq; rfl
        · cases hq
      · cases hq
    · cases hu
  · split at hu
    · rename_i q t hq ht
      obtain ⟨hb, rfl⟩ := am_cf hu
      obtain ⟨b1, b2⟩ := am_b2 hb
      have b1 := of_decide_eq_true b1
      obtain ⟨w, t1, rfl, hr1, hs2⟩ := sx_cV hst
      obtain ⟨x, rfl, hx⟩ := sx_rg_ok hv hq hr1
      refine ⟨_, sx_one0 (u := (t, lo, t1)) hM hc rfl rfl ?_, rfl, hL, hs2, hh⟩
      have ho : Op.lookupswitch.offset ps.toList dflt x.toInt = dflt := sx_off (fun e he => by
        rcases Bool.or_eq_true_iff.mp (List.all_eq_true.mp b2 e he) with z | z
        · have := of_decide_eq_true z
          omega
        · have := of_decide_eq_true z
          omega)
      simp only [am_s0]
      rw [if_pos b1, ho, ht]
    · cases hu
  · cases hu
end SXB
