/-! WHAT STANDS AT THE LAW'S ENTRY -/
def st_fl : List Cond := flatC (Jvm.Cond.and given_1 narrow_1)
def st_sv (q : String × Nat × String × List Int32) : Term := .field (.string q.1 q.2.1) "java/lang/String" "value" "[B"
def st_tx (q : String × Nat × String × List Int32) : Bool := decide (Cond.exactly (.string q.1 q.2.1) "java/lang/String" ∈ st_fl) && decide (Cond.eq (.field (.string q.1 q.2.1) "java/lang/String" "coder" "B") (.int 0) ∈ st_fl) && decide (Cond.arrayOf (st_sv q) .byte ∈ st_fl) && decide (Cond.eq (.length (st_sv q)) (.int (Int32.ofNat q.2.2.2.length)) ∈ st_fl) && decide (Cond.stringRef q.1 q.2.1 q.2.2.1 ∈ lw_tbl) && Nat.blt q.2.2.2.length 1000
def st_te (q : String × Nat × String × List Int32) : Bool := (List.range q.2.2.2.length).all (fun j => decide (Cond.eq (.elem (st_sv q) (.int (Int32.ofNat j))) (.int (q.2.2.2.getD j 0)) ∈ st_fl))
theorem st_tx_all : am_st.all st_tx = true := by decide +kernel
theorem st_te_all : am_st.all st_te = true := by decide +kernel
def st_ss (q : String × String × List Int32) : Term := .static q.1 q.2.1 "[I"
def st_sx (q : String × String × List Int32) : Bool := decide (Cond.arrayOf (st_ss q) .int ∈ st_fl) && decide (Cond.eq (.length (st_ss q)) (.int (Int32.ofNat q.2.2.length)) ∈ st_fl) && (List.range q.2.2.length).all (fun j => decide (Cond.eq (.elem (st_ss q) (.int (Int32.ofNat j))) (.int (q.2.2.getD j 0)) ∈ st_fl)) && decide (Cond.laysStatic q.1 q.2.1 "[I" ∈ lw_tbl) && decide (Cond.initialized q.1 ∈ lw_tbl) && Nat.blt q.2.2.length 1000
theorem st_sx_all : am_sa.all st_sx = true := by decide +kernel
def st_nc (a b : String) : Bool := decide (a = b) || decide (Cond.not (.castable a b) ∈ st_fl)
theorem st_nc_all : am_xs.all (fun a => am_xs.all (st_nc a)) = true := by decide +kernel
theorem st_ot : Cond.eq (.static "java/lang/String" "COMPACT_STRINGS" "Z") (.int 1) ∈ st_fl ∧ Cond.isRef (.static "jdk/internal/util/Preconditions" "SIOOBE_FORMATTER" "Ljava/util/function/BiFunction;") ∈ st_fl ∧ Cond.isRef (.static Bundle.tN "UNASSIGNED_STACK" Bundle.steD) ∈ st_fl ∧ Cond.isRef (.static Bundle.tN "SUPPRESSED_SENTINEL" Bundle.listD) ∈ st_fl := ⟨by decide +kernel, by decide +kernel, by decide +kernel, by decide +kernel⟩
theorem st_ow : Cond.laysStatic "java/lang/String" "COMPACT_STRINGS" "Z" ∈ lw_tbl ∧ Cond.initialized "java/lang/String" ∈ lw_tbl ∧ Cond.laysStatic "jdk/internal/util/Preconditions" "SIOOBE_FORMATTER" "Ljava/util/function/BiFunction;" ∈ lw_tbl ∧ Cond.initialized "jdk/internal/util/Preconditions" ∈ lw_tbl ∧ Cond.laysStatic Bundle.tN "UNASSIGNED_STACK" Bundle.steD ∈ lw_tbl ∧ Cond.laysStatic Bundle.tN "SUPPRESSED_SENTINEL" Bundle.listD ∈ lw_tbl ∧ Cond.initialized Bundle.tN ∈ lw_tbl ∧ Cond.arrayOver (.object "ArchiveShelf$Archive") ∈ lw_tbl ∧ Cond.arrayOver (.object "ArchiveShelf$Member") ∈ lw_tbl ∧ Cond.arrayClass .int ∈ lw_tbl ∧ Cond.arrayClass .long ∈ lw_tbl ∧ Cond.arrayClass .boolean ∈ lw_tbl := ⟨by decide +kernel, by decide +kernel, by decide +kernel, by decide +kernel, by decide +kernel, by decide +kernel, by decide +kernel, by decide +kernel, by decide +kernel, by decide +kernel, by decide +kernel, by decide +kernel⟩
theorem st_inst : am_cl.all (fun q => decide (Cond.instantiable q.1 q.2.2 ∈ lw_tbl)) = true := by decide +kernel
section ST
variable {s : State} {args : Array Value} {A : Nat → Prop}
theorem st_arr {ty : FieldType} (h : (Cond.arrayClass ty).before args s = true) : ∃ cA : ClassId, ArrOfT s cA ty ∧ s.vm.findClass ("[" ++ ty.toString) = some cA := by
  obtain ⟨cA, k, comp, h1, h2, h3⟩ := Cond.arrayClass_spec h
  exact ⟨cA, fun n z => ⟨fun k h => (by cases h), k, h2, comp, h3⟩, h1⟩
theorem st_arO {n : String} (h : (Cond.arrayOver (.object n)).before args s = true) : ∃ cA : ClassId, ArrOfT s cA (.object n) ∧ va_RA s cA (.object n) := by
  obtain ⟨comp, c, k, h1, -, h3, h4, h5⟩ := Cond.arrayOver_spec h
  exact ⟨c, fun n z => ⟨fun k h => (by cases h), k, h3, comp, h4⟩, k, comp, h3, h4, h1, h5⟩
theorem st_K (hts : ∀ w ∈ lw_tbl, w.before args s = true) : ∃ (D : va_G) (cy : Nat → ClassId), va_K D am_cl (am_tys cy) s := by
  have h0 : ∀ k : Nat, ∃ z : ClassId × (Nat → Nat), ∀ q, am_cl[k]? = some q → u_Kn s q.1 q.2.1 q.2.2 z.1 z.2 := by
    intro k
    cases hk : am_cl[k]? with
    | none => exact ⟨(0, fun _ => 0), fun q h => by cases h⟩
    | some q =>
      have hi := of_decide_eq_true (List.all_eq_true.mp st_inst q (List.mem_of_getElem? hk))
      obtain ⟨cC, iS, hK⟩ := u_known (C := q.1) (T := q.2.1) (N := q.2.2) (n := q.2.2) hts (am_in_ok (C := q.1) (T := q.2.1) (N := q.2.2) hk) (hts _ hi)
      exact ⟨(cC, iS), fun q2 h => by cases h; exact hK⟩
  obtain ⟨g, hg⟩ := Classical.axiomOfChoice h0
  obtain ⟨-, -, -, -, -, -, -, w8, w9, w10, w11, w12⟩ := st_ow
  obtain ⟨c0, a0, b0⟩ := st_arr (hts _ w10)
  obtain ⟨c1, a1, b1⟩ := st_arr (hts _ w11)
  obtain ⟨c2, a2, b2⟩ := st_arr (hts _ w12)
  obtain ⟨c3, a3, b3⟩ := st_arO (hts _ w8)
  obtain ⟨c4, a4, b4⟩ := st_arO (hts _ w9)
  refine ⟨(fun k => (g k).1, fun k => (g k).2), fun k => match k with | 0 => c0 | 1 => c1 | 2 => c2 | 3 => c3 | _ => c4, fun k q hq => hg k q hq, fun k q hq => ?_⟩
  match k, hq with
  | 0, hq => cases hq; exact ⟨a0, b0⟩
  | 1, hq => cases hq; exact ⟨a1, b1⟩
  | 2, hq => cases hq; exact ⟨a2, b2⟩
  | 3, hq => cases hq; exact ⟨a3, b3⟩
  | 4, hq => cases hq; exact ⟨a4, b4⟩
  | k + 5, hq => cases hq
theorem st_txt (hts : ∀ w ∈ lw_tbl, w.before args s = true) (hfl : ∀ w ∈ st_fl, w.before args s = true) (hA : ∀ a : Nat, a < s.heap.size → ¬ A a) (j : Nat) : ∃ z : Nat × Nat, ∀ q, am_st[j]? = some q → vk_R q.1 q.2.1 q.2.2.1 z.1 s ∧ va_O "java/lang/String" z.1 A s s.heap ∧ va_OF "java/lang/String" "coder" "B" (.int 0) z.1 A s s.heap ∧ va_OF "java/lang/String" "value" "[B" (.ref z.2) z.1 A s s.heap ∧ va_T .byte z.2 q.2.2.2.length (fun i => .int (q.2.2.2.getD i 0)) A s s.heap := by
  cases hk : am_st[j]? with
  | none => exact ⟨(0, 0), fun q h => by cases h⟩
  | some q =>
    have hm := List.mem_of_getElem? hk
    have h1 := List.all_eq_true.mp st_tx_all q hm
    have h2 := List.all_eq_true.mp st_te_all q hm
    unfold st_tx at h1
    unfold st_te at h2
    obtain ⟨h1, x6⟩ := am_b2 h1
    obtain ⟨h1, x5⟩ := am_b2 h1
    obtain ⟨h1, x4⟩ := am_b2 h1
    obtain ⟨h1, x3⟩ := am_b2 h1
    obtain ⟨x1, x2⟩ := am_b2 h1
    have x6 := Nat.blt_eq.mp x6
    have hel : ∀ i, i < q.2.2.2.length → (Term.elem (st_sv q) (.int (Int32.ofNat i))).eval args s none [] s = some (.int (q.2.2.2.getD i 0)) := fun i hi => va_eqt (hfl _ (of_decide_eq_true (List.all_eq_true.mp h2 i (List.mem_range.mpr hi))))
    obtain ⟨a, c, cA, kA, q1, q2, q3, q4, q5, q6, -⟩ := Cond.exactly_spec (args := args) (first := s) (o := none) (s := s) (idx := []) (t := .string q.1 q.2.1) (cls := "java/lang/String") (hfl _ (of_decide_eq_true x1))
    obtain ⟨t, ht, hT⟩ := va_Tof (f := fun i => .int (q.2.2.2.getD i 0)) (A := A) (by omega) (hfl _ (of_decide_eq_true x3)) (va_eqt (hfl _ (of_decide_eq_true x4))) hel hA
    exact ⟨(a, t), fun q2' h => by
      cases h
      exact ⟨vk_R.of (hts _ (of_decide_eq_true x5)) q1, ⟨cA, q3, q5, by rw [q6]; exact q2, hA a (Array.getElem?_eq_some_iff.mp q3).1⟩, vk_OFof q1 (va_eqt (hfl _ (of_decide_eq_true x2))) hA, vk_OFof q1 ht hA, hT⟩⟩
theorem st_row (hts : ∀ w ∈ lw_tbl, w.before args s = true) (hfl : ∀ w ∈ st_fl, w.before args s = true) (hA : ∀ a : Nat, a < s.heap.size → ¬ A a) (j : Nat) : ∃ z : Nat, ∀ q, am_sa[j]? = some q → va_Z q.1 q.2.1 "[I" (.ref z) A s s.heap ∧ va_T .int z q.2.2.length (fun i => .int (q.2.2.getD i 0)) A s s.heap := by
  cases hk : am_sa[j]? with
  | none => exact ⟨0, fun q h => by cases h⟩
  | some q =>
    have h1 := List.all_eq_true.mp st_sx_all q (List.mem_of_getElem? hk)
    unfold st_sx at h1
    obtain ⟨h1, x6⟩ := am_b2 h1
    obtain ⟨h1, x5⟩ := am_b2 h1
    obtain ⟨h1, x4⟩ := am_b2 h1
    obtain ⟨h1, x3⟩ := am_b2 h1
    obtain ⟨x1, x2⟩ := am_b2 h1
    have x6 := Nat.blt_eq.mp x6
    have hel : ∀ i, i < q.2.2.length → (Term.elem (st_ss q) (.int (Int32.ofNat i))).eval args s none [] s = some (.int (q.2.2.getD i 0)) := fun i hi => va_eqt (hfl _ (of_decide_eq_true (List.all_eq_true.mp x3 i (List.mem_range.mpr hi))))
    obtain ⟨t, ht, hT⟩ := va_Tof (f := fun i => .int (q.2.2.getD i 0)) (A := A) (by omega) (hfl _ (of_decide_eq_true x1)) (va_eqt (hfl _ (of_decide_eq_true x2))) hel hA
    exact ⟨t, fun q2' h => by
      cases h
      exact ⟨va_Zref (hts _ (of_decide_eq_true x4)) (hts _ (of_decide_eq_true x5)) ht hA, hT⟩⟩
/-- numbers of old things -/
def st_ad (b : Nat) (r : Nat → Nat) (t : Nat → Nat × Nat) (k : Nat) : Nat := if k < 1000000100 then r (k - 1000000000) else if k < 1000000200 then (t (k - 1000000100)).1 else if k < 1000000300 then (t (k - 1000000200)).2 else b
theorem st_ad_r {b : Nat} {r : Nat → Nat} {t : Nat → Nat × Nat} {j : Nat} (hj : j < 100) : st_ad b r t (1000000000 + j) = r j := by
  unfold st_ad
  rw [if_pos (by omega), show 1000000000 + j - 1000000000 = j from by omega]
theorem st_ad_t {b : Nat} {r : Nat → Nat} {t : Nat → Nat × Nat} {j : Nat} (hj : j < 100) : st_ad b r t (1000000100 + j) = (t j).1 := by
  unfold st_ad
  rw [if_neg (by omega), if_pos (by omega), show 1000000100 + j - 1000000100 = j from by omega]
theorem st_ad_v {b : Nat} {r : Nat → Nat} {t : Nat → Nat × Nat} {j : Nat} (hj : j < 100) : st_ad b r t (1000000200 + j) = (t j).2 := by
  unfold st_ad
  rw [if_neg (by omega), if_neg (by omega), if_pos (by omega), show 1000000200 + j - 1000000200 = j from by omega]
theorem st_ad_b {b : Nat} {r : Nat → Nat} {t : Nat → Nat × Nat} : st_ad b r t 1000000300 = b := by
  unfold st_ad
  rw [if_neg (by omega), if_neg (by omega), if_neg (by omega)]
theorem st_Od (b : Nat) (hts : ∀ w ∈ lw_tbl, w.before args s = true) (hfl : ∀ w ∈ st_fl, w.before args s = true) (hA : ∀ a : Nat, a < s.heap.size → ¬ A a) : ∃ ad : Nat → Nat, am_Od A ad s s.heap ∧ ad 1000000300 = b := by
  obtain ⟨t, ht⟩ := Classical.axiomOfChoice (st_txt (A := A) hts hfl hA)
  obtain ⟨r, hr⟩ := Classical.axiomOfChoice (st_row (A := A) hts hfl hA)
  obtain ⟨o1, o2, o3, o4⟩ := st_ot
  obtain ⟨w1, w2, w3, w4, w5, w6, w7, w8, w9, -, -, -⟩ := st_ow
  refine ⟨st_ad b r t, ⟨va_AO.of (hts _ w8), va_AO.of (hts _ w9), fun j q hj => ?_, fun j q hj => ?_, va_Zof (hts _ w1) (hts _ w2) (va_eqi (hfl _ o1)) hA, va_Zqof (hts _ w3) (hts _ w4) (hfl _ o2) hA, vx_Zqof (hts _ w5) (hts _ w7) (hfl _ o3) hA, vx_Zqof (hts _ w6) (hts _ w7) (hfl _ o4) hA⟩, st_ad_b⟩
  · have hl : j < am_sa.length := (List.getElem?_eq_some_iff.mp hj).1
    have : am_sa.length < 100 := by decide
    rw [st_ad_r (by omega)]
    exact hr j q hj
  · have hl : j < am_st.length := (List.getElem?_eq_some_iff.mp hj).1
    have : am_st.length < 100 := by decide
    rw [st_ad_t (by omega), st_ad_v (by omega)]
    exact ht j q hj
theorem st_Nc (hfl : ∀ w ∈ st_fl, w.before args s = true) : am_Nc s := by
  intro a ha b hb hab
  have h1 := List.all_eq_true.mp (List.all_eq_true.mp st_nc_all a ha) b hb
  unfold st_nc at h1
  rcases Bool.or_eq_true_iff.mp h1 with h | h
  · exact absurd (of_decide_eq_true h) hab
  · exact va_Nc.of (hfl _ (of_decide_eq_true h))
end ST
