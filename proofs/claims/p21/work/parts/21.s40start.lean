/-! WHAT STANDS AT THE LAW'S ENTRY -/
noncomputable def st_fl : List Cond := flatC (Jvm.Cond.and given_1 narrow_1)
noncomputable def st_sv (q : String × Nat × String × List Int32) : Term := .field (.string q.1 q.2.1) "java/lang/String" "value" "[B"
noncomputable def st_F (q : String × Nat × String × List Int32) : List Cond := Cond.exactly (.string q.1 q.2.1) "java/lang/String" :: Cond.eq (.field (.string q.1 q.2.1) "java/lang/String" "coder" "B") (.int 0) :: Cond.arrayOf (st_sv q) .byte :: Cond.eq (.length (st_sv q)) (.int (Int32.ofNat q.2.2.2.length)) :: (List.range q.2.2.2.length).map (fun j => Cond.eq (.elem (st_sv q) (.int (Int32.ofNat j))) (.int (q.2.2.2.getD j 0)))
noncomputable def st_ss (q : String × String × List Int32) : Term := .static q.1 q.2.1 "[I"
noncomputable def st_G (q : String × String × List Int32) : List Cond := Cond.isRef (st_ss q) :: Cond.arrayOf (st_ss q) .int :: Cond.eq (.length (st_ss q)) (.int (Int32.ofNat q.2.2.length)) :: (List.range q.2.2.length).map (fun j => Cond.eq (.elem (st_ss q) (.int (Int32.ofNat j))) (.int (q.2.2.getD j 0)))
set_option maxRecDepth 20000 in
theorem st_dr : st_fl.drop 152 = am_st.flatMap st_F := by decide +kernel
set_option maxRecDepth 20000 in
theorem st_ds : (st_fl.drop 4).take 22 ++ (st_fl.drop 33).take 59 = am_sa.flatMap st_G := by decide +kernel
theorem st_F_in {q : String × Nat × String × List Int32} (hq : q ∈ am_st) {w : Cond} (hw : w ∈ st_F q) : w ∈ st_fl := by
  have h : w ∈ am_st.flatMap st_F := List.mem_flatMap.mpr ⟨q, hq, hw⟩
  rw [← st_dr] at h
  exact List.mem_of_mem_drop h
theorem st_G_in {q : String × String × List Int32} (hq : q ∈ am_sa) {w : Cond} (hw : w ∈ st_G q) : w ∈ st_fl := by
  have h : w ∈ am_sa.flatMap st_G := List.mem_flatMap.mpr ⟨q, hq, hw⟩
  rw [← st_ds] at h
  rcases List.mem_append.mp h with h | h
  · exact List.mem_of_mem_drop (List.mem_of_mem_take h)
  · exact List.mem_of_mem_drop (List.mem_of_mem_take h)
noncomputable def st_nl : List Cond := (st_fl.drop 92).take 60
noncomputable def st_nc (a b : String) : Bool := decide (a = b) || decide (Cond.not (.castable a b) ∈ st_nl)
theorem st_nc_all : am_xs.all (fun a => am_xs.all (st_nc a)) = true := by decide +kernel
noncomputable def st_ol : List Cond := (st_fl.drop 26).take 7
theorem st_ol_in {w : Cond} (h : w ∈ st_ol) : w ∈ st_fl := List.mem_of_mem_drop (List.mem_of_mem_take h)
theorem st_ot : Cond.eq (.static "java/lang/String" "COMPACT_STRINGS" "Z") (.int 1) ∈ st_ol ∧ Cond.isRef (.static "jdk/internal/util/Preconditions" "SIOOBE_FORMATTER" "Ljava/util/function/BiFunction;") ∈ st_ol ∧ Cond.isRef (.static Bundle.tN "UNASSIGNED_STACK" Bundle.steD) ∈ st_ol ∧ Cond.isRef (.static Bundle.tN "SUPPRESSED_SENTINEL" Bundle.listD) ∈ st_ol := ⟨by decide +kernel, by decide +kernel, by decide +kernel, by decide +kernel⟩
theorem st_ln : am_st.all (fun q => Nat.blt q.2.2.2.length 1000) = true ∧ am_sa.all (fun q => Nat.blt q.2.2.length 1000) = true := ⟨by decide +kernel, by decide +kernel⟩
section ST
variable {s : State} {args : Array Value} {A : Nat → Prop}
theorem st_arr {ty : FieldType} (h : (Cond.arrayClass ty).before args s = true) : ∃ cA : ClassId, ArrOfT s cA ty ∧ s.vm.findClass ("[" ++ ty.toString) = some cA := by
  obtain ⟨cA, k, comp, h1, h2, h3⟩ := Cond.arrayClass_spec h
  exact ⟨cA, fun n z => ⟨fun k h => (by cases h), k, h2, comp, h3⟩, h1⟩
theorem st_arO {n : String} (h : (Cond.arrayOver (.object n)).before args s = true) : ∃ cA : ClassId, ArrOfT s cA (.object n) ∧ va_RA s cA (.object n) := by
  obtain ⟨comp, c, k, h1, -, h3, h4, h5⟩ := Cond.arrayOver_spec h
  exact ⟨c, fun n z => ⟨fun k h => (by cases h), k, h3, comp, h4⟩, k, comp, h3, h4, h1, h5⟩
theorem st_K (hts : ∀ w ∈ lw_tbl, w.before args s = true) : ∃ (D : va_G) (cy : Nat → ClassId), va_K D am_cl (am_tys cy) s := by
  have h0 : ∀ k : Nat, ∃ z : ClassId × (Nat → Nat), ∀ q, am_cl[k]? = some q → u_Kn s q.1 q.2.1 q.2.2 z.1 z.2 := by
    intro k
    cases hk : am_cl[k]? with
    | none => exact ⟨(0, fun _ => 0), fun q h => by cases h⟩
    | some q =>
      have hi := st_inst q (List.mem_of_getElem? hk)
      obtain ⟨cC, iS, hK⟩ := u_known (C := q.1) (T := q.2.1) (N := q.2.2) (n := q.2.2) hts (am_in_ok (C := q.1) (T := q.2.1) (N := q.2.2) hk) (hts _ hi)
      exact ⟨(cC, iS), fun q2 h => by cases h; exact hK⟩
  obtain ⟨g, hg⟩ := Classical.axiomOfChoice h0
  obtain ⟨-, -, -, -, -, -, -, w8, w9, w10, w11, w12⟩ := st_ow
  obtain ⟨c0, a0, b0⟩ := st_arr (hts _ w10)
  obtain ⟨c1, a1, b1⟩ := st_arr (hts _ w11)
  obtain ⟨c2, a2, b2⟩ := st_arr (hts _ w12)
  obtain ⟨c3, a3, b3⟩ := st_arO (hts _ w8)
  obtain ⟨c4, a4, b4⟩ := st_arO (hts _ w9)
  refine ⟨(fun k => (g k).1, fun k => (g k).2), fun k => match k with | 0 => c0 | 1 => c1 | 2 => c2 | 3 => c3 | _ => c4, fun k q hq => hg k q hq, fun k q hq => ?_⟩
  match k, hq with
  | 0, hq => cases hq; exact ⟨a0, b0⟩
  | 1, hq => cases hq; exact ⟨a1, b1⟩
  | 2, hq => cases hq; exact ⟨a2, b2⟩
  | 3, hq => cases hq; exact ⟨a3, b3⟩
  | 4, hq => cases hq; exact ⟨a4, b4⟩
  | k + 5, hq => cases hq
theorem st_txt (hts : ∀ w ∈ lw_tbl, w.before args s = true) (hfl : ∀ w ∈ st_fl, w.before args s = true) (hA : ∀ a : Nat, a < s.heap.size → ¬ A a) (j : Nat) : ∃ z : Nat × Nat, ∀ q, am_st[j]? = some q → vk_R q.1 q.2.1 q.2.2.1 z.1 s ∧ va_O "java/lang/String" z.1 A s s.heap ∧ va_OF "java/lang/String" "coder" "B" (.int 0) z.1 A s s.heap ∧ va_OF "java/lang/String" "value" "[B" (.ref z.2) z.1 A s s.heap ∧ va_T .byte z.2 q.2.2.2.length (fun i => .int (q.2.2.2.getD i 0)) A s s.heap := by
  cases hk : am_st[j]? with
  | none => exact ⟨(0, 0), fun q h => by cases h⟩
  | some q =>
    have hm := List.mem_of_getElem? hk
    have x6 := Nat.blt_eq.mp (List.all_eq_true.mp st_ln.1 q hm)
    have fl : ∀ w ∈ st_F q, w.before args s = true := fun w hw => hfl w (st_F_in hm hw)
    have hel : ∀ i, i < q.2.2.2.length → (Term.elem (st_sv q) (.int (Int32.ofNat i))).eval args s none [] s = some (.int (q.2.2.2.getD i 0)) := fun i hi => va_eqt (fl _ (List.mem_cons_of_mem _ (List.mem_cons_of_mem _ (List.mem_cons_of_mem _ (List.mem_cons_of_mem _ (List.mem_map.mpr ⟨i, List.mem_range.mpr hi, rfl⟩))))))
    have y1 := fl _ (List.mem_cons_self)
    have y2 := fl _ (List.mem_cons_of_mem _ List.mem_cons_self)
    have y3 := fl _ (List.mem_cons_of_mem _ (List.mem_cons_of_mem _ List.mem_cons_self))
    have y4 := fl _ (List.mem_cons_of_mem _ (List.mem_cons_of_mem _ (List.mem_cons_of_mem _ List.mem_cons_self)))
    obtain ⟨a, c, cA, kA, q1, q2, q3, q4, q5, q6, -⟩ := Cond.exactly_spec (args := args) (first := s) (o := none) (s := s) (idx := []) (t := .string q.1 q.2.1) (cls := "java/lang/String") y1
    obtain ⟨t, ht, hT⟩ := va_Tof (f := fun i => .int (q.2.2.2.getD i 0)) (A := A) (by omega) y3 (va_eqt y4) hel hA
    exact ⟨(a, t), fun q2' h => by
      cases h
      exact ⟨vk_R.of (hts _ (st_sr _ hm)) q1, ⟨cA, q3, q5, by rw [q6]; exact q2, hA a (Array.getElem?_eq_some_iff.mp q3).1⟩, vk_OFof q1 (va_eqt y2) hA, vk_OFof q1 ht hA, hT⟩⟩
theorem st_row (hts : ∀ w ∈ lw_tbl, w.before args s = true) (hfl : ∀ w ∈ st_fl, w.before args s = true) (hA : ∀ a : Nat, a < s.heap.size → ¬ A a) (j : Nat) : ∃ z : Nat, ∀ q, am_sa[j]? = some q → va_Z q.1 q.2.1 "[I" (.ref z) A s s.heap ∧ va_T .int z q.2.2.length (fun i => .int (q.2.2.getD i 0)) A s s.heap := by
  cases hk : am_sa[j]? with
  | none => exact ⟨0, fun q h => by cases h⟩
  | some q =>
    have hm := List.mem_of_getElem? hk
    have x6 := Nat.blt_eq.mp (List.all_eq_true.mp st_ln.2 q hm)
    have fl : ∀ w ∈ st_G q, w.before args s = true := fun w hw => hfl w (st_G_in hm hw)
    have hel : ∀ i, i < q.2.2.length → (Term.elem (st_ss q) (.int (Int32.ofNat i))).eval args s none [] s = some (.int (q.2.2.getD i 0)) := fun i hi => va_eqt (fl _ (List.mem_cons_of_mem _ (List.mem_cons_of_mem _ (List.mem_cons_of_mem _ (List.mem_map.mpr ⟨i, List.mem_range.mpr hi, rfl⟩)))))
    have y1 := fl _ (List.mem_cons_of_mem _ List.mem_cons_self)
    have y2 := fl _ (List.mem_cons_of_mem _ (List.mem_cons_of_mem _ List.mem_cons_self))
    obtain ⟨x4, x5⟩ := st_sw q hm
    obtain ⟨t, ht, hT⟩ := va_Tof (f := fun i => .int (q.2.2.getD i 0)) (A := A) (by omega) y1 (va_eqt y2) hel hA
    exact ⟨t, fun q2' h => by
      cases h
      exact ⟨va_Zref (hts _ x4) (hts _ x5) ht hA, hT⟩⟩
/-- numbers of old things -/
noncomputable def st_ad (b : Nat) (r : Nat → Nat) (t : Nat → Nat × Nat) (k : Nat) : Nat := if k < 1000000100 then r (k - 1000000000) else if k < 1000000200 then (t (k - 1000000100)).1 else if k < 1000000300 then (t (k - 1000000200)).2 else b
theorem st_ad_r {b : Nat} {r : Nat → Nat} {t : Nat → Nat × Nat} {j : Nat} (hj : j < 100) : st_ad b r t (1000000000 + j) = r j := by
  unfold st_ad
  rw [if_pos (by omega), show 1000000000 + j - 1000000000 = j from by omega]
theorem st_ad_t {b : Nat} {r : Nat → Nat} {t : Nat → Nat × Nat} {j : Nat} (hj : j < 100) : st_ad b r t (1000000100 + j) = (t j).1 := by
  unfold st_ad
  rw [if_neg (by omega), if_pos (by omega), show 1000000100 + j - 1000000100 = j from by omega]
theorem st_ad_v {b : Nat} {r : Nat → Nat} {t : Nat → Nat × Nat} {j : Nat} (hj : j < 100) : st_ad b r t (1000000200 + j) = (t j).2 := by
  unfold st_ad
  rw [if_neg (by omega), if_neg (by omega), if_pos (by omega), show 1000000200 + j - 1000000200 = j from by omega]
theorem st_ad_b {b : Nat} {r : Nat → Nat} {t : Nat → Nat × Nat} : st_ad b r t 1000000300 = b := by
  unfold st_ad
  rw [if_neg (by omega), if_neg (by omega), if_neg (by omega)]
theorem st_Od (b : Nat) (hts : ∀ w ∈ lw_tbl, w.before args s = true) (hfl : ∀ w ∈ st_fl, w.before args s = true) (hA : ∀ a : Nat, a < s.heap.size → ¬ A a) : ∃ ad : Nat → Nat, am_Od A ad s s.heap ∧ ad 1000000300 = b := by
  obtain ⟨t, ht⟩ := Classical.axiomOfChoice (st_txt (A := A) hts hfl hA)
  obtain ⟨r, hr⟩ := Classical.axiomOfChoice (st_row (A := A) hts hfl hA)
  obtain ⟨o1, o2, o3, o4⟩ := st_ot
  obtain ⟨w1, w2, w3, w4, w5, w6, w7, w8, w9, -, -, -⟩ := st_ow
  refine ⟨st_ad b r t, ⟨va_AO.of (hts _ w8), va_AO.of (hts _ w9), fun j q hj => ?_, fun j q hj => ?_, va_Zof (hts _ w1) (hts _ w2) (va_eqi (hfl _ (st_ol_in o1))) hA, va_Zqof (hts _ w3) (hts _ w4) (hfl _ (st_ol_in o2)) hA, vx_Zqof (hts _ w5) (hts _ w7) (hfl _ (st_ol_in o3)) hA, vx_Zqof (hts _ w6) (hts _ w7) (hfl _ (st_ol_in o4)) hA⟩, st_ad_b⟩
  · have hl : j < am_sa.length := (List.getElem?_eq_some_iff.mp hj).1
    have : am_sa.length < 100 := by decide
    rw [st_ad_r (by omega)]
    exact hr j q hj
  · have hl : j < am_st.length := (List.getElem?_eq_some_iff.mp hj).1
    have : am_st.length < 100 := by decide
    rw [st_ad_t (by omega), st_ad_v (by omega)]
    exact ht j q hj
theorem st_Nc (hfl : ∀ w ∈ st_fl, w.before args s = true) : am_Nc s := by
  intro a ha b hb hab
  have h1 := List.all_eq_true.mp (List.all_eq_true.mp st_nc_all a ha) b hb
  unfold st_nc at h1
  rcases Bool.or_eq_true_iff.mp h1 with h | h
  · exact absurd (of_decide_eq_true h) hab
  · exact va_Nc.of (hfl _ (List.mem_of_mem_drop (List.mem_of_mem_take (of_decide_eq_true h))))
end ST
