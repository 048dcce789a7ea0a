/-! A METHOD THAT THROWS: a road to the place, the exception made there -/
def am_xk : List (Nat × Nat × String) := [(79, 83, "java/lang/IllegalArgumentException"), (90, 94, "java/lang/UnsupportedOperationException"), (108, 112, "java/lang/IndexOutOfBoundsException"), (133, 137, "java/lang/IllegalStateException")]
def am_xn : List String := ["java/lang/RuntimeException", "java/lang/Exception"]
def am_xok (e : Nat × Nat × String) : Bool := Bundle.fit e.2.2 && decide (Cond.classLink "ArchiveShelf" e.1 e.2.2 ∈ lw_tbl) && decide (Cond.initialized e.2.2 ∈ lw_tbl) && (vx_atS "ArchiveShelf" e.2.1 e.2.2 am_xn).all (fun w => decide (w ∈ lw_tbl) && (goodWord w || am_isN w) && vx_ot w)
def ctb_xok (e : Nat × Nat × String) : Bool := Bundle.fit e.2.2 && ctb_mem (Cond.classLink "ArchiveShelf" e.1 e.2.2) && ctb_mem (Cond.initialized e.2.2) && (vx_atS "ArchiveShelf" e.2.1 e.2.2 am_xn).all (fun w => ctb_mem w && (goodWord w || am_isN w) && vx_ot w)
theorem ctb_xok_e : am_xok = ctb_xok := funext fun e => by
  unfold am_xok ctb_xok
  simp only [ctb_mem_eq]
theorem am_xk_all : am_xk.all am_xok = true := by
  rw [ctb_xok_e]
  decide +kernel
theorem am_xn_all : ∀ n ∈ am_xn, Bundle.fit n = true := by decide +kernel
/-- the class of what is thrown at this place -/
def am_thr (M : am_M) (pc : Nat) : Option String := match M.1.2.2.2.2.2 pc, M.1.2.2.2.2.2 (pc + 3), M.1.2.2.2.2.2 (pc + 4), M.1.2.2.2.2.2 (pc + 6), M.1.2.2.2.2.2 (pc + 9) with
  | some (.new ik, 3), some (.dup, 1), some (.ldc is, 2), some (.invokespecial ic, 3), some (.athrow, 1) => match am_fnd am_xk ik, am_fnd (am_stt 11) is with
    | some u, some _ => bif Nat.beq M.1.1 11 && Nat.beq u.1 ic then some u.2 else none
    | _, _ => none
  | _, _, _, _, _ => none
theorem am_thr_spec {M : am_M} {pc : Nat} {cls : String} (h : am_thr M pc = some cls) : ∃ ik ic is j, M.1.1 = 11 ∧ M.1.2.2.2.2.2 pc = some (.new ik, 3) ∧ M.1.2.2.2.2.2 (pc + 3) = some (.dup, 1) ∧ M.1.2.2.2.2.2 (pc + 4) = some (.ldc is, 2) ∧ M.1.2.2.2.2.2 (pc + 6) = some (.invokespecial ic, 3) ∧ M.1.2.2.2.2.2 (pc + 9) = some (.athrow, 1) ∧ (ik, ic, cls) ∈ am_xk ∧ (is, j) ∈ am_stt 11 := by
  unfold am_thr at h
  split at h
  · rename_i ik is ic h1 h2 h3 h4 h5
    split at h
    · rename_i u j hu hj
      obtain ⟨hb, h⟩ := am_cf h
      obtain ⟨b1, b2⟩ := am_b2 hb
      have b1 := Nat.eq_of_beq_eq_true b1
      have b2 := Nat.eq_of_beq_eq_true b2
      have hm := am_fnd_mem hu
      obtain ⟨u1, u2⟩ := u
      subst h
      subst b2
      exact ⟨ik, u1, is, j, b1, h1, h2, h3, h4, h5, hm, am_fnd_mem hj⟩
    · cases h
  · cases h
/-- what a throwing call leaves -/
def am_XC (D : va_G) (cy : Nat → ClassId) (A : Nat → Prop) (ad : Nat → Nat) (n : Nat) (cls : String) (h' : am_H) : String → State → State → Prop := fun E st t => E = cls ∧ ∃ ad' : Nat → Nat, (∀ k, k < n ∨ 1000000000 ≤ k → ad' k = ad k) ∧ va_P D am_cl (am_wl cy ad' h') t.heap ∧ va_D A (am_wl cy ad' h') ∧ va_F A st t ∧ am_cls h'
section AMTH
variable {p : Program} {l : Launch} {e : Env} {R : Room} {s : State} {m : MethodId} {args : Array Value} {below : List Frame} {meth : Method} {c : Code} {H : Heap} {locs : List Loc} {cells slots : Nat}
variable {ls : Array Slot} {ad ad0 : Nat → Nat} {D : va_G} {cy : Nat → ClassId} {A : Nat → Prop} {mi pc n0 mc ms : Nat} {M : am_M} {lo : List (Nat × Value)} {st : List Value} {h : am_H} {cls : String} {Qc : Array Value → State → Outcome → State → Prop}
theorem am_thr_ok (hM : am_tab[mi]? = some M) (ht : am_thr M pc = some cls) (hl : l.stackTraces = false) (O : am_On M p s m args meth c R) (B : am_Be M s D cy A ad h H locs lo st ls) (hout : ∀ x ∈ c.exceptionTable.toList, False) (hlk : meth.locks = false) (had : ∀ k, k < n0 ∨ 1000000000 ≤ k → ad k = ad0 k)
    (hfr : 5 < R.frames) (hlo : (st.map fun v => v.category).sum + 82 ≤ R.locals) (hRc : cells + 1 ≤ R.cells) (hRs : slots + 6 ≤ R.slots) (hc : cells + 1 ≤ mc) (hs : slots + 6 ≤ ms) :
    W p l e R s m args below meth c H locs cells slots (vx_MQ below Qc (am_XC D cy A ad0 n0 cls h) args s mc ms A) (F0 m pc ls (st.map (am_v ad))) := by
  obtain ⟨ik, ic, is, j, hown, d0, d3, d4, d6, d9, hk, hj⟩ := am_thr_spec ht
  obtain ⟨X, hml, -, -, -⟩ := O
  obtain ⟨r, hod, hL, -⟩ := B
  have hcode := am_tab_ok M (List.mem_of_getElem? hM)
  have hx := List.all_eq_true.mp am_xk_all _ hk
  unfold am_xok at hx
  obtain ⟨hx, x4⟩ := am_b2 hx
  obtain ⟨hx, x3⟩ := am_b2 hx
  obtain ⟨x1, x2⟩ := am_b2 hx
  have x2 := of_decide_eq_true x2
  have x3 := of_decide_eq_true x3
  have hw : ∀ w ∈ vx_atS "ArchiveShelf" ic cls am_xn, w.before args s = true ∧ vx_ot w = true := by
    intro w hw
    have h1 := List.all_eq_true.mp x4 w hw
    obtain ⟨h1, h3⟩ := am_b2 h1
    obtain ⟨h1, h2⟩ := am_b2 h1
    have h1 := of_decide_eq_true h1
    refine ⟨?_, h3⟩
    rcases Bool.or_eq_true_iff.mp h2 with h2 | h2
    · exact X.2.2.2.1 _ (am_gd_in h1 h2)
    · exact X.2.2.2.2 _ (List.mem_filter.mpr ⟨h1, h2⟩)
  have hst := am_all am_stt_all (by decide : 11 < 17) hj
  unfold am_sttok at hst
  split at hst
  · rename_i q hq
    obtain ⟨s1, s2⟩ := am_b2 hst
    have s1 : q.1 = "ArchiveShelf" := of_decide_eq_true s1
    have s2 : q.2.1 = is := Nat.eq_of_beq_eq_true s2
    obtain ⟨k1, -⟩ := hod.2.2.2.1 j q hq
    rw [s1, s2] at k1
    have hcn : am_cn M.1.1 = "ArchiveShelf" := by rw [hown]; rfl
    have ho := X.2.2.1
    rw [hcn] at ho
    obtain ⟨hK, hP, hD, hS, hA, hcl⟩ := r
    have e1 := am_cat_eq (ad := ad) (r := st)
    refine vx_throwS (names := am_xn) (A := A) (free := A) X.1 X.2.1 hl ho x1 am_xn_all (X.2.2.2.1 _ (am_gd_in x2 rfl)) (X.2.2.2.1 _ (am_gd_in x3 rfl)) k1 (fun w h1 => (hw w h1).1) ?_ hod.2.2.2.2.2.2.1 hod.2.2.2.2.2.2.2 hS (hL.1.trans hml.symm) (hcode _ _ d0).1 (hcode _ _ d3).1 (hcode _ _ d4).1 (hcode _ _ d6).1 (hcode _ _ d9).1 (fun x hx => (hout x hx).elim) hfr ?_ hRc hRs hlk ?_ hS.2.2 hc hs
    · intro w hw1
      rcases List.mem_cons.mp hw1 with rfl | hw1
      · rfl
      · rcases List.mem_cons.mp hw1 with rfl | hw1
        · rfl
        · exact (hw w hw1).2
    · rw [e1]
      exact hlo
    · intro t _ hz hq2
      refine ⟨rfl, ad, had, ?_, hD, ⟨Nat.le_trans hS.1 hz, fun q h1 h2 => ?_⟩, hcl⟩
      · exact hP.kept (fun k q hk => hq2 q.1 (vx_lt hP hk))
      · rw [hq2 q (Nat.lt_of_lt_of_le h1 hS.1)]
        exact hS.2.1 q h1 h2
  · cases hst
end AMTH
/-- what a method that throws owes -/
theorem am_metT {l : Launch} {mi n k pc' : Nat} {M : am_M} {av : List Value} {h h1 : am_H} {lo' : List (Nat × Value)} {st' : List Value} {cls : String} {D : va_G} {cy : Nat → ClassId} {A : Nat → Prop} {ad : Nat → Nat} {mc ms : Nat} {Qc : Array Value → State → Outcome → State → Prop} (hl : l.stackTraces = false) (hM : am_tab[mi]? = some M) (hmo : am_mok M) (hgo : am_go n mi k 0 (lv_args 0 av) [] h = some (pc', lo', st', h1)) (ht : am_thr M pc' = some cls) (hc : ∀ w ∈ av, am_cv h.1 w) (hla : (lg_sl av).length ≤ M.1.2.1) (hfr : 5 < M.1.2.2.2.1) (hlo : (st'.map fun v => v.category).sum + 82 ≤ M.1.2.2.2.2.1) (hmc : h1.2.1 - h.2.1 + 1 = mc) (hms : h1.2.2.1 - h.2.2.1 + 6 = ms) :
    vx_Met l M.2.2.2.1 (am_ws M) { frames := M.1.2.2.2.1, cells := mc, slots := ms, locals := M.1.2.2.2.2.1 } (am_Pc D cy A ad h av) Qc (am_XC D cy A ad h.1 cls h1) mc ms A := by
  obtain ⟨-, hin, hcn⟩ := am_tab_f hM
  obtain ⟨-, -, m3, -⟩ := am_mok_spec hmo
  refine vx_ofW (cc := M.2.1) (maxL := M.1.2.1) (ret := M.2.2.1) m3 rfl ?_
  intro p e s m args below meth c s₁ B hml hout hv
  obtain ⟨rfl, hK, hP, hD, hA, hcl, hnw, hod⟩ := hv
  have hts := atoms_spec (ws := am_ws M) B.pre
  have hown : s.vm.findClass M.2.2.2.1.cls = some m.cls := findClass_of_methodNamed B.named
  have hnm : meth.name = M.2.2.2.1.name := (name_of_methodNamed B.named B.method).1
  have hle := lv_entry (av.map (am_v ad)) (n := M.1.2.1) (by rw [am_sl_len]; exact hla)
  rw [lg_entry_eq]
  generalize (lg_sl (av.map (am_v ad)) ++ List.replicate (M.1.2.1 - (lg_sl (av.map (am_v ad))).length) Slot.unset).toArray = ls at hle ⊢
  rw [am_args_lo] at hle
  have hX : am_X M.2.1 (am_cn M.1.1) p s m (av.map (am_v ad)).toArray c := ⟨B.exec, B.bytes, by rw [← hcn]; exact hown, fun w hw => hts w (List.mem_cons_of_mem _ hw), fun w hw => va_Nw.use (am_nw_ot hw) (hnw w hw)⟩
  have O : am_On M p s m (av.map (am_v ad)).toArray meth c { frames := M.1.2.2.2.1, cells := mc, slots := ms, locals := M.1.2.2.2.2.1 } := ⟨hX, hml, fun q => by rw [hnm]; exact hin q, Nat.le_refl _, Nat.le_refl _⟩
  have Be : am_Be M s D cy A ad h s.heap [] (lv_args 0 av) [] ls := ⟨⟨hK, hP, hD, va_S.rf, hA, hcl⟩, hod, hle, ⟨am_args_cl hc, fun v hv => by cases hv⟩⟩
  refine am_go_ok hM O hgo Be (by show 0 + (h1.2.1 - h.2.1) ≤ mc; omega) (by show 0 + (h1.2.2.1 - h.2.2.1) ≤ ms; omega) (fun ad' H' locs' ls' hext B' => ?_)
  exact am_thr_ok hM ht hl O B' hout B.notSynchronized hext hfr hlo (by show 0 + (h1.2.1 - h.2.1) + 1 ≤ mc; omega) (by show 0 + (h1.2.2.1 - h.2.2.1) + 6 ≤ ms; omega) (by show 0 + (h1.2.1 - h.2.1) + 1 ≤ mc; omega) (by show 0 + (h1.2.2.1 - h.2.2.1) + 6 ≤ ms; omega)
