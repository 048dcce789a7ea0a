/-! THE LAW'S HELPERS: methods with a table of handlers around one call -/
def am_lx : List (Nat × String) := [(13, "java/lang/IllegalArgumentException"), (15, "java/lang/UnsupportedOperationException"), (25, "java/lang/IndexOutOfBoundsException"), (31, "java/lang/IllegalStateException")]
def am_xs : List String := ["java/lang/IllegalArgumentException", "java/lang/UnsupportedOperationException", "java/lang/IndexOutOfBoundsException", "java/lang/IllegalStateException"]
theorem am_lx_all : am_lx.all (fun e => !(Nat.beq e.1 0) && decide (Cond.classLink "ArchiveShelfLaw" e.1 e.2 ∈ lw_tbl) && decide (Cond.castable e.2 e.2 ∈ lw_tbl) && am_xs.contains e.2) = true := by decide +kernel
/-- no one of the four is another -/
def am_Nc (U : State) : Prop := ∀ a ∈ am_xs, ∀ b ∈ am_xs, a ≠ b → va_Nc a b U
theorem am_Nc.moved {u U : State} (hvm : u.vm.Alike U.vm) (h : am_Nc u) : am_Nc U := fun a ha b hb hab => va_Nc.moved hvm (h a ha b hb hab)
/-- where it is caught -/
def am_hnd (pc : Nat) (cls : String) : List (Nat × Nat × Nat × Nat) → Option Nat
  | [] => none
  | q :: r => bif covers ⟨q.1, q.2.1, q.2.2.1, q.2.2.2⟩ pc then (match am_fnd am_lx q.2.2.2 with
    | some nm => bif decide (nm = cls) then some q.2.2.1 else am_hnd pc cls r
    | none => none) else am_hnd pc cls r
theorem am_hnd_spec {pc : Nat} {cls : String} : ∀ {hh : List (Nat × Nat × Nat × Nat)} {hp : Nat}, am_hnd pc cls hh = some hp → ∃ (pre : List ExceptionTableEntry) (x : ExceptionTableEntry) (suf : List ExceptionTableEntry), tableOf hh = pre ++ x :: suf ∧ (∀ z ∈ pre, covers z pc = false ∨ ∃ nm : String, (z.catchType, nm) ∈ am_lx ∧ nm ≠ cls) ∧ covers x pc = true ∧ (x.catchType, cls) ∈ am_lx ∧ x.handlerPc = hp := by
  intro hh
  induction hh with
  | nil => intro hp h; cases h
  | cons q r ih =>
    intro hp h
    unfold am_hnd at h
    cases hcv : covers ⟨q.1, q.2.1, q.2.2.1, q.2.2.2⟩ pc with
    | true =>
      rw [hcv] at h
      dsimp only [cond_true] at h
      split at h
      · rename_i nm hnm
        cases hd : decide (nm = cls) with
        | true =>
          rw [hd] at h
          cases h
          have hd := of_decide_eq_true hd
          subst hd
          exact ⟨[], ⟨q.1, q.2.1, q.2.2.1, q.2.2.2⟩, tableOf r, rfl, (fun z hz => nomatch hz), hcv, am_fnd_mem hnm, rfl⟩
        | false =>
          rw [hd] at h
          obtain ⟨pre, x, suf, h1, h2, h3⟩ := ih h
          refine ⟨⟨q.1, q.2.1, q.2.2.1, q.2.2.2⟩ :: pre, x, suf, congrArg (List.cons _) h1, fun z hz => ?_, h3⟩
          rcases List.mem_cons.mp hz with rfl | hz
          · exact Or.inr ⟨nm, am_fnd_mem hnm, of_decide_eq_false hd⟩
          · exact h2 z hz
      · cases h
    | false =>
      rw [hcv] at h
      obtain ⟨pre, x, suf, h1, h2, h3⟩ := ih h
      refine ⟨⟨q.1, q.2.1, q.2.2.1, q.2.2.2⟩ :: pre, x, suf, congrArg (List.cons _) h1, fun z hz => ?_, h3⟩
      rcases List.mem_cons.mp hz with rfl | hz
      · exact Or.inl hcv
      · exact h2 z hz
abbrev am_wsH (M : am_M) (hh : List (Nat × Nat × Nat × Nat)) : List Cond := Cond.codeWith M.2.2.2.1 M.2.1 M.1.2.1 M.2.2.1 hh :: am_gd
def am_PcN (D : va_G) (cy : Nat → ClassId) (A : Nat → Prop) (ad : Nat → Nat) (h : am_H) (av : List Value) : Array Value → State → Prop := fun v U => am_Pc D cy A ad h av v U ∧ am_Nc U
theorem am_blindN {D : va_G} {cy : Nat → ClassId} {A : Nat → Prop} {ad : Nat → Nat} {h : am_H} {av : List Value} : FrameBlind (am_PcN D cy A ad h av) := fun a U g mk q => ⟨am_blind a U g mk q.1, am_Nc.moved (u := U) (U := U.calling g mk a) (State.WarmedH.refl U).alike q.2⟩
theorem am_ofWH {l : Launch} {y : MethodName} {ws ws' : List Cond} {rm : Room} {Pc : Array Value → State → Prop} {Qc : Array Value → State → Outcome → State → Prop} {mc ms : Nat} {free : Addr → Prop} {cc : ByteArray} {maxL : Nat} {ret : Option FieldType} {hh : List (Nat × Nat × Nat × Nat)}
    (hy : plainName y.cls = true) (hw : ws = Cond.codeWith y cc maxL ret hh :: ws')
    (body : ∀ p e s m args below meth c s₁, BodyLoose p l y (headSpec ws rm) cc maxL ret e s m args below meth c s₁ → c.maxLocals = maxL → Pc args s →
      W p l e (headSpec ws rm).room s m args below meth c s.heap [] 0 0 (MQ below Qc args s mc ms free) (entryFrame m args maxL)) : Met l y ws rm Pc Qc mc ms free := by
  refine MetFree.of_bodyS (code := cc) (maxLocals := maxL) (ret := ret) hy ?_ ?_
  · intro args s m h hn
    obtain ⟨m9, meth, c, hn9, h1, h2, h3, h4, -, h5, h6, -⟩ := Cond.codeWith_spec (atoms_spec (ws := ws) h _ (by rw [hw]; exact List.mem_cons_self))
    cases hn.symm.trans hn9
    exact ⟨meth, c, h1, h2, h3, h4, h5, h6⟩
  · intro p e s m args below meth c s₁ B hml hP _
    have hh0 : s₁.heap = s.heap := by rw [B.state]; rfl
    obtain ⟨t, a1, o, b1, b2, b3⟩ := body p e s m args below meth c s₁ B hml hP s₁ hh0 (Stand.of_body B)
    exact ⟨t, o, a1, b1, b2, ⟨b3.1, b3.2⟩⟩
/-- a helper whose call returns -/
theorem am_metH {l : Launch} {mi : Nat} {M : am_M} {hh : List (Nat × Nat × Nat × Nat)} {av : List Value} {h h1 : am_H} {v : Option Value} {D : va_G} {cy : Nat → ClassId} {A : Nat → Prop} {ad : Nat → Nat} {mc ms : Nat} (hM : am_tab[mi]? = some M) (hpl : plainName M.2.2.2.1.cls = true) (hs : am_T mi av h v h1) (hc : ∀ w ∈ av, am_cv h.1 w) (hla : (lg_sl av).length ≤ M.1.2.1) (hmc : h1.2.1 - h.2.1 = mc) (hms : h1.2.2.1 - h.2.2.1 = ms) :
    Met l M.2.2.2.1 (am_wsH M hh) { frames := M.1.2.2.2.1, cells := mc, slots := ms, locals := M.1.2.2.2.2.1 } (am_PcN D cy A ad h av) (am_Qc D cy A ad h.1 v h1) mc ms A := by
  obtain ⟨-, hin, hcn⟩ := am_tab_f hM
  have hs : am_Sim l M 0 (lv_args 0 av) [] h v h1 := am_P.sim hM hs
  refine am_ofWH (cc := M.2.1) (maxL := M.1.2.1) (ret := M.2.2.1) (hh := hh) hpl rfl ?_
  intro p e s m args below meth c s₁ B hml hv
  obtain ⟨⟨rfl, hK, hP, hD, hA, hcl, hnw, hod⟩, -⟩ := hv
  have hts := atoms_spec (ws := am_wsH M hh) B.pre
  have hown : s.vm.findClass M.2.2.2.1.cls = some m.cls := findClass_of_methodNamed B.named
  have hnm : meth.name = M.2.2.2.1.name := (name_of_methodNamed B.named B.method).1
  have hle := lv_entry (av.map (am_v ad)) (n := M.1.2.1) (by rw [am_sl_len]; exact hla)
  rw [lg_entry_eq]
  generalize (lg_sl (av.map (am_v ad)) ++ List.replicate (M.1.2.1 - (lg_sl (av.map (am_v ad))).length) Slot.unset).toArray = ls at hle ⊢
  rw [am_args_lo] at hle
  have hX : am_X M.2.1 (am_cn M.1.1) p s m (av.map (am_v ad)).toArray c := ⟨B.exec, B.bytes, by rw [← hcn]; exact hown, fun w hw => hts w (List.mem_cons_of_mem _ hw), fun w hw => va_Nw.use (am_nw_ot hw) (hnw w hw)⟩
  exact hs p e s m _ below meth c _ s.heap [] 0 0 mc ms D cy A ad ad h.1 ls hX hml B.returns B.notSynchronized (fun q => by rw [hnm]; exact hin q) (Nat.le_refl _) (Nat.le_refl _) ⟨hK, hP, hD, va_S.rf, hA, hcl⟩ hod hle ⟨am_args_cl hc, fun v hv => by cases hv⟩ (Nat.le_refl _) (fun _ _ => rfl) (by rw [Nat.zero_add]; exact hmc) (by rw [Nat.zero_add]; exact hms) (Nat.le_refl _) (Nat.le_refl _)
/-- a call that throws: the two ends of it -/
theorem am_afterX {p : Program} {l : Launch} {e : Env} {R : Room} {s : State} {m : MethodId} {args : Array Value} {below : List Frame} {meth : Method} {c : Code} {H : Heap} {locs : List Loc} {cells slots mc ms pc : Nat} {ls : Array Slot} {st0 rest : List Value} {XC : String → State → State → Prop} {A : Nat → Prop} {Q : State → Prop} (hr : vx_Run p l e R s m args below meth c H locs cells slots mc ms (F0 m pc ls st0) rest (fun _ _ _ => False) XC A)
    (kk : ∀ (q : Addr) (st₀ t : State) (L : List Loc) (E : String) (ce : Cell), st₀.heap = H → (∀ z ∈ L, A z.base) → XC E st₀ t → t.heap[q]? = some ce → ce.vm = .none → s.vm.findClass E = some ce.cls → vx_W p l e R s m args below meth c t.heap (locs ++ L) (cells + mc) (slots + ms) Q (F0 m pc ls rest) q) : W p l e R s m args below meth c H locs cells slots Q (F0 m pc ls st0) := by
  intro T hT X
  rcases hr T hT X with ⟨v, st₀, t, T', L, -, -, -, -, -, hf, -⟩ | ⟨q, st₀, t, T', L, E, ce, h0, X', hL, e1, e2, hx, hce, hcv, hcl, hst⟩
  · exact hf.elim
  · obtain ⟨t2, a1, b1⟩ := kk q st₀ t L E ce h0 hL hx hce hcv hcl T' e1 X'
    exact ⟨t2, hst.trans a1, b1⟩
/-- a helper whose call throws -/
theorem am_metHT {l : Launch} {mi n k pcC idx o ci mi1 n1 k1 pc1 hp p2 p3 len1 len2 : Nat} {M M1 : am_M} {hh : List (Nat × Nat × Nat × Nat)} {av As rest : List Value} {lo' lo1 lo2 lo3 : List (Nat × Value)} {st' st1 : List Value} {h h1 : am_H} {cls : String} {i1 i2 : Instr} {kv : Int32} {D : va_G} {cy : Nat → ClassId} {A : Nat → Prop} {ad : Nat → Nat} {mc ms : Nat} (hl : l.stackTraces = false) (hM : am_tab[mi]? = some M) (hpl : plainName M.2.2.2.1.cls = true) (hown : M.1.1 = 13)
    (hgo : am_go n mi k 0 (lv_args 0 av) [] h = some (pcC, lo', st', h)) (hc : ∀ w ∈ av, am_cv h.1 w) (hla : (lg_sl av).length ≤ M.1.2.1)
    (hcC : M.1.2.2.2.2.2 pcC = some (.invokevirtual idx, 3)) (hst : st' = As.reverse ++ .ref o :: rest) (ho : o < h.1) (hci : (h.2.2.2 o).1 = ci) (hfv : am_fv (am_vt 13) idx ci = some (mi1, 0)) (hM1 : am_tab[mi1]? = some M1) (hn : As.length = M1.2.2.2.2)
    (hgo1 : am_go n1 mi1 k1 0 (lv_args 0 (.ref o :: As)) [] h = some (pc1, lo1, st1, h1)) (ht : am_thr M1 pc1 = some cls) (hla1 : (lg_sl (.ref o :: As)).length ≤ M1.1.2.1) (hfr1 : 5 < M1.1.2.2.2.1) (hlo1 : (st1.map fun v => v.category).sum + 82 ≤ M1.1.2.2.2.2.1)
    (hroom : M1.1.2.2.2.1 + 1 ≤ M.1.2.2.2.1 ∧ 8 + (M1.1.2.1 + 11) + M1.1.2.2.2.2.1 ≤ M.1.2.2.2.2.1) (hw : (rest.map fun v => v.category).sum ≤ 8) (hhd : am_hnd pcC cls hh = some hp)
    (c1 : M.1.2.2.2.2.2 hp = some (i1, len1)) (s1 : am_s0 M.1.2.1 i1 hp [] [.ref 0] = some (p2, lo2, [])) (c2 : M.1.2.2.2.2.2 p2 = some (i2, len2)) (s2 : am_s0 M.1.2.1 i2 p2 lo2 [] = some (p3, lo3, [.int kv])) (c3 : M.1.2.2.2.2.2 p3 = some (.ireturn, 1)) (hret : M.2.2.1 = some .int) (hmc : h1.2.1 - h.2.1 + 1 = mc) (hms : h1.2.2.1 - h.2.2.1 + 6 = ms) :
    Met l M.2.2.2.1 (am_wsH M hh) { frames := M.1.2.2.2.1, cells := mc, slots := ms, locals := M.1.2.2.2.2.1 } (am_PcN D cy A ad h av) (am_Qc D cy A ad h.1 (some (.int kv)) h1) mc ms A := by
  obtain ⟨-, hin, hcn⟩ := am_tab_f hM
  have hcode := am_tab_ok M (List.mem_of_getElem? hM)
  refine am_ofWH (cc := M.2.1) (maxL := M.1.2.1) (ret := M.2.2.1) (hh := hh) hpl rfl ?_
  intro p e s m args below meth c s₁ B hml hv
  obtain ⟨⟨rfl, hK, hP, hD, hA, hcl, hnw, hod⟩, hnc⟩ := hv
  have hts := atoms_spec (ws := am_wsH M hh) B.pre
  have htab : c.exceptionTable.toList = tableOf hh := vx_table (x := M.2.2.2.1) B (hts _ List.mem_cons_self)
  have hown1 : s.vm.findClass M.2.2.2.1.cls = some m.cls := findClass_of_methodNamed B.named
  have hnm : meth.name = M.2.2.2.1.name := (name_of_methodNamed B.named B.method).1
  have hle := lv_entry (av.map (am_v ad)) (n := M.1.2.1) (by rw [am_sl_len]; exact hla)
  rw [lg_entry_eq]
  generalize (lg_sl (av.map (am_v ad)) ++ List.replicate (M.1.2.1 - (lg_sl (av.map (am_v ad))).length) Slot.unset).toArray = ls at hle ⊢
  rw [am_args_lo] at hle
  have hX : am_X M.2.1 (am_cn M.1.1) p s m (av.map (am_v ad)).toArray c := ⟨B.exec, B.bytes, by rw [← hcn]; exact hown1, fun w hw => hts w (List.mem_cons_of_mem _ hw), fun w hw => va_Nw.use (am_nw_ot hw) (hnw w hw)⟩
  have O : am_On M p s m (av.map (am_v ad)).toArray meth c { frames := M.1.2.2.2.1, cells := mc, slots := ms, locals := M.1.2.2.2.2.1 } := ⟨hX, hml, fun q => by rw [hnm]; exact hin q, Nat.le_refl _, Nat.le_refl _⟩
  have Be : am_Be M s D cy A ad h s.heap [] (lv_args 0 av) [] ls := ⟨⟨hK, hP, hD, va_S.rf, hA, hcl⟩, hod, hle, ⟨am_args_cl hc, fun v hv => by cases hv⟩⟩
  refine am_go_ok hM O hgo Be (by show 0 + (h.2.1 - h.2.1) ≤ mc; omega) (by show 0 + (h.2.2.1 - h.2.2.1) ≤ ms; omega) (fun ad' H' locs' ls' hext B' => ?_)
  dsimp only at B' ⊢
  rw [Nat.sub_self, Nat.sub_self, Nat.add_zero]
  subst hst
  obtain ⟨r', hod', hL', hfc'⟩ := B'
  -- the call
  have hok := am_vx_all 13 (by decide) _ (am_fv_mem hfv)
  obtain ⟨M2, hM2, hlt, hmo, hinst, q1, q2, q3⟩ := hok
  cases Option.some.inj (hM2.symm.trans hM1)
  obtain ⟨m1, m2, m3, m4⟩ := am_mok_spec hmo
  obtain ⟨q, hq⟩ : ∃ q, am_cl[ci]? = some q := ⟨_, List.getElem?_eq_getElem (show ci < am_cl.length from hlt)⟩
  have hkn : am_kn ci = q.1 := by unfold am_kn; rw [hq]
  have hl2 : ci < 20 := Nat.lt_trans hlt (by decide)
  have hrecv : ∃ cellB : Cell, H'[ad' o]? = some cellB ∧ cellB.vm.isStatics = false ∧ s.vm.findClass (am_kn ci) = some cellB.cls := by
    rw [hkn]
    exact va_recv r'.1 r'.2.1 hq (q0 := o) (by rw [am_wl_at ho, am_E_ob hci hl2])
  have hG : GoodIn am_gd (wsV (am_cn M.1.1) idx (am_kn ci) M1.2.2.2.1 (am_ws M1)) := by
    refine am_goodL ?_ (am_goodC m1)
    intro w hw
    simp only [List.mem_cons, List.not_mem_nil, or_false] at hw
    rcases hw with rfl | rfl | rfl | rfl
    · rw [hown]; exact am_gd_in q1 rfl
    · exact am_gd_in hinst rfl
    · exact am_gd_in q3 rfl
    · rw [← q2]; exact m2
  have hcl1 : ∀ w ∈ (Value.ref o :: As), am_cv h.1 w := by
    intro w hw
    refine hfc'.2 w ?_
    rcases List.mem_cons.mp hw with rfl | hw
    · exact List.mem_append_right _ List.mem_cons_self
    · exact List.mem_append_left _ (List.mem_reverse.mpr hw)
  have hmet := am_metT (l := l) (D := D) (cy := cy) (A := A) (ad := ad') (Qc := fun _ _ _ _ => False) hl hM1 hmo hgo1 ht hcl1 hla1 hfr1 hlo1 hmc hms
  have hstk : (As.reverse ++ .ref o :: rest).map (am_v ad') = (As.map (am_v ad')).reverse ++ Value.ref (ad' o) :: rest.map (am_v ad') := by
    rw [List.map_append, List.map_reverse]; rfl
  rw [hstk]
  have hn' : (As.map (am_v ad')).length = M1.2.2.2.2 := by rw [List.length_map]; exact hn
  have hrun := vx_runV (g := F0 m pcC ls' ((As.map (am_v ad')).reverse ++ Value.ref (ad' o) :: rest.map (am_v ad'))) (R := { frames := M.1.2.2.2.1, cells := mc, slots := ms, locals := M.1.2.2.2.2.1 }) (p := p) (e := e) (below := below) (meth := meth) (locs := locs') (cells := 0) (slots := 0) ⟨hX.1, hX.2.1, hml, hX.2.2.1, hX.2.2.2.1⟩ hmet (cwV M1.2.2.2.2 hX.2.2.2.1 hG rfl rfl rfl ⟨q2, m4⟩ hroom) ⟨am_blind, hrecv, am_pre hX r' hod' (.ref o :: As)⟩ rfl hn' hL'.1 rfl (lv_room (am_wt hw)) (hcode _ _ hcC).1 ⟨by show 0 + mc ≤ mc; omega, by show 0 + ms ≤ ms; omega⟩
  refine am_afterX hrun (fun q st₀ t L E ce h0 hLf hxc hce hcv hcE => ?_)
  obtain ⟨rfl, ad2, hext2, hP2, hD2, hF2, hcl2⟩ := hxc
  obtain ⟨pre, x, suf, t1, t2, t3, t4, t5⟩ := am_hnd_spec hhd
  have hlx : ∀ {a : Nat} {b : String}, (a, b) ∈ am_lx → a ≠ 0 ∧ (Cond.classLink "ArchiveShelfLaw" a b).before (av.map (am_v ad)).toArray s = true ∧ (Cond.castable b b).before (av.map (am_v ad)).toArray s = true ∧ b ∈ am_xs := by
    intro a b hab
    have hz := List.all_eq_true.mp am_lx_all _ hab
    obtain ⟨hz, z4⟩ := am_b2 hz
    obtain ⟨hz, z3⟩ := am_b2 hz
    obtain ⟨z1, z2⟩ := am_b2 hz
    refine ⟨fun h0 => ?_, hX.2.2.2.1 _ (am_gd_in (of_decide_eq_true z2) rfl), hX.2.2.2.2 _ (List.mem_filter.mpr ⟨of_decide_eq_true z3, rfl⟩), List.contains_iff_mem.mp z4⟩
    dsimp only at z1
    rw [h0] at z1
    cases z1
  have ho13 := hX.2.2.1
  rw [hown] at ho13
  obtain ⟨x1, x2, x3, x4⟩ := hlx t4
  refine vx_catch (own := "ArchiveShelfLaw") (name := E) ho13 pre x suf (htab.trans t1) (fun z hz => ?_) t3 x1 x2 x3 hce hcv hcE ?_
  · rcases t2 z hz with hz | ⟨nm, hz, hne⟩
    · exact Or.inl hz
    · obtain ⟨y1, y2, -, y4⟩ := hlx hz
      exact Or.inr ⟨y1, nm, y2, hnc E x4 nm y4 (Ne.symm hne)⟩
  -- behind it
  rw [t5]
  have b1 := hcode _ _ c1
  have b2 := hcode _ _ c2
  have hL0 : lv_has ls' M.1.2.1 (am_lo (fun _ => q) []) := ⟨hL'.1, hL'.2.1, fun z hz => by cases hz⟩
  have hS2 : va_S A s.heap t.heap (locs' ++ L) := by
    obtain ⟨-, -, -, hS, -, -⟩ := r'
    refine ⟨?_, ?_, ?_⟩
    · exact Nat.le_trans hS.1 (by rw [← h0]; exact hF2.1)
    · intro q hq1 hq2
      have := hF2.2 q (by rw [h0]; exact Nat.lt_of_lt_of_le hq1 hS.1) hq2
      rw [this, h0]
      exact hS.2.1 q hq1 hq2
    · intro z hz
      rcases List.mem_append.mp hz with hz | hz
      · exact hS.2.2 z hz
      · exact hLf z hz
  show W p l e _ s m _ below meth c t.heap (locs' ++ L) (0 + mc) (0 + ms) _ (F0 m hp ls' (([.ref 0] : List Value).map (am_v (fun _ => q))))
  refine am_s0_ok (ad := fun _ => q) hX.1 hX.2.1 b1.1 b1.2 s1 hL0 (fun ls2 hL2 => ?_)
  refine am_s0_ok (ad := fun _ => q) hX.1 hX.2.1 b2.1 b2.2 s2 hL2 (fun ls3 hL3 => ?_)
  rw [Nat.zero_add, Nat.zero_add]
  refine W.iret hX.1 hX.2.1 (B.returns.trans hret) (fun t3 ht3 _ => ?_) hS2.2.2 (hcode _ _ c3).1 B.notSynchronized
  refine ⟨ad2, fun k hk => (hext2 k hk).trans (hext k hk), rfl, by rw [ht3]; exact hP2, hD2, hS2.F ht3, hcl2, fun w hw => by cases hw; trivial⟩
