section
/-! CALLS OF THE ABSTRACT MACHINE: what a method owes, and how a call of it goes -/
theorem am_nw_warm {s U : State} (hW : s.WarmedH U.vm) (h : ∀ w ∈ am_nw, va_Nw w s) : ∀ w ∈ am_nw, va_Nw w U := by
  intro w hw
  have h1 := h w hw
  have h2 := (List.mem_filter.mp hw).2
  unfold am_isN at h2
  split at h2
  · exact va_Nw.warmF hW h1
  · exact va_Nw.warmM hW h1
  · exact va_tabs rfl (rfl : (s.setVm U.vm).vm = U.vm) (by rw [Cond.castable_setVm hW.alike]; exact h1)
  · exact va_Nw.warmD hW h1
  · cases h2
theorem am_nw_ot {w : Cond} (hw : w ∈ am_nw) : w.onTables = true := by
  have h2 := (List.mem_filter.mp hw).2
  unfold am_isN at h2
  split at h2 <;> first | rfl | cases h2
/-- what was there before the law began: static rows, texts, statics -/
def am_Od (A : Nat → Prop) (ad : Nat → Nat) (U : State) (H : Heap) : Prop :=
  va_AO "ArchiveShelf$Archive" U ∧ va_AO "ArchiveShelf$Member" U ∧
  (∀ (j : Nat) (q : String × String × List Int32), am_sa[j]? = some q → va_Z q.1 q.2.1 "[I" (.ref (ad (1000000000 + j))) A U H ∧ va_T .int (ad (1000000000 + j)) q.2.2.length (fun i => .int (q.2.2.getD i 0)) A U H) ∧
  (∀ (j : Nat) (q : String × Nat × String × List Int32), am_st[j]? = some q → vk_R q.1 q.2.1 q.2.2.1 (ad (1000000100 + j)) U ∧ va_O "java/lang/String" (ad (1000000100 + j)) A U H ∧ va_OF "java/lang/String" "coder" "B" (.int 0) (ad (1000000100 + j)) A U H ∧ va_OF "java/lang/String" "value" "[B" (.ref (ad (1000000200 + j))) (ad (1000000100 + j)) A U H ∧ va_T .byte (ad (1000000200 + j)) q.2.2.2.length (fun i => .int (q.2.2.2.getD i 0)) A U H) ∧
  va_Z "java/lang/String" "COMPACT_STRINGS" "Z" (.int 1) A U H ∧ va_Zq "jdk/internal/util/Preconditions" "SIOOBE_FORMATTER" "Ljava/util/function/BiFunction;" A U H ∧ vx_Zq Bundle.tN "UNASSIGNED_STACK" Bundle.steD A U H ∧ vx_Zq Bundle.tN "SUPPRESSED_SENTINEL" Bundle.listD A U H
theorem am_Od.go {A : Nat → Prop} {ad : Nat → Nat} {s U : State} {H0 H : Heap} (hW : s.WarmedH U.vm) (hq : ∀ a : Nat, a < H0.size → ¬ A a → H[a]? = H0[a]?) (h : am_Od A ad s H0) : am_Od A ad U H := by
  obtain ⟨h1, h2, h3, h4, h5, h6, h7, h8⟩ := h
  refine ⟨h1.moved hW.alike, h2.moved hW.alike, fun j q hj => ?_, fun j q hj => ?_, (h5.moved hW.alike).kept hq, (h6.moved hW.alike).kept hq, (h7.moved hW.alike).kept hq, (h8.moved hW.alike).kept hq⟩
  · exact ⟨((h3 j q hj).1.moved hW.alike).kept hq, ((h3 j q hj).2.moved hW.alike).kept hq⟩
  · obtain ⟨k1, k2, k3, k4, k5⟩ := h4 j q hj
    exact ⟨k1.warm hW, (k2.moved hW.alike).kept hq, (k3.moved hW.alike).kept hq, (k4.moved hW.alike).kept hq, (k5.moved hW.alike).kept hq⟩
theorem am_Od.ext {A : Nat → Prop} {ad ad' : Nat → Nat} {U : State} {H : Heap} (hx : ∀ k, 1000000000 ≤ k → ad' k = ad k) (h : am_Od A ad U H) : am_Od A ad' U H := by
  obtain ⟨h1, h2, h3, h4, h5⟩ := h
  refine ⟨h1, h2, fun j q hj => ?_, fun j q hj => ?_, h5⟩
  · rw [hx (1000000000 + j) (by omega)]; exact h3 j q hj
  · rw [hx (1000000100 + j) (by omega), hx (1000000200 + j) (by omega)]; exact h4 j q hj
/-- a state at a call: the heap is the abstract one, the tables and the old things are as they were -/
def am_S (D : va_G) (cy : Nat → ClassId) (A : Nat → Prop) (ad : Nat → Nat) (h : am_H) (U : State) : Prop := va_K D am_cl (am_tys cy) U ∧ va_P D am_cl (am_wl cy ad h) U.heap ∧ va_D A (am_wl cy ad h) ∧ (∀ q, U.heap.size ≤ q → A q) ∧ am_cls h ∧ (∀ w ∈ am_nw, va_Nw w U) ∧ am_Od A ad U U.heap
def am_Pc (D : va_G) (cy : Nat → ClassId) (A : Nat → Prop) (ad : Nat → Nat) (h : am_H) (av : List Value) : Array Value → State → Prop := fun v U => v = (av.map (am_v ad)).toArray ∧ am_S D cy A ad h U
def am_Qc (D : va_G) (cy : Nat → ClassId) (A : Nat → Prop) (ad : Nat → Nat) (n : Nat) (v : Option Value) (h' : am_H) : Array Value → State → Outcome → State → Prop := fun _ st o t => ∃ ad' : Nat → Nat, (∀ k, k < n ∨ 1000000000 ≤ k → ad' k = ad k) ∧ o = .returned (v.map (am_v ad')) ∧ va_P D am_cl (am_wl cy ad' h') t.heap ∧ va_D A (am_wl cy ad' h') ∧ va_F A st t ∧ am_cls h' ∧ ∀ w, v = some w → am_cv h'.1 w
section AMC
variable {p : Program} {l : Launch} {e : Env} {R : Room} {s : State} {m : MethodId} {args : Array Value} {below : List Frame} {meth : Method} {c : Code} {H : Heap} {locs : List Loc} {cells slots : Nat} {Q : State → Prop}
variable {cc : ByteArray} {own : String} {pc : Nat} {ls : Array Slot} {ad : Nat → Nat} {D : va_G} {cy : Nat → ClassId} {A : Nat → Prop} {h : am_H}
theorem am_S.same {s U : State} (hvm : s.vm = U.vm) (hh : s.heap = U.heap) (hS : am_S D cy A ad h s) : am_S D cy A ad h U := by
  obtain ⟨h1, h2, h3, h4, h5, h6, h7⟩ := hS
  have hW : s.WarmedH U.vm := by rw [← hvm]; exact State.WarmedH.refl s
  refine ⟨va_K.moved hW.alike h1, by rw [← hh]; exact h2, h3, by rw [← hh]; exact h4, h5, am_nw_warm hW h6, ?_⟩
  rw [← hh]
  exact h7.go hW (fun _ _ _ => rfl)
theorem am_blind {av : List Value} : FrameBlind (am_Pc D cy A ad h av) := fun a U g mk q => ⟨q.1, am_S.same (s := U) (U := U.calling g mk a) rfl rfl q.2⟩
/-- the start of a call out of a method's own road -/
theorem am_pre (X : am_X cc own p s m args c) (r : am_R D cy A ad h s H locs) (hod : am_Od A ad s s.heap) (av : List Value) : ∀ U : State, U.heap = H → s.WarmedH U.vm → am_Pc D cy A ad h av ((av.map (am_v ad)).toArray) U := by
  intro U hU hW
  obtain ⟨hK, hP, hD, hS, hA, hcl⟩ := r
  refine ⟨rfl, va_K.moved hW.alike hK, by rw [hU]; exact hP, hD, fun q hq => hA q (Nat.le_trans hS.1 (by rw [← hU]; exact hq)), hcl, am_nw_warm hW (fun w hw => va_Nw.of (am_nw_ot hw) (X.2.2.2.2 w hw)), ?_⟩
  rw [hU]
  exact hod.go hW hS.2.1
/-- behind a call -/
theorem am_after {mc ms : Nat} {st0 rest : List Value} {Qa : State → Outcome → State → Prop} (hr : CallRun p l e R s m args below meth c H locs cells slots mc ms (F0 m pc ls st0) rest Qa A) (kk : ∀ (v : Option Value) (st₀ t : State) (L : List Loc), st₀.heap = H → (∀ q ∈ L, A q.base) → Qa st₀ (.returned v) t → W p l e R s m args below meth c t.heap (locs ++ L) (cells + mc) (slots + ms) Q (F0 m (pc + 3) ls (v.toList ++ rest))) : W p l e R s m args below meth c H locs cells slots Q (F0 m pc ls st0) := by
  intro T hT X
  obtain ⟨v, st₀, t, T', L, h0, X', hL, e1, hq, st⟩ := hr T hT X
  obtain ⟨t2, a1, b1⟩ := kk v st₀ t L h0 hL hq T' e1 X'
  exact ⟨t2, st t2 a1, b1⟩
end AMC
end
section
/-! HOW A CALL GOES, by its kind -/
theorem am_good_all : ∀ w ∈ am_gd, w ∈ am_gd ∧ ((w.onTables && w.keeps) = true ∨ ∃ ty, w = .arrayClass ty) := fun _ hw => ⟨hw, good_of_word (List.mem_filter.mp hw).2⟩
theorem am_goodC {c0 : Cond} (h : c0 ∈ am_gd) : GoodIn am_gd (c0 :: am_gd) := fun w hw => am_good_all w ((List.mem_cons.mp hw).elim (fun e => e ▸ h) id)
theorem am_goodL {ws : List Cond} {us : List Cond} (h : ∀ w ∈ us, w ∈ am_gd) (h2 : GoodIn am_gd ws) : GoodIn am_gd (us ++ ws) := fun w hw => (List.mem_append.mp hw).elim (fun q => am_good_all w (h w q)) (h2 w)
/-- a method's facts, out of its row -/
theorem am_mok_spec {M : am_M} (h : am_mok M) : Cond.code M.2.2.2.1 M.2.1 M.1.2.1 M.2.2.1 ∈ am_gd ∧ Cond.initialized M.2.2.2.1.cls ∈ am_gd ∧ plainName M.2.2.2.1.cls = true ∧ (M.2.2.2.1.cls ≠ "java/lang/invoke/MethodHandle" ∧ M.2.2.2.1.cls ≠ "java/lang/invoke/VarHandle" ∧ (parseMethodDescriptor M.2.2.2.1.desc).map (fun d => d.parameters.length) = some M.2.2.2.2) := ⟨am_gd_in h.1 rfl, am_gd_in h.2.1 rfl, h.2.2.1, h.2.2.2⟩
section AMU
variable {p : Program} {l : Launch} {e : Env} {R : Room} {s : State} {m : MethodId} {args : Array Value} {below : List Frame} {meth : Method} {c : Code} {H : Heap} {locs : List Loc} {cells slots : Nat}
variable {cc : ByteArray} {own : Nat} {pc nL : Nat} {ls : Array Slot} {ad : Nat → Nat} {D : va_G} {cy : Nat → ClassId} {A : Nat → Prop} {h : am_H}
variable {rm : Room} {Qc : Array Value → State → Outcome → State → Prop} {mc ms : Nat} {As rest : List Value} {M : am_M} {idx mi kd : Nat}
abbrev am_ws (M : am_M) : List Cond := Cond.code M.2.2.2.1 M.2.1 M.1.2.1 M.2.2.1 :: am_gd
theorem am_wt {rest : List Value} (hw : (rest.map fun v => v.category).sum ≤ 8) : ((rest.map (am_v ad)).map fun v => v.category).sum ≤ 8 := by
  rw [List.map_map]
  have : ((fun v => Value.category v) ∘ am_v ad) = fun v => v.category := by funext v; exact am_v_cat ad v
  rw [this]; exact hw
theorem am_runV (X : am_X cc (am_cn own) p s m args c) (hml : c.maxLocals = nL) (r : am_R D cy A ad h s H locs) (hod : am_Od A ad s s.heap) {o ci : Nat} (hM' : am_tab[mi]? = some M) (hok : am_vtok (am_cn own) (idx, ci, mi, kd)) (ho : o < h.1) (hci : (h.2.2.2 o).1 = ci) (hn : As.length = M.2.2.2.2)
    (hM : Met l M.2.2.2.1 (am_ws M) rm (am_Pc D cy A ad h (.ref o :: As)) Qc mc ms A) (hrm : rm.cells = mc ∧ rm.slots = ms) (hR : rm.frames + 1 ≤ R.frames ∧ 8 + (M.1.2.1 + 11) + rm.locals ≤ R.locals) (hsize : ls.size = nL) (hw : (rest.map fun v => v.category).sum ≤ 8) (hd : decode cc pc = .ok (.invokevirtual idx, 3)) (hf : cells + mc ≤ R.cells ∧ slots + ms ≤ R.slots) :
    CallRun p l e R s m args below meth c H locs cells slots mc ms (F0 m pc ls ((As.reverse ++ .ref o :: rest).map (am_v ad))) (rest.map (am_v ad)) (Qc ((Value.ref o :: As).map (am_v ad)).toArray) A := by
  obtain ⟨M2, hM2, hlt, hmo, hin, hk⟩ := hok
  cases Option.some.inj (hM2.symm.trans hM')
  obtain ⟨m1, m2, m3, m4⟩ := am_mok_spec hmo
  have hts := X.2.2.2.1
  obtain ⟨q, hq⟩ : ∃ q, am_cl[ci]? = some q := by
    have : ci < am_cl.length := hlt
    exact ⟨_, List.getElem?_eq_getElem this⟩
  have hkn : am_kn ci = q.1 := by unfold am_kn; rw [hq]
  have hl : ci < 20 := Nat.lt_trans hlt (by decide)
  have hrecv : ∃ cellB : Cell, H[ad o]? = some cellB ∧ cellB.vm.isStatics = false ∧ s.vm.findClass (am_kn ci) = some cellB.cls := by
    rw [hkn]
    exact va_recv r.1 r.2.1 hq (q0 := o) (by rw [am_wl_at ho, am_E_ob hci hl])
  have hst : (As.reverse ++ .ref o :: rest).map (am_v ad) = (As.map (am_v ad)).reverse ++ Value.ref (ad o) :: rest.map (am_v ad) := by
    rw [List.map_append, List.map_reverse]; rfl
  rw [hst]
  have hn' : (As.map (am_v ad)).length = M.2.2.2.2 := by rw [List.length_map]; exact hn
  split at hk
  · obtain ⟨k1, k2, k3⟩ := hk
    have k2 : M.2.2.2.1.cls = am_kn ci := k2
    have hG : GoodIn am_gd (wsV (am_cn own) idx (am_kn ci) M.2.2.2.1 (am_ws M)) := by
      refine am_goodL ?_ (am_goodC m1)
      intro w hw
      simp only [List.mem_cons, List.not_mem_nil, or_false] at hw
      rcases hw with rfl | rfl | rfl | rfl
      · exact am_gd_in k1 rfl
      · exact am_gd_in hin rfl
      · exact am_gd_in k3 rfl
      · rw [← k2]; exact m2
    exact (va_runV ⟨X.1, X.2.1, hml, X.2.2.1, hts⟩ hM (cwV M.2.2.2.2 hts hG rfl hrm.1 hrm.2 ⟨k2, m4⟩ hR) ⟨am_blind, hrecv, am_pre X r hod (.ref o :: As)⟩ rfl hn' hsize rfl (lv_room (am_wt hw)) hd hf).run
  · obtain ⟨k1, k2, k3⟩ := hk
    have hG : GoodIn am_gd (va_wsU (am_cn own) idx (am_kn ci) M.2.2.2.1.cls ⟨am_kn ci, M.2.2.2.1.name, M.2.2.2.1.desc⟩ M.2.2.2.1 (am_ws M)) := by
      refine am_goodL ?_ (am_goodC m1)
      intro w hw
      simp only [List.mem_cons, List.not_mem_nil, or_false] at hw
      rcases hw with rfl | rfl | rfl | rfl | rfl
      · exact am_gd_in k1 rfl
      · exact am_gd_in k2 rfl
      · exact am_gd_in k3 rfl
      · exact am_gd_in hin rfl
      · exact m2
    exact (va_runU ⟨X.1, X.2.1, hml, X.2.2.1, hts⟩ hM (va_cwU M.2.2.2.2 hts hG rfl hrm.1 hrm.2 rfl m4 hR) ⟨am_blind, hrecv, am_pre X r hod (.ref o :: As)⟩ rfl hn' hsize rfl (lv_room (am_wt hw)) hd hf).run
  · obtain ⟨k1, k2, k3, k4⟩ := hk
    have hG : GoodIn am_gd (va_wsU (am_cn own) idx (am_kn ci) "ArchiveShelf$Archive" ⟨"ArchiveShelf$Archive", M.2.2.2.1.name, M.2.2.2.1.desc⟩ M.2.2.2.1 (am_ws M)) := by
      refine am_goodL ?_ (am_goodC m1)
      intro w hw
      simp only [List.mem_cons, List.not_mem_nil, or_false] at hw
      rcases hw with rfl | rfl | rfl | rfl | rfl
      · exact am_gd_in k1 rfl
      · exact am_gd_in k2 rfl
      · exact am_gd_in k3 rfl
      · exact am_gd_in hin rfl
      · exact m2
    exact (va_runU ⟨X.1, X.2.1, hml, X.2.2.1, hts⟩ hM (va_cwA M.2.2.2.2 hts hG rfl hrm.1 hrm.2 (va_Nw.of rfl (X.2.2.2.2 _ (List.mem_filter.mpr ⟨k4, rfl⟩))) ⟨by decide, by decide, m4.2.2⟩ hR) ⟨am_blind, hrecv, am_pre X r hod (.ref o :: As)⟩ rfl hn' hsize rfl (lv_room (am_wt hw)) hd hf).run
  · cases hk
theorem am_runS (X : am_X cc (am_cn own) p s m args c) (hml : c.maxLocals = nL) (r : am_R D cy A ad h s H locs) (hod : am_Od A ad s s.heap) (hM' : am_tab[mi]? = some M) (hok : am_sstok (am_cn own) (idx, mi, kd)) (hn : As.length = M.2.2.2.2)
    (hM : Met l M.2.2.2.1 (am_ws M) rm (am_Pc D cy A ad h As) Qc mc ms A) (hrm : rm.cells = mc ∧ rm.slots = ms) (hR : rm.frames + 1 ≤ R.frames ∧ 8 + (M.1.2.1 + 11) + rm.locals ≤ R.locals) (hsize : ls.size = nL) (hw : (rest.map fun v => v.category).sum ≤ 8) (hd : decode cc pc = .ok (.invokestatic idx, 3)) (hf : cells + mc ≤ R.cells ∧ slots + ms ≤ R.slots) :
    CallRun p l e R s m args below meth c H locs cells slots mc ms (F0 m pc ls ((As.reverse ++ rest).map (am_v ad))) (rest.map (am_v ad)) (Qc (As.map (am_v ad)).toArray) A := by
  obtain ⟨M2, hM2, hmo, hin, hk⟩ := hok
  cases Option.some.inj (hM2.symm.trans hM')
  obtain ⟨m1, m2, m3, m4⟩ := am_mok_spec hmo
  have hts := X.2.2.2.1
  have hst : (As.reverse ++ rest).map (am_v ad) = (As.map (am_v ad)).reverse ++ rest.map (am_v ad) := by
    rw [List.map_append, List.map_reverse]
  rw [hst]
  have hn' : (As.map (am_v ad)).length = M.2.2.2.2 := by rw [List.length_map]; exact hn
  split at hk
  · have hG : GoodIn am_gd (va_wsS (am_cn own) idx M.2.2.2.1 (am_ws M)) := by
      refine am_goodL ?_ (am_goodC m1)
      intro w hw
      simp only [List.mem_cons, List.not_mem_nil, or_false] at hw
      rcases hw with rfl | rfl | rfl
      · exact am_gd_in hk rfl
      · exact am_gd_in hin rfl
      · exact m2
    exact (va_runS ⟨X.1, X.2.1, hml, X.2.2.1, hts⟩ hM (va_cwS M.2.2.2.2 hts hG rfl hrm.1 hrm.2 m4 hR) ⟨am_blind, am_pre X r hod As⟩ rfl hn' hsize rfl (lv_room (am_wt hw)) hd hf).run
  · exact (va_runSN ⟨X.1, X.2.1, hml, X.2.2.1, hts⟩ hM ⟨va_cnB M.2.2.2.2 hts (am_goodC m1) rfl hrm.1 hrm.2 (va_Nw.of rfl (X.2.2.2.2 _ (List.mem_filter.mpr ⟨hk, rfl⟩))) (hts _ m2) m4 hR, hts _ (am_gd_in hin rfl), trivial⟩ ⟨am_blind, am_pre X r hod As⟩ rfl hn' hsize rfl (lv_room (am_wt hw)) hd hf).run
theorem am_runI (X : am_X cc (am_cn own) p s m args c) (hml : c.maxLocals = nL) (r : am_R D cy A ad h s H locs) (hod : am_Od A ad s s.heap) {o : Nat} (hM' : am_tab[mi]? = some M) (hok : am_sptok (am_cn own) (idx, mi, kd)) (hn : As.length = M.2.2.2.2)
    (hM : Met l M.2.2.2.1 (am_ws M) rm (am_Pc D cy A ad h (.ref o :: As)) Qc mc ms A) (hrm : rm.cells = mc ∧ rm.slots = ms) (hR : rm.frames + 1 ≤ R.frames ∧ 8 + (M.1.2.1 + 11) + rm.locals ≤ R.locals) (hsize : ls.size = nL) (hw : (rest.map fun v => v.category).sum ≤ 8) (hd : decode cc pc = .ok (.invokespecial idx, 3)) (hf : cells + mc ≤ R.cells ∧ slots + ms ≤ R.slots) :
    CallRun p l e R s m args below meth c H locs cells slots mc ms (F0 m pc ls ((As.reverse ++ .ref o :: rest).map (am_v ad))) (rest.map (am_v ad)) (Qc ((Value.ref o :: As).map (am_v ad)).toArray) A := by
  obtain ⟨M2, hM2, hmo, hin, hnm, hk⟩ := hok
  cases Option.some.inj (hM2.symm.trans hM')
  obtain ⟨m1, m2, m3, m4⟩ := am_mok_spec hmo
  obtain ⟨hnm, hret⟩ := hnm
  have hts := X.2.2.2.1
  have hst : (As.reverse ++ .ref o :: rest).map (am_v ad) = (As.map (am_v ad)).reverse ++ Value.ref (ad o) :: rest.map (am_v ad) := by
    rw [List.map_append, List.map_reverse]; rfl
  rw [hst]
  have hn' : (As.map (am_v ad)).length = M.2.2.2.2 := by rw [List.length_map]; exact hn
  have hwse : am_ws M = Cond.code M.2.2.2.1 M.2.1 M.1.2.1 none :: am_gd := by unfold am_ws; rw [hret]
  rw [hret] at m1
  rw [hwse] at hM
  split at hk
  · exact (va_runI ⟨X.1, X.2.1, hml, X.2.2.1, hts⟩ hM (cwI M.2.2.2.2 hts (am_goodC m1) rfl hrm.1 hrm.2 (hts _ m2) (hts _ (am_gd_in hk rfl)) (hts _ (am_gd_in hin rfl)) hnm m4 hR) ⟨am_blind, am_pre X r hod (.ref o :: As)⟩ rfl hn' hsize rfl (lv_room (am_wt hw)) hd hf).run
  · exact (va_runIN ⟨X.1, X.2.1, hml, X.2.2.1, hts⟩ hM ⟨va_cnB M.2.2.2.2 hts (am_goodC m1) rfl hrm.1 hrm.2 (va_Nw.of rfl (X.2.2.2.2 _ (List.mem_filter.mpr ⟨hk, rfl⟩))) (hts _ m2) m4 hR, hnm, hts _ (am_gd_in hin rfl)⟩ ⟨am_blind, am_pre X r hod (.ref o :: As)⟩ rfl hn' hsize rfl (lv_room (am_wt hw)) hd hf).run
end AMU
end
section
/-! THE WORDS OF THE TEXTS' METHODS, by their places; printed by wip/whole/gen_tx.py -/
theorem tx_c_len : Cond.code yJ0_length_8abf5 cJ0_length_8abf5 1 (some .int) ∈ lw_tbl := am_tb4 (List.mem_of_getElem? (i := 130) rfl)
theorem tx_i_len : Cond.instanceMethod yJ0_length_8abf5 ∈ lw_tbl := am_tb4 (List.mem_of_getElem? (i := 128) rfl)
theorem tx_s_len : Cond.selects "java/lang/String" yJ0_length_8abf5 yJ0_length_8abf5 ∈ lw_tbl := am_tb4 (List.mem_of_getElem? (i := 129) rfl)
theorem tx_c_chr : Cond.code yJ0_charAt_5068e cJ0_charAt_5068e 2 (some .char) ∈ lw_tbl := am_tb4 (List.mem_of_getElem? (i := 140) rfl)
theorem tx_i_chr : Cond.instanceMethod yJ0_charAt_5068e ∈ lw_tbl := am_tb4 (List.mem_of_getElem? (i := 138) rfl)
theorem tx_s_chr : Cond.selects "java/lang/String" yJ0_charAt_5068e yJ0_charAt_5068e ∈ lw_tbl := am_tb4 (List.mem_of_getElem? (i := 139) rfl)
theorem tx_c_cod : Cond.code yJ0_coder_7d493 cJ0_coder_7d493 1 (some .byte) ∈ lw_tbl := am_tb4 (List.mem_of_getElem? (i := 134) rfl)
theorem tx_i_cod : Cond.instanceMethod yJ0_coder_7d493 ∈ lw_tbl := am_tb4 (List.mem_of_getElem? (i := 132) rfl)
theorem tx_s_cod : Cond.selects "java/lang/String" yJ0_coder_7d493 yJ0_coder_7d493 ∈ lw_tbl := am_tb4 (List.mem_of_getElem? (i := 133) rfl)
theorem tx_c_lat : Cond.code yJ0_isLatin1_aae02 cJ0_isLatin1_aae02 1 (some .boolean) ∈ lw_tbl := am_tb4 (List.mem_of_getElem? (i := 144) rfl)
theorem tx_i_lat : Cond.instanceMethod yJ0_isLatin1_aae02 ∈ lw_tbl := am_tb4 (List.mem_of_getElem? (i := 142) rfl)
theorem tx_s_lat : Cond.selects "java/lang/String" yJ0_isLatin1_aae02 yJ0_isLatin1_aae02 ∈ lw_tbl := am_tb4 (List.mem_of_getElem? (i := 143) rfl)
theorem tx_c_l1c : Cond.code yJ1_charAt_3b067 cJ1_charAt_3b067 2 (some .char) ∈ lw_tbl := am_tb4 (List.mem_of_getElem? (i := 147) rfl)
theorem tx_i_l1c : Cond.static yJ1_charAt_3b067 ∈ lw_tbl := am_tb4 (List.mem_of_getElem? (i := 146) rfl)
theorem tx_i0 : Cond.initialized "java/lang/String" ∈ lw_tbl := am_tb1 (List.mem_of_getElem? (i := 22) rfl)
theorem tx_i1 : Cond.initialized "java/lang/StringLatin1" ∈ lw_tbl := am_tb1 (List.mem_of_getElem? (i := 23) rfl)
theorem tx_f_cs : Cond.fieldLink "java/lang/String" 38 "java/lang/String" "COMPACT_STRINGS" "Z" ∈ lw_tbl := am_tb4 (List.mem_of_getElem? (i := 135) rfl)
theorem tx_f_co : Cond.fieldLink "java/lang/String" 15 "java/lang/String" "coder" "B" ∈ lw_tbl := am_tb8 (List.mem_of_getElem? (i := 154) rfl)
theorem tx_f_va : Cond.fieldLink "java/lang/String" 9 "java/lang/String" "value" "[B" ∈ lw_tbl := am_tb8 (List.mem_of_getElem? (i := 153) rfl)
theorem tx_m_cod : Cond.methodLink "java/lang/String" 335 yJ0_coder_7d493 ∈ lw_tbl := am_tb4 (List.mem_of_getElem? (i := 131) rfl)
theorem tx_m_lat : Cond.methodLink "java/lang/String" 492 yJ0_isLatin1_aae02 ∈ lw_tbl := am_tb4 (List.mem_of_getElem? (i := 141) rfl)
theorem tx_m_l1c : Cond.methodLink "java/lang/String" 495 yJ1_charAt_3b067 ∈ lw_tbl := am_tb4 (List.mem_of_getElem? (i := 145) rfl)
theorem tx_f_sf : Cond.fieldLink "java/lang/String" 1053 "jdk/internal/util/Preconditions" "SIOOBE_FORMATTER" "Ljava/util/function/BiFunction;" ∈ lw_tbl := am_tb4 (List.mem_of_getElem? (i := 151) rfl)
theorem tx_m_ck : Cond.methodLink "java/lang/StringLatin1" 9 yJ0_checkIndex_df160 ∈ lw_tbl := am_tb4 (List.mem_of_getElem? (i := 148) rfl)
theorem tx_i_ck : Cond.static yJ0_checkIndex_df160 ∈ lw_tbl := am_tb4 (List.mem_of_getElem? (i := 149) rfl)
theorem tx_c_ck : Cond.code yJ0_checkIndex_df160 cJ0_checkIndex_df160 2 none ∈ lw_tbl := am_tb4 (List.mem_of_getElem? (i := 150) rfl)
theorem tx_m_pk : Cond.methodLink "java/lang/String" 1059 yJ3_checkIndex_8e157 ∈ lw_tbl := am_tb4 (List.mem_of_getElem? (i := 153) rfl)
theorem tx_i_pk : Cond.static yJ3_checkIndex_8e157 ∈ lw_tbl := am_tb4 (List.mem_of_getElem? (i := 154) rfl)
theorem tx_c_pk : Cond.code yJ3_checkIndex_8e157 cJ3_checkIndex_8e157 3 (some .int) ∈ lw_tbl := am_tb4 (List.mem_of_getElem? (i := 155) rfl)
theorem tx_i3 : Cond.initialized "jdk/internal/util/Preconditions" ∈ lw_tbl := am_tb1 (List.mem_of_getElem? (i := 24) rfl)
end
section
/-! TEXTS: their length and their characters, by the JDK's own code -/
def tx_Pc (A : Nat → Prop) (ad : Nat → Nat) (av : List Value) : Array Value → State → Prop := fun v U => v = av.toArray ∧ am_Od A ad U U.heap
def tx_Qc (v : Option Value) : Array Value → State → Outcome → State → Prop := fun _ st o t => o = .returned v ∧ t.heap = st.heap
theorem tx_same {A : Nat → Prop} {ad : Nat → Nat} {s U : State} (hvm : s.vm = U.vm) (hh : s.heap = U.heap) (h : am_Od A ad s s.heap) : am_Od A ad U U.heap := by
  have hW : s.WarmedH U.vm := by rw [← hvm]; exact State.WarmedH.refl s
  rw [← hh]
  exact h.go hW (fun _ _ _ => rfl)
theorem tx_blind {A : Nat → Prop} {ad : Nat → Nat} {av : List Value} : FrameBlind (tx_Pc A ad av) := fun a U g mk q => ⟨q.1, tx_same (s := U) (U := U.calling g mk a) rfl rfl q.2⟩
def tx_X (cc : ByteArray) (own : String) (p : Program) (s : State) (m : MethodId) (args : Array Value) (c : Code) : Prop := p.tables.exec = Jvm.exec ∧ c.code = cc ∧ s.vm.findClass own = some m.cls ∧ ∀ w ∈ am_gd, w.before args s = true
abbrev tx_ws (y : MethodName) (cc : ByteArray) (maxL : Nat) (ret : Option FieldType) : List Cond := Cond.code y cc maxL ret :: am_gd
theorem tx_of {l : Launch} {y : MethodName} {cc : ByteArray} {maxL : Nat} {ret : Option FieldType} {A : Nat → Prop} {ad : Nat → Nat} {av : List Value} {v : Option Value} {rm : Room} (hpl : plainName y.cls = true) (hla : (lg_sl av).length ≤ maxL)
    (body : ∀ (p : Program) (e : Env) (s : State) (m : MethodId) (args : Array Value) (below : List Frame) (meth : Method) (c : Code) (ls : Array Slot), tx_X cc y.cls p s m args c → c.maxLocals = maxL → lv_has ls maxL (lv_args 0 av) → am_Od A ad s s.heap → meth.sig.returnType = ret → meth.locks = false → W p l e rm s m args below meth c s.heap [] 0 0 (MQ below (tx_Qc v) args s 0 0 (fun _ => False)) (F0 m 0 ls [])) :
    Met l y (tx_ws y cc maxL ret) rm (tx_Pc A ad av) (tx_Qc v) 0 0 (fun _ => False) := by
  refine Met.ofW (cc := cc) (maxL := maxL) (ret := ret) hpl rfl ?_
  intro p e s m args below meth c s₁ B hml hv
  obtain ⟨rfl, hod⟩ := hv
  have hts := atoms_spec (ws := tx_ws y cc maxL ret) B.pre
  have hown : s.vm.findClass y.cls = some m.cls := findClass_of_methodNamed B.named
  have hle := lv_entry av (n := maxL) hla
  rw [lg_entry_eq]
  generalize (lg_sl av ++ List.replicate (maxL - (lg_sl av).length) Slot.unset).toArray = ls at hle ⊢
  exact body p e s m _ below meth c ls ⟨B.exec, B.bytes, hown, fun w hw => hts w (List.mem_cons_of_mem _ hw)⟩ hml hle hod B.returns B.notSynchronized
section AMTX
variable {p : Program} {l : Launch} {e : Env} {R : Room} {s : State} {m : MethodId} {args : Array Value} {below : List Frame} {meth : Method} {c : Code} {H : Heap} {locs : List Loc} {cells slots : Nat} {Q : State → Prop}
variable {cc : ByteArray} {pc nL own idx j : Nat} {ls : Array Slot} {ad : Nat → Nat} {A : Nat → Prop} {q : String × Nat × String × List Int32} {r : List Value}
/-- a call that changes nothing -/
theorem tx_pure {st0 rest : List Value} {v : Option Value} (hr : CallRun p l e R s m args below meth c H locs cells slots 0 0 (F0 m pc ls st0) rest (fun st o t => o = .returned v ∧ t.heap = st.heap) (fun _ => False)) (kk : W p l e R s m args below meth c H locs cells slots Q (F0 m (pc + 3) ls (v.toList ++ rest))) : W p l e R s m args below meth c H locs cells slots Q (F0 m pc ls st0) := by
  intro T hT X
  obtain ⟨v', st₀, t, T', L, h0, X', hL, e1, hq, st⟩ := hr T hT X
  obtain ⟨hq1, hq2⟩ := hq
  have hv := Outcome.returned.inj hq1
  subst hv
  have hLn : L = [] := by
    cases L with
    | nil => rfl
    | cons z zs => exact (hL z List.mem_cons_self).elim
  subst hLn
  rw [List.append_nil] at X'
  obtain ⟨t2, a1, b1⟩ := kk T' (by rw [e1, hq2, h0]) X'
  exact ⟨t2, st t2 a1, b1⟩
theorem tx_callV {o : String} {y : MethodName} {bytes : ByteArray} {maxL a nA : Nat} {ret : Option FieldType} {As rest : List Value} {v : Option Value} {rm : Room} (X : tx_X cc o p s m args c) (hml : c.maxLocals = nL) (hsz : ls.size = nL) (hS : va_S A s.heap H locs) (hod : am_Od A ad s s.heap) (hO : va_O "java/lang/String" a A s s.heap) (hM : Met l y (tx_ws y bytes maxL ret) rm (tx_Pc A ad (.ref a :: As)) (tx_Qc v) 0 0 (fun _ => False)) (hrm : rm.cells = 0 ∧ rm.slots = 0) (hy : y.cls = "java/lang/String") (w1 : Cond.methodLink o idx y ∈ lw_tbl) (w2 : Cond.instanceMethod y ∈ lw_tbl) (w3 : Cond.selects "java/lang/String" y y ∈ lw_tbl) (w4 : Cond.code y bytes maxL ret ∈ lw_tbl) (hnA : As.length = nA) (hn : (parseMethodDescriptor y.desc).map (fun d => d.parameters.length) = some nA) (hR : rm.frames + 1 ≤ R.frames ∧ 8 + (maxL + 11) + rm.locals ≤ R.locals) (hw : (rest.map fun v => v.category).sum ≤ 8) (hrc : cells ≤ R.cells) (hrs : slots ≤ R.slots) (hd : decode cc pc = .ok (.invokevirtual idx, 3))
    (kk : W p l e R s m args below meth c H locs cells slots Q (F0 m (pc + 3) ls (v.toList ++ rest))) : W p l e R s m args below meth c H locs cells slots Q (F0 m pc ls (As.reverse ++ .ref a :: rest)) := by
  have hG : GoodIn am_gd (wsV o idx "java/lang/String" y (tx_ws y bytes maxL ret)) := by
    refine am_goodL ?_ (am_goodC (am_gd_in w4 rfl))
    intro w hw
    simp only [List.mem_cons, List.not_mem_nil, or_false] at hw
    rcases hw with rfl | rfl | rfl | rfl
    · exact am_gd_in w1 rfl
    · exact am_gd_in w2 rfl
    · exact am_gd_in w3 rfl
    · exact am_gd_in tx_i0 rfl
  obtain ⟨cell, h1, h2, h3, h4⟩ := hO
  have hrecv : ∃ cellB : Cell, H[a]? = some cellB ∧ cellB.vm.isStatics = false ∧ s.vm.findClass "java/lang/String" = some cellB.cls := ⟨cell, by rw [hS.2.1 a (Array.getElem?_eq_some_iff.mp h1).1 h4]; exact h1, h2, h3⟩
  refine tx_pure (v := v) ((va_runV (As := As) (rest := rest) (g := F0 m pc ls (As.reverse ++ .ref a :: rest)) (p := p) (e := e) (below := below) (meth := meth) (locs := locs) (cells := cells) (slots := slots) ⟨X.1, X.2.1, hml, X.2.2.1, X.2.2.2⟩ hM (cwV nA X.2.2.2 hG rfl hrm.1 hrm.2 ⟨hy, by rw [hy]; decide, by rw [hy]; decide, hn⟩ hR) ⟨tx_blind, hrecv, fun U hU hW => ⟨rfl, ?_⟩⟩ rfl hnA hsz rfl (lv_room hw) hd ⟨by omega, by omega⟩).run) kk
  rw [hU]
  exact hod.go hW hS.2.1
theorem tx_callS {o : String} {y : MethodName} {bytes : ByteArray} {maxL nA : Nat} {ret : Option FieldType} {As rest : List Value} {v : Option Value} {rm : Room} (X : tx_X cc o p s m args c) (hml : c.maxLocals = nL) (hsz : ls.size = nL) (hS : va_S A s.heap H locs) (hod : am_Od A ad s s.heap) (hM : Met l y (tx_ws y bytes maxL ret) rm (tx_Pc A ad As) (tx_Qc v) 0 0 (fun _ => False)) (hrm : rm.cells = 0 ∧ rm.slots = 0) (w1 : Cond.methodLink o idx y ∈ lw_tbl) (w2 : Cond.static y ∈ lw_tbl) (w3 : Cond.initialized y.cls ∈ lw_tbl) (w4 : Cond.code y bytes maxL ret ∈ lw_tbl) (hnA : As.length = nA) (hn : y.cls ≠ "java/lang/invoke/MethodHandle" ∧ y.cls ≠ "java/lang/invoke/VarHandle" ∧ (parseMethodDescriptor y.desc).map (fun d => d.parameters.length) = some nA) (hR : rm.frames + 1 ≤ R.frames ∧ 8 + (maxL + 11) + rm.locals ≤ R.locals) (hw : (rest.map fun v => v.category).sum ≤ 8) (hrc : cells ≤ R.cells) (hrs : slots ≤ R.slots) (hd : decode cc pc = .ok (.invokestatic idx, 3))
    (kk : W p l e R s m args below meth c H locs cells slots Q (F0 m (pc + 3) ls (v.toList ++ rest))) : W p l e R s m args below meth c H locs cells slots Q (F0 m pc ls (As.reverse ++ rest)) := by
  have hG : GoodIn am_gd (va_wsS o idx y (tx_ws y bytes maxL ret)) := by
    refine am_goodL ?_ (am_goodC (am_gd_in w4 rfl))
    intro w hw
    simp only [List.mem_cons, List.not_mem_nil, or_false] at hw
    rcases hw with rfl | rfl | rfl
    · exact am_gd_in w1 rfl
    · exact am_gd_in w2 rfl
    · exact am_gd_in w3 rfl
  refine tx_pure (v := v) ((va_runS (As := As) (rest := rest) (g := F0 m pc ls (As.reverse ++ rest)) (p := p) (e := e) (below := below) (meth := meth) (locs := locs) (cells := cells) (slots := slots) ⟨X.1, X.2.1, hml, X.2.2.1, X.2.2.2⟩ hM (va_cwS nA X.2.2.2 hG rfl hrm.1 hrm.2 hn hR) ⟨tx_blind, fun U hU hW => ⟨rfl, ?_⟩⟩ rfl hnA hsz rfl (lv_room hw) hd ⟨by omega, by omega⟩).run) kk
  rw [hU]
  exact hod.go hW hS.2.1
end AMTX
theorem txd_cod_0 : decode cJ0_coder_7d493 0 = .ok (.getstatic 38, 3) := by decide +kernel
theorem txd_cod_3 : decode cJ0_coder_7d493 3 = .ok (.ifCond .eq 10, 3) := by decide +kernel
theorem txd_cod_6 : decode cJ0_coder_7d493 6 = .ok (.aload_n 0, 1) := by decide +kernel
theorem txd_cod_7 : decode cJ0_coder_7d493 7 = .ok (.getfield 15, 3) := by decide +kernel
theorem txd_cod_10 : decode cJ0_coder_7d493 10 = .ok (.goto 4, 3) := by decide +kernel
theorem txd_cod_14 : decode cJ0_coder_7d493 14 = .ok (.ireturn, 1) := by decide +kernel
theorem txd_lat_0 : decode cJ0_isLatin1_aae02 0 = .ok (.getstatic 38, 3) := by decide +kernel
theorem txd_lat_3 : decode cJ0_isLatin1_aae02 3 = .ok (.ifCond .eq 14, 3) := by decide +kernel
theorem txd_lat_6 : decode cJ0_isLatin1_aae02 6 = .ok (.aload_n 0, 1) := by decide +kernel
theorem txd_lat_7 : decode cJ0_isLatin1_aae02 7 = .ok (.getfield 15, 3) := by decide +kernel
theorem txd_lat_10 : decode cJ0_isLatin1_aae02 10 = .ok (.ifCond .ne 7, 3) := by decide +kernel
theorem txd_lat_13 : decode cJ0_isLatin1_aae02 13 = .ok (.iconst 1, 1) := by decide +kernel
theorem txd_lat_14 : decode cJ0_isLatin1_aae02 14 = .ok (.goto 4, 3) := by decide +kernel
theorem txd_lat_18 : decode cJ0_isLatin1_aae02 18 = .ok (.ireturn, 1) := by decide +kernel
theorem txd_len_0 : decode cJ0_length_8abf5 0 = .ok (.aload_n 0, 1) := by decide +kernel
theorem txd_len_1 : decode cJ0_length_8abf5 1 = .ok (.getfield 9, 3) := by decide +kernel
theorem txd_len_4 : decode cJ0_length_8abf5 4 = .ok (.arraylength, 1) := by decide +kernel
theorem txd_len_5 : decode cJ0_length_8abf5 5 = .ok (.aload_n 0, 1) := by decide +kernel
theorem txd_len_6 : decode cJ0_length_8abf5 6 = .ok (.invokevirtual 335, 3) := by decide +kernel
theorem txd_len_9 : decode cJ0_length_8abf5 9 = .ok (.ishr, 1) := by decide +kernel
theorem txd_len_10 : decode cJ0_length_8abf5 10 = .ok (.ireturn, 1) := by decide +kernel
theorem txd_pk_0 : decode cJ3_checkIndex_8e157 0 = .ok (.iload_n 0, 1) := by decide +kernel
theorem txd_pk_1 : decode cJ3_checkIndex_8e157 1 = .ok (.ifCond .lt 8, 3) := by decide +kernel
theorem txd_pk_4 : decode cJ3_checkIndex_8e157 4 = .ok (.iload_n 0, 1) := by decide +kernel
theorem txd_pk_5 : decode cJ3_checkIndex_8e157 5 = .ok (.iload_n 1, 1) := by decide +kernel
theorem txd_pk_6 : decode cJ3_checkIndex_8e157 6 = .ok (.if_icmp .lt 10, 3) := by decide +kernel
theorem txd_pk_16 : decode cJ3_checkIndex_8e157 16 = .ok (.iload_n 0, 1) := by decide +kernel
theorem txd_pk_17 : decode cJ3_checkIndex_8e157 17 = .ok (.ireturn, 1) := by decide +kernel
theorem txd_ck_0 : decode cJ0_checkIndex_df160 0 = .ok (.iload_n 0, 1) := by decide +kernel
theorem txd_ck_1 : decode cJ0_checkIndex_df160 1 = .ok (.iload_n 1, 1) := by decide +kernel
theorem txd_ck_2 : decode cJ0_checkIndex_df160 2 = .ok (.getstatic 1053, 3) := by decide +kernel
theorem txd_ck_5 : decode cJ0_checkIndex_df160 5 = .ok (.invokestatic 1059, 3) := by decide +kernel
theorem txd_ck_8 : decode cJ0_checkIndex_df160 8 = .ok (.pop, 1) := by decide +kernel
theorem txd_ck_9 : decode cJ0_checkIndex_df160 9 = .ok (.return_, 1) := by decide +kernel
theorem txd_l1c_0 : decode cJ1_charAt_3b067 0 = .ok (.iload_n 1, 1) := by decide +kernel
theorem txd_l1c_1 : decode cJ1_charAt_3b067 1 = .ok (.aload_n 0, 1) := by decide +kernel
theorem txd_l1c_2 : decode cJ1_charAt_3b067 2 = .ok (.arraylength, 1) := by decide +kernel
theorem txd_l1c_3 : decode cJ1_charAt_3b067 3 = .ok (.invokestatic 9, 3) := by decide +kernel
theorem txd_l1c_6 : decode cJ1_charAt_3b067 6 = .ok (.aload_n 0, 1) := by decide +kernel
theorem txd_l1c_7 : decode cJ1_charAt_3b067 7 = .ok (.iload_n 1, 1) := by decide +kernel
theorem txd_l1c_8 : decode cJ1_charAt_3b067 8 = .ok (.baload, 1) := by decide +kernel
theorem txd_l1c_9 : decode cJ1_charAt_3b067 9 = .ok (.sipush 255, 3) := by decide +kernel
theorem txd_l1c_12 : decode cJ1_charAt_3b067 12 = .ok (.iand, 1) := by decide +kernel
theorem txd_l1c_13 : decode cJ1_charAt_3b067 13 = .ok (.i2c, 1) := by decide +kernel
theorem txd_l1c_14 : decode cJ1_charAt_3b067 14 = .ok (.ireturn, 1) := by decide +kernel
theorem txd_chr_0 : decode cJ0_charAt_5068e 0 = .ok (.aload_n 0, 1) := by decide +kernel
theorem txd_chr_1 : decode cJ0_charAt_5068e 1 = .ok (.invokevirtual 492, 3) := by decide +kernel
theorem txd_chr_4 : decode cJ0_charAt_5068e 4 = .ok (.ifCond .eq 12, 3) := by decide +kernel
theorem txd_chr_7 : decode cJ0_charAt_5068e 7 = .ok (.aload_n 0, 1) := by decide +kernel
theorem txd_chr_8 : decode cJ0_charAt_5068e 8 = .ok (.getfield 9, 3) := by decide +kernel
theorem txd_chr_11 : decode cJ0_charAt_5068e 11 = .ok (.iload_n 1, 1) := by decide +kernel
theorem txd_chr_12 : decode cJ0_charAt_5068e 12 = .ok (.invokestatic 495, 3) := by decide +kernel
theorem txd_chr_15 : decode cJ0_charAt_5068e 15 = .ok (.ireturn, 1) := by decide +kernel
section TXM
variable {l : Launch} {A : Nat → Prop} {ad : Nat → Nat} {j : Nat} {q : String × Nat × String × List Int32}
abbrev tx_id : Nat → Nat := fun k => k
theorem tx_coder (hq : am_st[j]? = some q) : Met l yJ0_coder_7d493 (tx_ws yJ0_coder_7d493 cJ0_coder_7d493 1 (some .byte)) { frames := 0, cells := 0, slots := 0, locals := 0 } (tx_Pc A ad [.ref (ad (1000000100 + j))]) (tx_Qc (some (.int 0))) 0 0 (fun _ => False) := by
  refine tx_of (by decide +kernel) (Nat.le_of_ble_eq_true rfl) ?_
  intro p e s m args below meth c ls X hml hL hod hret hlk
  obtain ⟨k1, k2, k3, k4, k5⟩ := hod.2.2.2.1 j q hq
  generalize ad (1000000100 + j) = a at *
  have hL : lv_has ls 1 (am_lo tx_id [(0, .ref a)]) := hL
  refine va_gets (rest := []) X.1 X.2.1 hod.2.2.2.2.1 va_S.rf X.2.2.1 (X.2.2.2 _ (am_gd_in tx_f_cs rfl)) (fun _ h => h) txd_cod_0 ?_
  show W p l e _ s m args below meth c s.heap [] 0 0 _ (F0 m 3 ls [.int 1])
  refine am_s0_ok (ad := tx_id) (st := [.int 1]) (lo := [(0, .ref a)]) (nL := 1) (i := .ifCond .eq 10) (len := 3) (u := (6, [(0, .ref a)], [])) X.1 X.2.1 txd_cod_3 (Or.inr rfl) rfl hL (fun ls hL => ?_)
  show W p l e _ s m args below meth c s.heap [] 0 0 _ (F0 m 6 ls [])
  refine am_s0_ok (ad := tx_id) (st := []) (lo := [(0, .ref a)]) (nL := 1) (i := .aload_n 0) (len := 1) (u := (7, [(0, .ref a)], [.ref a])) X.1 X.2.1 txd_cod_6 (Or.inr rfl) rfl hL (fun ls hL => ?_)
  show W p l e _ s m args below meth c s.heap [] 0 0 _ (F0 m 7 ls [.ref a])
  refine vk_getf (rest := []) X.1 X.2.1 k3 va_S.rf X.2.2.1 (X.2.2.2 _ (am_gd_in tx_f_co rfl)) (fun _ h => h) txd_cod_7 ?_
  show W p l e _ s m args below meth c s.heap [] 0 0 _ (F0 m 10 ls [.int 0])
  refine am_s0_ok (ad := tx_id) (st := [.int 0]) (lo := [(0, .ref a)]) (nL := 1) (i := .goto 4) (len := 3) (u := (14, [(0, .ref a)], [.int 0])) X.1 X.2.1 txd_cod_10 (Or.inr rfl) rfl hL (fun ls hL => ?_)
  show W p l e _ s m args below meth c s.heap [] 0 0 _ (F0 m 14 ls [.int 0])
  exact W.zret X.1 X.2.1 hret (by decide +kernel) (fun t ht _ => ⟨rfl, ht⟩) (fun z hz => by cases hz) txd_cod_14 hlk
theorem tx_latin (hq : am_st[j]? = some q) : Met l yJ0_isLatin1_aae02 (tx_ws yJ0_isLatin1_aae02 cJ0_isLatin1_aae02 1 (some .boolean)) { frames := 0, cells := 0, slots := 0, locals := 0 } (tx_Pc A ad [.ref (ad (1000000100 + j))]) (tx_Qc (some (.int 1))) 0 0 (fun _ => False) := by
  refine tx_of (by decide +kernel) (Nat.le_of_ble_eq_true rfl) ?_
  intro p e s m args below meth c ls X hml hL hod hret hlk
  obtain ⟨k1, k2, k3, k4, k5⟩ := hod.2.2.2.1 j q hq
  generalize ad (1000000100 + j) = a at *
  have hL : lv_has ls 1 (am_lo tx_id [(0, .ref a)]) := hL
  refine va_gets (rest := []) X.1 X.2.1 hod.2.2.2.2.1 va_S.rf X.2.2.1 (X.2.2.2 _ (am_gd_in tx_f_cs rfl)) (fun _ h => h) txd_lat_0 ?_
  show W p l e _ s m args below meth c s.heap [] 0 0 _ (F0 m 3 ls [.int 1])
  refine am_s0_ok (ad := tx_id) (st := [.int 1]) (lo := [(0, .ref a)]) (nL := 1) (i := .ifCond .eq 14) (len := 3) (u := (6, [(0, .ref a)], [])) X.1 X.2.1 txd_lat_3 (Or.inr rfl) rfl hL (fun ls hL => ?_)
  show W p l e _ s m args below meth c s.heap [] 0 0 _ (F0 m 6 ls [])
  refine am_s0_ok (ad := tx_id) (st := []) (lo := [(0, .ref a)]) (nL := 1) (i := .aload_n 0) (len := 1) (u := (7, [(0, .ref a)], [.ref a])) X.1 X.2.1 txd_lat_6 (Or.inr rfl) rfl hL (fun ls hL => ?_)
  show W p l e _ s m args below meth c s.heap [] 0 0 _ (F0 m 7 ls [.ref a])
  refine vk_getf (rest := []) X.1 X.2.1 k3 va_S.rf X.2.2.1 (X.2.2.2 _ (am_gd_in tx_f_co rfl)) (fun _ h => h) txd_lat_7 ?_
  show W p l e _ s m args below meth c s.heap [] 0 0 _ (F0 m 10 ls [.int 0])
  refine am_s0_ok (ad := tx_id) (st := [.int 0]) (lo := [(0, .ref a)]) (nL := 1) (i := .ifCond .ne 7) (len := 3) (u := (13, [(0, .ref a)], [])) X.1 X.2.1 txd_lat_10 (Or.inr rfl) rfl hL (fun ls hL => ?_)
  show W p l e _ s m args below meth c s.heap [] 0 0 _ (F0 m 13 ls [])
  refine am_s0_ok (ad := tx_id) (st := []) (lo := [(0, .ref a)]) (nL := 1) (i := .iconst 1) (len := 1) (u := (14, [(0, .ref a)], [.int 1])) X.1 X.2.1 txd_lat_13 (Or.inr rfl) rfl hL (fun ls hL => ?_)
  show W p l e _ s m args below meth c s.heap [] 0 0 _ (F0 m 14 ls [.int 1])
  refine am_s0_ok (ad := tx_id) (st := [.int 1]) (lo := [(0, .ref a)]) (nL := 1) (i := .goto 4) (len := 3) (u := (18, [(0, .ref a)], [.int 1])) X.1 X.2.1 txd_lat_14 (Or.inr rfl) rfl hL (fun ls hL => ?_)
  show W p l e _ s m args below meth c s.heap [] 0 0 _ (F0 m 18 ls [.int 1])
  exact W.zret X.1 X.2.1 hret (by decide +kernel) (fun t ht _ => ⟨rfl, ht⟩) (fun z hz => by cases hz) txd_lat_18 hlk
theorem tx_length (hq : am_st[j]? = some q) : Met l yJ0_length_8abf5 (tx_ws yJ0_length_8abf5 cJ0_length_8abf5 1 (some .int)) { frames := 1, cells := 0, slots := 0, locals := 20 } (tx_Pc A ad [.ref (ad (1000000100 + j))]) (tx_Qc (some (.int (Int32.ofNat q.2.2.2.length)))) 0 0 (fun _ => False) := by
  refine tx_of (by decide +kernel) (Nat.le_of_ble_eq_true rfl) ?_
  intro p e s m args below meth c ls X hml hL hod hret hlk
  obtain ⟨k1, k2, k3, k4, k5⟩ := hod.2.2.2.1 j q hq
  have hcod := tx_coder (l := l) (A := A) (ad := ad) hq
  generalize ad (1000000200 + j) = vv at *
  generalize ad (1000000100 + j) = a at *
  have hL : lv_has ls 1 (am_lo tx_id [(0, .ref a)]) := hL
  refine am_s0_ok (ad := tx_id) (st := []) (lo := [(0, .ref a)]) (nL := 1) (i := .aload_n 0) (len := 1) (u := (1, [(0, .ref a)], [.ref a])) X.1 X.2.1 txd_len_0 (Or.inr rfl) rfl hL (fun ls hL => ?_)
  show W p l e _ s m args below meth c s.heap [] 0 0 _ (F0 m 1 ls [.ref a])
  refine vk_getf (rest := []) X.1 X.2.1 k4 va_S.rf X.2.2.1 (X.2.2.2 _ (am_gd_in tx_f_va rfl)) (fun _ h => h) txd_len_1 ?_
  show W p l e _ s m args below meth c s.heap [] 0 0 _ (F0 m 4 ls [.ref vv])
  refine va_tlen (rest := []) X.1 X.2.1 k5 va_S.rf rfl txd_len_4 ?_
  show W p l e _ s m args below meth c s.heap [] 0 0 _ (F0 m 5 ls [.int (Int32.ofNat q.2.2.2.length)])
  refine am_s0_ok (ad := tx_id) (st := [.int (Int32.ofNat q.2.2.2.length)]) (lo := [(0, .ref a)]) (nL := 1) (i := .aload_n 0) (len := 1) (u := (6, [(0, .ref a)], [.ref a, .int (Int32.ofNat q.2.2.2.length)])) X.1 X.2.1 txd_len_5 (Or.inr rfl) rfl hL (fun ls hL => ?_)
  show W p l e _ s m args below meth c s.heap [] 0 0 _ (F0 m 6 ls [.ref a, .int (Int32.ofNat q.2.2.2.length)])
  refine tx_callV (nA := 0) (As := []) (rest := [.int (Int32.ofNat q.2.2.2.length)]) (idx := 335) (v := some (.int 0)) X hml hL.1 va_S.rf hod k2 hcod ⟨rfl, rfl⟩ rfl tx_m_cod tx_i_cod tx_s_cod tx_c_cod rfl (by decide +kernel) ⟨by decide, by decide⟩ (Nat.le_of_ble_eq_true rfl) (Nat.le_refl _) (Nat.le_refl _) txd_len_6 ?_
  show W p l e _ s m args below meth c s.heap [] 0 0 _ (F0 m 9 ls [.int 0, .int (Int32.ofNat q.2.2.2.length)])
  refine am_s0_ok (ad := tx_id) (st := [.int 0, .int (Int32.ofNat q.2.2.2.length)]) (lo := [(0, .ref a)]) (nL := 1) (i := .ishr) (len := 1) (u := (10, [(0, .ref a)], [.int (Int32.ofNat q.2.2.2.length >>> ((0 : Int32) &&& 31))])) X.1 X.2.1 txd_len_9 (Or.inr rfl) rfl hL (fun ls hL => ?_)
  show W p l e _ s m args below meth c s.heap [] 0 0 _ (F0 m 10 ls [.int (Int32.ofNat q.2.2.2.length >>> ((0 : Int32) &&& 31))])
  rw [show Int32.ofNat q.2.2.2.length >>> ((0 : Int32) &&& 31) = Int32.ofNat q.2.2.2.length from by rw [show ((0 : Int32) &&& 31) = 0 from by decide +kernel]; exact Int32.shiftRight_zero]
  exact W.iret X.1 X.2.1 hret (fun t ht _ => ⟨rfl, ht⟩) (fun z hz => by cases hz) txd_len_10 hlk
theorem tx_pk {x n : Int32} {fv : Value} (hfv : fv = .null ∨ ∃ t, fv = .ref t) (h0 : ¬ x < 0) (h1 : x < n) : Met l yJ3_checkIndex_8e157 (tx_ws yJ3_checkIndex_8e157 cJ3_checkIndex_8e157 3 (some .int)) { frames := 0, cells := 0, slots := 0, locals := 0 } (tx_Pc A ad [.int x, .int n, fv]) (tx_Qc (some (.int x))) 0 0 (fun _ => False) := by
  refine tx_of (by decide +kernel) (by rcases hfv with rfl | ⟨t, rfl⟩ <;> exact Nat.le_of_ble_eq_true rfl) ?_
  intro p e s m args below meth c ls X hml hL hod hret hlk
  have hL : lv_has ls 3 (am_lo tx_id [(0, .int x), (1, .int n), (2, fv)]) := by rcases hfv with rfl | ⟨t, rfl⟩ <;> exact hL
  refine am_s0_ok (ad := tx_id) (st := []) (lo := [(0, .int x), (1, .int n), (2, fv)]) (nL := 3) (i := .iload_n 0) (len := 1) (u := (1, [(0, .int x), (1, .int n), (2, fv)], [.int x])) X.1 X.2.1 txd_pk_0 (Or.inr rfl) rfl hL (fun ls hL => ?_)
  show W p l e _ s m args below meth c s.heap [] 0 0 _ (F0 m 1 ls [.int x])
  refine am_s0_ok (ad := tx_id) (st := [.int x]) (lo := [(0, .int x), (1, .int n), (2, fv)]) (nL := 3) (i := .ifCond .lt 8) (len := 3) (u := (4, [(0, .int x), (1, .int n), (2, fv)], [])) X.1 X.2.1 txd_pk_1 (Or.inr rfl) (by show some (bif am_cc .lt x 0 then 9 else 4, _, _) = _; rw [show am_cc .lt x 0 = false from decide_eq_false h0]; rfl) hL (fun ls hL => ?_)
  show W p l e _ s m args below meth c s.heap [] 0 0 _ (F0 m 4 ls [])
  refine am_s0_ok (ad := tx_id) (st := []) (lo := [(0, .int x), (1, .int n), (2, fv)]) (nL := 3) (i := .iload_n 0) (len := 1) (u := (5, [(0, .int x), (1, .int n), (2, fv)], [.int x])) X.1 X.2.1 txd_pk_4 (Or.inr rfl) rfl hL (fun ls hL => ?_)
  show W p l e _ s m args below meth c s.heap [] 0 0 _ (F0 m 5 ls [.int x])
  refine am_s0_ok (ad := tx_id) (st := [.int x]) (lo := [(0, .int x), (1, .int n), (2, fv)]) (nL := 3) (i := .iload_n 1) (len := 1) (u := (6, [(0, .int x), (1, .int n), (2, fv)], [.int n, .int x])) X.1 X.2.1 txd_pk_5 (Or.inr rfl) rfl hL (fun ls hL => ?_)
  show W p l e _ s m args below meth c s.heap [] 0 0 _ (F0 m 6 ls [.int n, .int x])
  refine am_s0_ok (ad := tx_id) (st := [.int n, .int x]) (lo := [(0, .int x), (1, .int n), (2, fv)]) (nL := 3) (i := .if_icmp .lt 10) (len := 3) (u := (16, [(0, .int x), (1, .int n), (2, fv)], [])) X.1 X.2.1 txd_pk_6 (Or.inr rfl) (by show some (bif am_cc .lt x n then 16 else 9, _, _) = _; rw [show am_cc .lt x n = true from decide_eq_true h1]; rfl) hL (fun ls hL => ?_)
  show W p l e _ s m args below meth c s.heap [] 0 0 _ (F0 m 16 ls [])
  refine am_s0_ok (ad := tx_id) (st := []) (lo := [(0, .int x), (1, .int n), (2, fv)]) (nL := 3) (i := .iload_n 0) (len := 1) (u := (17, [(0, .int x), (1, .int n), (2, fv)], [.int x])) X.1 X.2.1 txd_pk_16 (Or.inr rfl) rfl hL (fun ls hL => ?_)
  show W p l e _ s m args below meth c s.heap [] 0 0 _ (F0 m 17 ls [.int x])
  exact W.iret X.1 X.2.1 hret (fun t ht _ => ⟨rfl, ht⟩) (fun z hz => by cases hz) txd_pk_17 hlk
theorem tx_ck {x n : Int32} (h0 : ¬ x < 0) (h1 : x < n) : Met l yJ0_checkIndex_df160 (tx_ws yJ0_checkIndex_df160 cJ0_checkIndex_df160 2 none) { frames := 1, cells := 0, slots := 0, locals := 22 } (tx_Pc A ad [.int x, .int n]) (tx_Qc none) 0 0 (fun _ => False) := by
  refine tx_of (by decide +kernel) (Nat.le_of_ble_eq_true rfl) ?_
  intro p e s m args below meth c ls X hml hL hod hret hlk
  have hL : lv_has ls 2 (am_lo tx_id [(0, .int x), (1, .int n)]) := hL
  refine am_s0_ok (ad := tx_id) (st := []) (lo := [(0, .int x), (1, .int n)]) (nL := 2) (i := .iload_n 0) (len := 1) (u := (1, [(0, .int x), (1, .int n)], [.int x])) X.1 X.2.1 txd_ck_0 (Or.inr rfl) rfl hL (fun ls hL => ?_)
  show W p l e _ s m args below meth c s.heap [] 0 0 _ (F0 m 1 ls [.int x])
  refine am_s0_ok (ad := tx_id) (st := [.int x]) (lo := [(0, .int x), (1, .int n)]) (nL := 2) (i := .iload_n 1) (len := 1) (u := (2, [(0, .int x), (1, .int n)], [.int n, .int x])) X.1 X.2.1 txd_ck_1 (Or.inr rfl) rfl hL (fun ls hL => ?_)
  show W p l e _ s m args below meth c s.heap [] 0 0 _ (F0 m 2 ls [.int n, .int x])
  have go : ∀ (fv : Value), (fv = .null ∨ ∃ t, fv = .ref t) → va_Z "jdk/internal/util/Preconditions" "SIOOBE_FORMATTER" "Ljava/util/function/BiFunction;" fv A s s.heap → W p l e { frames := 1, cells := 0, slots := 0, locals := 22 } s m args below meth c s.heap [] 0 0 (MQ below (tx_Qc none) args s 0 0 (fun _ => False)) (F0 m 2 ls [.int n, .int x]) := by
    intro fv hfv hZ
    refine va_gets (rest := [.int n, .int x]) X.1 X.2.1 hZ va_S.rf X.2.2.1 (X.2.2.2 _ (am_gd_in tx_f_sf rfl)) (fun _ h => h) txd_ck_2 ?_
    refine tx_callS (nA := 3) (As := [.int x, .int n, fv]) (rest := []) (idx := 1059) (v := some (.int x)) X hml hL.1 va_S.rf hod (tx_pk (l := l) hfv h0 h1) ⟨rfl, rfl⟩ tx_m_pk tx_i_pk tx_i3 tx_c_pk rfl (by decide +kernel) ⟨by decide, by decide⟩ (Nat.le_of_ble_eq_true rfl) (Nat.le_refl _) (Nat.le_refl _) txd_ck_5 ?_
    show W p l e _ s m args below meth c s.heap [] 0 0 _ (F0 m 8 ls [.int x])
    refine am_s0_ok (ad := tx_id) (st := [.int x]) (lo := [(0, .int x), (1, .int n)]) (nL := 2) (i := .pop) (len := 1) (u := (9, [(0, .int x), (1, .int n)], [])) X.1 X.2.1 txd_ck_8 (Or.inr rfl) rfl hL (fun ls hL => ?_)
    show W p l e _ s m args below meth c s.heap [] 0 0 _ (F0 m 9 ls [])
    exact W.vret X.1 X.2.1 hret (fun t ht _ => ⟨rfl, ht⟩) (fun z hz => by cases hz) txd_ck_9 hlk
  rcases hod.2.2.2.2.2.1 with hZ | ⟨t, hZ⟩
  · exact go _ (Or.inl rfl) hZ
  · exact go _ (Or.inr ⟨t, rfl⟩) hZ
theorem tx_l1c (hq : am_st[j]? = some q) {x : Int32} (h0 : ¬ x < 0) (h1 : x < Int32.ofNat q.2.2.2.length) (hin : vp_in x q.2.2.2.length) (hval : ((q.2.2.2.getD x.toNatClampNeg 0 &&& 255).toUInt32 % 65536).toInt32 = q.2.2.2.getD x.toNatClampNeg 0) (hnar : narrow .char (.int (q.2.2.2.getD x.toNatClampNeg 0)) = .int (q.2.2.2.getD x.toNatClampNeg 0)) : Met l yJ1_charAt_3b067 (tx_ws yJ1_charAt_3b067 cJ1_charAt_3b067 2 (some .char)) { frames := 2, cells := 0, slots := 0, locals := 43 } (tx_Pc A ad [.ref (ad (1000000200 + j)), .int x]) (tx_Qc (some (.int (q.2.2.2.getD x.toNatClampNeg 0)))) 0 0 (fun _ => False) := by
  refine tx_of (by decide +kernel) (Nat.le_of_ble_eq_true rfl) ?_
  intro p e s m args below meth c ls X hml hL hod hret hlk
  obtain ⟨k1, k2, k3, k4, k5⟩ := hod.2.2.2.1 j q hq
  generalize hvv : ad (1000000200 + j) = vv at *
  have hL : lv_has ls 2 (am_lo tx_id [(0, .ref vv), (1, .int x)]) := hL
  refine am_s0_ok (ad := tx_id) (st := []) (lo := [(0, .ref vv), (1, .int x)]) (nL := 2) (i := .iload_n 1) (len := 1) (u := (1, [(0, .ref vv), (1, .int x)], [.int x])) X.1 X.2.1 txd_l1c_0 (Or.inr rfl) rfl hL (fun ls hL => ?_)
  show W p l e _ s m args below meth c s.heap [] 0 0 _ (F0 m 1 ls [.int x])
  refine am_s0_ok (ad := tx_id) (st := [.int x]) (lo := [(0, .ref vv), (1, .int x)]) (nL := 2) (i := .aload_n 0) (len := 1) (u := (2, [(0, .ref vv), (1, .int x)], [.ref vv, .int x])) X.1 X.2.1 txd_l1c_1 (Or.inr rfl) rfl hL (fun ls hL => ?_)
  show W p l e _ s m args below meth c s.heap [] 0 0 _ (F0 m 2 ls [.ref vv, .int x])
  refine va_tlen (rest := [.int x]) X.1 X.2.1 k5 va_S.rf rfl txd_l1c_2 ?_
  show W p l e _ s m args below meth c s.heap [] 0 0 _ (F0 m 3 ls [.int (Int32.ofNat q.2.2.2.length), .int x])
  refine tx_callS (nA := 2) (As := [.int x, .int (Int32.ofNat q.2.2.2.length)]) (rest := []) (idx := 9) (v := none) X hml hL.1 va_S.rf hod (tx_ck (l := l) h0 h1) ⟨rfl, rfl⟩ tx_m_ck tx_i_ck tx_i0 tx_c_ck rfl (by decide +kernel) ⟨by decide, by decide⟩ (Nat.le_of_ble_eq_true rfl) (Nat.le_refl _) (Nat.le_refl _) txd_l1c_3 ?_
  show W p l e _ s m args below meth c s.heap [] 0 0 _ (F0 m 6 ls [])
  refine am_s0_ok (ad := tx_id) (st := []) (lo := [(0, .ref vv), (1, .int x)]) (nL := 2) (i := .aload_n 0) (len := 1) (u := (7, [(0, .ref vv), (1, .int x)], [.ref vv])) X.1 X.2.1 txd_l1c_6 (Or.inr rfl) rfl hL (fun ls hL => ?_)
  show W p l e _ s m args below meth c s.heap [] 0 0 _ (F0 m 7 ls [.ref vv])
  refine am_s0_ok (ad := tx_id) (st := [.ref vv]) (lo := [(0, .ref vv), (1, .int x)]) (nL := 2) (i := .iload_n 1) (len := 1) (u := (8, [(0, .ref vv), (1, .int x)], [.int x, .ref vv])) X.1 X.2.1 txd_l1c_7 (Or.inr rfl) rfl hL (fun ls hL => ?_)
  show W p l e _ s m args below meth c s.heap [] 0 0 _ (F0 m 8 ls [.int x, .ref vv])
  refine va_tb (rest := []) X.1 X.2.1 k5 va_S.rf hin rfl txd_l1c_8 ?_
  show W p l e _ s m args below meth c s.heap [] 0 0 _ (F0 m 9 ls [.int (q.2.2.2.getD x.toNatClampNeg 0)])
  refine am_s0_ok (ad := tx_id) (st := [.int (q.2.2.2.getD x.toNatClampNeg 0)]) (lo := [(0, .ref vv), (1, .int x)]) (nL := 2) (i := .sipush 255) (len := 3) (u := (12, [(0, .ref vv), (1, .int x)], [.int 255, .int (q.2.2.2.getD x.toNatClampNeg 0)])) X.1 X.2.1 txd_l1c_9 (Or.inr rfl) rfl hL (fun ls hL => ?_)
  show W p l e _ s m args below meth c s.heap [] 0 0 _ (F0 m 12 ls [.int 255, .int (q.2.2.2.getD x.toNatClampNeg 0)])
  refine am_s0_ok (ad := tx_id) (st := [.int 255, .int (q.2.2.2.getD x.toNatClampNeg 0)]) (lo := [(0, .ref vv), (1, .int x)]) (nL := 2) (i := .iand) (len := 1) (u := (13, [(0, .ref vv), (1, .int x)], [.int (q.2.2.2.getD x.toNatClampNeg 0 &&& 255)])) X.1 X.2.1 txd_l1c_12 (Or.inr rfl) rfl hL (fun ls hL => ?_)
  show W p l e _ s m args below meth c s.heap [] 0 0 _ (F0 m 13 ls [.int (q.2.2.2.getD x.toNatClampNeg 0 &&& 255)])
  refine am_s0_ok (ad := tx_id) (st := [.int (q.2.2.2.getD x.toNatClampNeg 0 &&& 255)]) (lo := [(0, .ref vv), (1, .int x)]) (nL := 2) (i := .i2c) (len := 1) (u := (14, [(0, .ref vv), (1, .int x)], [.int ((q.2.2.2.getD x.toNatClampNeg 0 &&& 255).toUInt32 % 65536).toInt32])) X.1 X.2.1 txd_l1c_13 (Or.inr rfl) rfl hL (fun ls hL => ?_)
  show W p l e _ s m args below meth c s.heap [] 0 0 _ (F0 m 14 ls [.int ((q.2.2.2.getD x.toNatClampNeg 0 &&& 255).toUInt32 % 65536).toInt32])
  rw [hval]
  exact W.zret X.1 X.2.1 hret hnar (fun t ht _ => ⟨rfl, ht⟩) (fun z hz => by cases hz) txd_l1c_14 hlk
theorem tx_chr (hq : am_st[j]? = some q) {x : Int32} (h0 : ¬ x < 0) (h1 : x < Int32.ofNat q.2.2.2.length) (hin : vp_in x q.2.2.2.length) (hval : ((q.2.2.2.getD x.toNatClampNeg 0 &&& 255).toUInt32 % 65536).toInt32 = q.2.2.2.getD x.toNatClampNeg 0) (hnar : narrow .char (.int (q.2.2.2.getD x.toNatClampNeg 0)) = .int (q.2.2.2.getD x.toNatClampNeg 0)) : Met l yJ0_charAt_5068e (tx_ws yJ0_charAt_5068e cJ0_charAt_5068e 2 (some .char)) { frames := 3, cells := 0, slots := 0, locals := 64 } (tx_Pc A ad [.ref (ad (1000000100 + j)), .int x]) (tx_Qc (some (.int (q.2.2.2.getD x.toNatClampNeg 0)))) 0 0 (fun _ => False) := by
  refine tx_of (by decide +kernel) (Nat.le_of_ble_eq_true rfl) ?_
  intro p e s m args below meth c ls X hml hL hod hret hlk
  obtain ⟨k1, k2, k3, k4, k5⟩ := hod.2.2.2.1 j q hq
  have hlat := tx_latin (l := l) (A := A) (ad := ad) hq
  have hl1 := tx_l1c (l := l) (A := A) (ad := ad) hq h0 h1 hin hval hnar
  generalize ad (1000000200 + j) = vv at *
  generalize ad (1000000100 + j) = a at *
  have hL : lv_has ls 2 (am_lo tx_id [(0, .ref a), (1, .int x)]) := hL
  refine am_s0_ok (ad := tx_id) (st := []) (lo := [(0, .ref a), (1, .int x)]) (nL := 2) (i := .aload_n 0) (len := 1) (u := (1, [(0, .ref a), (1, .int x)], [.ref a])) X.1 X.2.1 txd_chr_0 (Or.inr rfl) rfl hL (fun ls hL => ?_)
  show W p l e _ s m args below meth c s.heap [] 0 0 _ (F0 m 1 ls [.ref a])
  refine tx_callV (nA := 0) (As := []) (rest := []) (idx := 492) (v := some (.int 1)) X hml hL.1 va_S.rf hod k2 hlat ⟨rfl, rfl⟩ rfl tx_m_lat tx_i_lat tx_s_lat tx_c_lat rfl (by decide +kernel) ⟨by decide, by decide⟩ (Nat.le_of_ble_eq_true rfl) (Nat.le_refl _) (Nat.le_refl _) txd_chr_1 ?_
  show W p l e _ s m args below meth c s.heap [] 0 0 _ (F0 m 4 ls [.int 1])
  refine am_s0_ok (ad := tx_id) (st := [.int 1]) (lo := [(0, .ref a), (1, .int x)]) (nL := 2) (i := .ifCond .eq 12) (len := 3) (u := (7, [(0, .ref a), (1, .int x)], [])) X.1 X.2.1 txd_chr_4 (Or.inr rfl) rfl hL (fun ls hL => ?_)
  show W p l e _ s m args below meth c s.heap [] 0 0 _ (F0 m 7 ls [])
  refine am_s0_ok (ad := tx_id) (st := []) (lo := [(0, .ref a), (1, .int x)]) (nL := 2) (i := .aload_n 0) (len := 1) (u := (8, [(0, .ref a), (1, .int x)], [.ref a])) X.1 X.2.1 txd_chr_7 (Or.inr rfl) rfl hL (fun ls hL => ?_)
  show W p l e _ s m args below meth c s.heap [] 0 0 _ (F0 m 8 ls [.ref a])
  refine vk_getf (rest := []) X.1 X.2.1 k4 va_S.rf X.2.2.1 (X.2.2.2 _ (am_gd_in tx_f_va rfl)) (fun _ h => h) txd_chr_8 ?_
  show W p l e _ s m args below meth c s.heap [] 0 0 _ (F0 m 11 ls [.ref vv])
  refine am_s0_ok (ad := tx_id) (st := [.ref vv]) (lo := [(0, .ref a), (1, .int x)]) (nL := 2) (i := .iload_n 1) (len := 1) (u := (12, [(0, .ref a), (1, .int x)], [.int x, .ref vv])) X.1 X.2.1 txd_chr_11 (Or.inr rfl) rfl hL (fun ls hL => ?_)
  show W p l e _ s m args below meth c s.heap [] 0 0 _ (F0 m 12 ls [.int x, .ref vv])
  refine tx_callS (nA := 2) (As := [.ref vv, .int x]) (rest := []) (idx := 495) (v := some (.int (q.2.2.2.getD x.toNatClampNeg 0))) X hml hL.1 va_S.rf hod hl1 ⟨rfl, rfl⟩ tx_m_l1c tx_i_l1c tx_i1 tx_c_l1c rfl (by decide +kernel) ⟨by decide, by decide⟩ (Nat.le_of_ble_eq_true rfl) (Nat.le_refl _) (Nat.le_refl _) txd_chr_12 ?_
  show W p l e _ s m args below meth c s.heap [] 0 0 _ (F0 m 15 ls [.int (q.2.2.2.getD x.toNatClampNeg 0)])
  exact W.zret X.1 X.2.1 hret hnar (fun t ht _ => ⟨rfl, ht⟩) (fun z hz => by cases hz) txd_chr_15 hlk
end TXM
def tx_vok (q : String × Nat × String × List Int32) : Bool := Nat.blt q.2.2.2.length 1000 && q.2.2.2.all (fun v => decide (((v &&& 255).toUInt32 % 65536).toInt32 = v) && decide (narrow .char (.int v) = .int v))
theorem tx_vok_all : am_st.all tx_vok = true := by decide +kernel
section AMTY
variable {p : Program} {l : Launch} {e : Env} {R : Room} {s : State} {m : MethodId} {args : Array Value} {below : List Frame} {meth : Method} {c : Code} {H : Heap} {locs : List Loc} {cells slots : Nat} {Q : State → Prop}
variable {cc : ByteArray} {pc nL own idx j : Nat} {ls : Array Slot} {ad : Nat → Nat} {A : Nat → Prop} {q : String × Nat × String × List Int32} {r : List Value}
theorem am_txtL (X : am_X cc (am_cn own) p s m args c) (hml : c.maxLocals = nL) (hsz : ls.size = nL) (hfr : 5 ≤ R.frames) (hlo : 145 ≤ R.locals) (hrc : cells ≤ R.cells) (hrs : slots ≤ R.slots) (hS : va_S A s.heap H locs) (hod : am_Od A ad s s.heap) (hq : am_st[j]? = some q) (hlk : Cond.methodLink (am_cn own) idx yJ0_length_8abf5 ∈ lw_tbl) (hd : decode cc pc = .ok (.invokevirtual idx, 3)) (hw : (r.map fun v => v.category).sum ≤ 8)
    (k : W p l e R s m args below meth c H locs cells slots Q (F0 m (pc + 3) ls (.int (Int32.ofNat q.2.2.2.length) :: r.map (am_v ad)))) : W p l e R s m args below meth c H locs cells slots Q (F0 m pc ls (.ref (ad (1000000100 + j)) :: r.map (am_v ad))) := by
  obtain ⟨k1, k2, -⟩ := hod.2.2.2.1 j q hq
  exact tx_callV (nA := 0) (As := []) (rest := r.map (am_v ad)) (v := some (.int (Int32.ofNat q.2.2.2.length))) ⟨X.1, X.2.1, X.2.2.1, X.2.2.2.1⟩ hml hsz hS hod k2 (tx_length (l := l) hq) ⟨rfl, rfl⟩ rfl hlk tx_i_len tx_s_len tx_c_len rfl (by decide +kernel) ⟨by show 1 + 1 ≤ R.frames; omega, by show 8 + (1 + 11) + 20 ≤ R.locals; omega⟩ (am_wt hw) hrc hrs hd k
theorem am_txtC (X : am_X cc (am_cn own) p s m args c) (hml : c.maxLocals = nL) (hsz : ls.size = nL) (hfr : 5 ≤ R.frames) (hlo : 145 ≤ R.locals) (hrc : cells ≤ R.cells) (hrs : slots ≤ R.slots) (hS : va_S A s.heap H locs) (hod : am_Od A ad s s.heap) (hq : am_st[j]? = some q) (hlk : Cond.methodLink (am_cn own) idx yJ0_charAt_5068e ∈ lw_tbl) (hd : decode cc pc = .ok (.invokevirtual idx, 3)) (hw : (r.map fun v => v.category).sum ≤ 8) {i : Int32} (hi : am_in i q.2.2.2.length = true)
    (k : W p l e R s m args below meth c H locs cells slots Q (F0 m (pc + 3) ls (.int (q.2.2.2.getD i.toNatClampNeg 0) :: r.map (am_v ad)))) : W p l e R s m args below meth c H locs cells slots Q (F0 m pc ls (.int i :: .ref (ad (1000000100 + j)) :: r.map (am_v ad))) := by
  obtain ⟨k1, k2, -⟩ := hod.2.2.2.1 j q hq
  have hv := List.all_eq_true.mp tx_vok_all q (List.mem_of_getElem? hq)
  obtain ⟨hv1, hv2⟩ := am_b2 hv
  have hv1 := Nat.blt_eq.mp hv1
  have hin := am_in_ok2 hi
  have h0 : ¬ i < 0 := fun z => hin (Or.inl z)
  obtain ⟨t, ht, rfl⟩ := nI_of h0
  have hlt : (nI t).toNatClampNeg < q.2.2.2.length := Nat.not_le.mp fun z => hin (Or.inr z)
  have htl : t < q.2.2.2.length := by rw [nI_clamp ht] at hlt; exact hlt
  have h1 : nI t < Int32.ofNat q.2.2.2.length := nI_lt htl (by omega)
  have hm : q.2.2.2.getD (nI t).toNatClampNeg 0 ∈ q.2.2.2 := by
    rw [List.getD_eq_getElem?_getD, List.getElem?_eq_getElem hlt]
    exact List.getElem_mem hlt
  obtain ⟨w1, w2⟩ := am_b2 (List.all_eq_true.mp hv2 _ hm)
  exact tx_callV (nA := 1) (As := [.int (nI t)]) (rest := r.map (am_v ad)) (v := some (.int (q.2.2.2.getD (nI t).toNatClampNeg 0))) ⟨X.1, X.2.1, X.2.2.1, X.2.2.2.1⟩ hml hsz hS hod k2 (tx_chr (l := l) hq h0 h1 hin (of_decide_eq_true w1) (of_decide_eq_true w2)) ⟨rfl, rfl⟩ rfl hlk tx_i_chr tx_s_chr tx_c_chr rfl (by decide +kernel) ⟨by show 3 + 1 ≤ R.frames; omega, by show 8 + (2 + 11) + 64 ≤ R.locals; omega⟩ (am_wt hw) hrc hrs hd k
end AMTY
end
