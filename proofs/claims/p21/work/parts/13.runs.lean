/-! HOW A CALL GOES, by its kind -/
theorem am_good_all : ∀ w ∈ am_gd, w ∈ am_gd ∧ ((w.onTables && w.keeps) = true ∨ ∃ ty, w = .arrayClass ty) := fun _ hw => ⟨hw, good_of_word (List.mem_filter.mp hw).2⟩
theorem am_goodC {c0 : Cond} (h : c0 ∈ am_gd) : GoodIn am_gd (c0 :: am_gd) := fun w hw => am_good_all w ((List.mem_cons.mp hw).elim (fun e => e ▸ h) id)
theorem am_goodL {ws : List Cond} {us : List Cond} (h : ∀ w ∈ us, w ∈ am_gd) (h2 : GoodIn am_gd ws) : GoodIn am_gd (us ++ ws) := fun w hw => (List.mem_append.mp hw).elim (fun q => am_good_all w (h w q)) (h2 w)
/-- a method's facts, out of its row -/
theorem am_mok_spec {M : am_M} (h : am_mok M) : Cond.code M.2.2.2.1 M.2.1 M.1.2.1 M.2.2.1 ∈ am_gd ∧ Cond.initialized M.2.2.2.1.cls ∈ am_gd ∧ plainName M.2.2.2.1.cls = true ∧ (M.2.2.2.1.cls ≠ "java/lang/invoke/MethodHandle" ∧ M.2.2.2.1.cls ≠ "java/lang/invoke/VarHandle" ∧ (parseMethodDescriptor M.2.2.2.1.desc).map (fun d => d.parameters.length) = some M.2.2.2.2) := ⟨am_gd_in h.1 rfl, am_gd_in h.2.1 rfl, h.2.2.1, h.2.2.2⟩
section AMU
variable {p : Program} {l : Launch} {e : Env} {R : Room} {s : State} {m : MethodId} {args : Array Value} {below : List Frame} {meth : Method} {c : Code} {H : Heap} {locs : List Loc} {cells slots : Nat}
variable {cc : ByteArray} {own : Nat} {pc nL : Nat} {ls : Array Slot} {ad : Nat → Nat} {D : va_G} {cy : Nat → ClassId} {A : Nat → Prop} {h : am_H}
variable {rm : Room} {Qc : Array Value → State → Outcome → State → Prop} {mc ms : Nat} {As rest : List Value} {M : am_M} {idx mi kd : Nat}
abbrev am_ws (M : am_M) : List Cond := Cond.code M.2.2.2.1 M.2.1 M.1.2.1 M.2.2.1 :: am_gd
theorem am_wt {rest : List Value} (hw : (rest.map fun v => v.category).sum ≤ 8) : ((rest.map (am_v ad)).map fun v => v.category).sum ≤ 8 := by
  rw [List.map_map]
  have : ((fun v => Value.category v) ∘ am_v ad) = fun v => v.category := by funext v; exact am_v_cat ad v
  rw [this]; exact hw
theorem am_runV (X : am_X cc (am_cn own) p s m args c) (hml : c.maxLocals = nL) (r : am_R D cy A ad h s H locs) (hod : am_Od A ad s s.heap) {o ci : Nat} (hM' : am_tab[mi]? = some M) (hok : am_vtok (am_cn own) (idx, ci, mi, kd)) (ho : o < h.1) (hci : (h.2.2.2 o).1 = ci) (hn : As.length = M.2.2.2.2)
    (hM : Met l M.2.2.2.1 (am_ws M) rm (am_Pc D cy A ad h (.ref o :: As)) Qc mc ms A) (hrm : rm.cells = mc ∧ rm.slots = ms) (hR : rm.frames + 1 ≤ R.frames ∧ 8 + (M.1.2.1 + 11) + rm.locals ≤ R.locals) (hsize : ls.size = nL) (hw : (rest.map fun v => v.category).sum ≤ 8) (hd : decode cc pc = .ok (.invokevirtual idx, 3)) (hf : cells + mc ≤ R.cells ∧ slots + ms ≤ R.slots) :
    CallRun p l e R s m args below meth c H locs cells slots mc ms (F0 m pc ls ((As.reverse ++ .ref o :: rest).map (am_v ad))) (rest.map (am_v ad)) (Qc ((Value.ref o :: As).map (am_v ad)).toArray) A := by
  obtain ⟨M2, hM2, hlt, hmo, hin, hk⟩ := hok
  cases Option.some.inj (hM2.symm.trans hM')
  obtain ⟨m1, m2, m3, m4⟩ := am_mok_spec hmo
  have hts := X.2.2.2.1
  obtain ⟨q, hq⟩ : ∃ q, am_cl[ci]? = some q := by
    have : ci < am_cl.length := hlt
    exact ⟨_, List.getElem?_eq_getElem this⟩
  have hkn : am_kn ci = q.1 := by unfold am_kn; rw [hq]
  have hl : ci < 20 := Nat.lt_trans hlt (by decide)
  have hrecv : ∃ cellB : Cell, H[ad o]? = some cellB ∧ cellB.vm.isStatics = false ∧ s.vm.findClass (am_kn ci) = some cellB.cls := by
    rw [hkn]
    exact va_recv r.1 r.2.1 hq (q0 := o) (by rw [am_wl_at ho, am_E_ob hci hl])
  have hst : (As.reverse ++ .ref o :: rest).map (am_v ad) = (As.map (am_v ad)).reverse ++ Value.ref (ad o) :: rest.map (am_v ad) := by
    rw [List.map_append, List.map_reverse]; rfl
  rw [hst]
  have hn' : (As.map (am_v ad)).length = M.2.2.2.2 := by rw [List.length_map]; exact hn
  split at hk
  · obtain ⟨k1, k2, k3⟩ := hk
    have k2 : M.2.2.2.1.cls = am_kn ci := k2
    have hG : GoodIn am_gd (wsV (am_cn own) idx (am_kn ci) M.2.2.2.1 (am_ws M)) := by
      refine am_goodL ?_ (am_goodC m1)
      intro w hw
      simp only [List.mem_cons, List.not_mem_nil, or_false] at hw
      rcases hw with rfl | rfl | rfl | rfl
      · exact am_gd_in k1 rfl
      · exact am_gd_in hin rfl
      · exact am_gd_in k3 rfl
      · rw [← k2]; exact m2
    exact (va_runV ⟨X.1, X.2.1, hml, X.2.2.1, hts⟩ hM (cwV M.2.2.2.2 hts hG rfl hrm.1 hrm.2 ⟨k2, m4⟩ hR) ⟨am_blind, hrecv, am_pre X r hod (.ref o :: As)⟩ rfl hn' hsize rfl (lv_room (am_wt hw)) hd hf).run
  · obtain ⟨k1, k2, k3⟩ := hk
    have hG : GoodIn am_gd (va_wsU (am_cn own) idx (am_kn ci) M.2.2.2.1.cls ⟨am_kn ci, M.2.2.2.1.name, M.2.2.2.1.desc⟩ M.2.2.2.1 (am_ws M)) := by
      refine am_goodL ?_ (am_goodC m1)
      intro w hw
      simp only [List.mem_cons, List.not_mem_nil, or_false] at hw
      rcases hw with rfl | rfl | rfl | rfl | rfl
      · exact am_gd_in k1 rfl
      · exact am_gd_in k2 rfl
      · exact am_gd_in k3 rfl
      · exact am_gd_in hin rfl
      · exact m2
    exact (va_runU ⟨X.1, X.2.1, hml, X.2.2.1, hts⟩ hM (va_cwU M.2.2.2.2 hts hG rfl hrm.1 hrm.2 rfl m4 hR) ⟨am_blind, hrecv, am_pre X r hod (.ref o :: As)⟩ rfl hn' hsize rfl (lv_room (am_wt hw)) hd hf).run
  · obtain ⟨k1, k2, k3, k4⟩ := hk
    have hG : GoodIn am_gd (va_wsU (am_cn own) idx (am_kn ci) "ArchiveShelf$Archive" ⟨"ArchiveShelf$Archive", M.2.2.2.1.name, M.2.2.2.1.desc⟩ M.2.2.2.1 (am_ws M)) := by
      refine am_goodL ?_ (am_goodC m1)
      intro w hw
      simp only [List.mem_cons, List.not_mem_nil, or_false] at hw
      rcases hw with rfl | rfl | rfl | rfl | rfl
      · exact am_gd_in k1 rfl
      · exact am_gd_in k2 rfl
      · exact am_gd_in k3 rfl
      · exact am_gd_in hin rfl
      · exact m2
    exact (va_runU ⟨X.1, X.2.1, hml, X.2.2.1, hts⟩ hM (va_cwA M.2.2.2.2 hts hG rfl hrm.1 hrm.2 (va_Nw.of rfl (X.2.2.2.2 _ (List.mem_filter.mpr ⟨k4, rfl⟩))) ⟨by decide, by decide, m4.2.2⟩ hR) ⟨am_blind, hrecv, am_pre X r hod (.ref o :: As)⟩ rfl hn' hsize rfl (lv_room (am_wt hw)) hd hf).run
  · cases hk
theorem am_runS (X : am_X cc (am_cn own) p s m args c) (hml : c.maxLocals = nL) (r : am_R D cy A ad h s H locs) (hod : am_Od A ad s s.heap) (hM' : am_tab[mi]? = some M) (hok : am_sstok (am_cn own) (idx, mi, kd)) (hn : As.length = M.2.2.2.2)
    (hM : Met l M.2.2.2.1 (am_ws M) rm (am_Pc D cy A ad h As) Qc mc ms A) (hrm : rm.cells = mc ∧ rm.slots = ms) (hR : rm.frames + 1 ≤ R.frames ∧ 8 + (M.1.2.1 + 11) + rm.locals ≤ R.locals) (hsize : ls.size = nL) (hw : (rest.map fun v => v.category).sum ≤ 8) (hd : decode cc pc = .ok (.invokestatic idx, 3)) (hf : cells + mc ≤ R.cells ∧ slots + ms ≤ R.slots) :
    CallRun p l e R s m args below meth c H locs cells slots mc ms (F0 m pc ls ((As.reverse ++ rest).map (am_v ad))) (rest.map (am_v ad)) (Qc (As.map (am_v ad)).toArray) A := by
  obtain ⟨M2, hM2, hmo, hin, hk⟩ := hok
  cases Option.some.inj (hM2.symm.trans hM')
  obtain ⟨m1, m2, m3, m4⟩ := am_mok_spec hmo
  have hts := X.2.2.2.1
  have hst : (As.reverse ++ rest).map (am_v ad) = (As.map (am_v ad)).reverse ++ rest.map (am_v ad) := by
    rw [List.map_append, List.map_reverse]
  rw [hst]
  have hn' : (As.map (am_v ad)).length = M.2.2.2.2 := by rw [List.length_map]; exact hn
  split at hk
  · have hG : GoodIn am_gd (va_wsS (am_cn own) idx M.2.2.2.1 (am_ws M)) := by
      refine am_goodL ?_ (am_goodC m1)
      intro w hw
      simp only [List.mem_cons, List.not_mem_nil, or_false] at hw
      rcases hw with rfl | rfl | rfl
      · exact am_gd_in hk rfl
      · exact am_gd_in hin rfl
      · exact m2
    exact (va_runS ⟨X.1, X.2.1, hml, X.2.2.1, hts⟩ hM (va_cwS M.2.2.2.2 hts hG rfl hrm.1 hrm.2 m4 hR) ⟨am_blind, am_pre X r hod As⟩ rfl hn' hsize rfl (lv_room (am_wt hw)) hd hf).run
  · exact (va_runSN ⟨X.1, X.2.1, hml, X.2.2.1, hts⟩ hM ⟨va_cnB M.2.2.2.2 hts (am_goodC m1) rfl hrm.1 hrm.2 (va_Nw.of rfl (X.2.2.2.2 _ (List.mem_filter.mpr ⟨hk, rfl⟩))) (hts _ m2) m4 hR, hts _ (am_gd_in hin rfl), trivial⟩ ⟨am_blind, am_pre X r hod As⟩ rfl hn' hsize rfl (lv_room (am_wt hw)) hd hf).run
theorem am_runI (X : am_X cc (am_cn own) p s m args c) (hml : c.maxLocals = nL) (r : am_R D cy A ad h s H locs) (hod : am_Od A ad s s.heap) {o : Nat} (hM' : am_tab[mi]? = some M) (hok : am_sptok (am_cn own) (idx, mi, kd)) (hn : As.length = M.2.2.2.2)
    (hM : Met l M.2.2.2.1 (am_ws M) rm (am_Pc D cy A ad h (.ref o :: As)) Qc mc ms A) (hrm : rm.cells = mc ∧ rm.slots = ms) (hR : rm.frames + 1 ≤ R.frames ∧ 8 + (M.1.2.1 + 11) + rm.locals ≤ R.locals) (hsize : ls.size = nL) (hw : (rest.map fun v => v.category).sum ≤ 8) (hd : decode cc pc = .ok (.invokespecial idx, 3)) (hf : cells + mc ≤ R.cells ∧ slots + ms ≤ R.slots) :
    CallRun p l e R s m args below meth c H locs cells slots mc ms (F0 m pc ls ((As.reverse ++ .ref o :: rest).map (am_v ad))) (rest.map (am_v ad)) (Qc ((Value.ref o :: As).map (am_v ad)).toArray) A := by
  obtain ⟨M2, hM2, hmo, hin, hnm, hk⟩ := hok
  cases Option.some.inj (hM2.symm.trans hM')
  obtain ⟨m1, m2, m3, m4⟩ := am_mok_spec hmo
  obtain ⟨hnm, hret⟩ := hnm
  have hts := X.2.2.2.1
  have hst : (As.reverse ++ .ref o :: rest).map (am_v ad) = (As.map (am_v ad)).reverse ++ Value.ref (ad o) :: rest.map (am_v ad) := by
    rw [List.map_append, List.map_reverse]; rfl
  rw [hst]
  have hn' : (As.map (am_v ad)).length = M.2.2.2.2 := by rw [List.length_map]; exact hn
  have hwse : am_ws M = Cond.code M.2.2.2.1 M.2.1 M.1.2.1 none :: am_gd := by unfold am_ws; rw [hret]
  rw [hret] at m1
  rw [hwse] at hM
  split at hk
  · exact (va_runI ⟨X.1, X.2.1, hml, X.2.2.1, hts⟩ hM (cwI M.2.2.2.2 hts (am_goodC m1) rfl hrm.1 hrm.2 (hts _ m2) (hts _ (am_gd_in hk rfl)) (hts _ (am_gd_in hin rfl)) hnm m4 hR) ⟨am_blind, am_pre X r hod (.ref o :: As)⟩ rfl hn' hsize rfl (lv_room (am_wt hw)) hd hf).run
  · exact (va_runIN ⟨X.1, X.2.1, hml, X.2.2.1, hts⟩ hM ⟨va_cnB M.2.2.2.2 hts (am_goodC m1) rfl hrm.1 hrm.2 (va_Nw.of rfl (X.2.2.2.2 _ (List.mem_filter.mpr ⟨hk, rfl⟩))) (hts _ m2) m4 hR, hnm, hts _ (am_gd_in hin rfl)⟩ ⟨am_blind, am_pre X r hod (.ref o :: As)⟩ rfl hn' hsize rfl (lv_room (am_wt hw)) hd hf).run
end AMU
