/-! TEXTS: their length and their characters, by the JDK's own code -/
def tx_Pc (A : Nat → Prop) (ad : Nat → Nat) (av : List Value) : Array Value → State → Prop := fun v U => v = av.toArray ∧ am_Od A ad U U.heap
def tx_Qc (v : Option Value) : Array Value → State → Outcome → State → Prop := fun _ st o t => o = .returned v ∧ t.heap = st.heap
theorem tx_same {A : Nat → Prop} {ad : Nat → Nat} {s U : State} (hvm : s.vm = U.vm) (hh : s.heap = U.heap) (h : am_Od A ad s s.heap) : am_Od A ad U U.heap := by
  have hW : s.WarmedH U.vm := by rw [← hvm]; exact State.WarmedH.refl s
  rw [← hh]
  exact h.go hW (fun _ _ _ => rfl)
theorem tx_blind {A : Nat → Prop} {ad : Nat → Nat} {av : List Value} : FrameBlind (tx_Pc A ad av) := fun a U g mk q => ⟨q.1, tx_same (s := U) (U := U.calling g mk a) rfl rfl q.2⟩
def tx_X (cc : ByteArray) (own : String) (p : Program) (s : State) (m : MethodId) (args : Array Value) (c : Code) : Prop := p.tables.exec = Jvm.exec ∧ c.code = cc ∧ s.vm.findClass own = some m.cls ∧ ∀ w ∈ am_gd, w.before args s = true
abbrev tx_ws (y : MethodName) (cc : ByteArray) (maxL : Nat) (ret : Option FieldType) : List Cond := Cond.code y cc maxL ret :: am_gd
theorem tx_of {l : Launch} {y : MethodName} {cc : ByteArray} {maxL : Nat} {ret : Option FieldType} {A : Nat → Prop} {ad : Nat → Nat} {av : List Value} {v : Option Value} {rm : Room} (hpl : plainName y.cls = true) (hla : (lg_sl av).length ≤ maxL)
    (body : ∀ (p : Program) (e : Env) (s : State) (m : MethodId) (args : Array Value) (below : List Frame) (meth : Method) (c : Code) (ls : Array Slot), tx_X cc y.cls p s m args c → c.maxLocals = maxL → lv_has ls maxL (lv_args 0 av) → am_Od A ad s s.heap → meth.sig.returnType = ret → meth.locks = false → W p l e rm s m args below meth c s.heap [] 0 0 (MQ below (tx_Qc v) args s 0 0 (fun _ => False)) (F0 m 0 ls [])) :
    Met l y (tx_ws y cc maxL ret) rm (tx_Pc A ad av) (tx_Qc v) 0 0 (fun _ => False) := by
  refine Met.ofW (cc := cc) (maxL := maxL) (ret := ret) hpl rfl ?_
  intro p e s m args below meth c s₁ B hml hv
  obtain ⟨rfl, hod⟩ := hv
  have hts := atoms_spec (ws := tx_ws y cc maxL ret) B.pre
  have hown : s.vm.findClass y.cls = some m.cls := findClass_of_methodNamed B.named
  have hle := lv_entry av (n := maxL) hla
  rw [lg_entry_eq]
  generalize (lg_sl av ++ List.replicate (maxL - (lg_sl av).length) Slot.unset).toArray = ls at hle ⊢
  exact body p e s m _ below meth c ls ⟨B.exec, B.bytes, hown, fun w hw => hts w (List.mem_cons_of_mem _ hw)⟩ hml hle hod B.returns B.notSynchronized
section AMTX
variable {p : Program} {l : Launch} {e : Env} {R : Room} {s : State} {m : MethodId} {args : Array Value} {below : List Frame} {meth : Method} {c : Code} {H : Heap} {locs : List Loc} {cells slots : Nat} {Q : State → Prop}
variable {cc : ByteArray} {pc nL own idx j : Nat} {ls : Array Slot} {ad : Nat → Nat} {A : Nat → Prop} {q : String × Nat × String × List Int32} {r : List Value}
/-- a call that changes nothing -/
theorem tx_pure {st0 rest : List Value} {v : Option Value} (hr : CallRun p l e R s m args below meth c H locs cells slots 0 0 (F0 m pc ls st0) rest (fun st o t => o = .returned v ∧ t.heap = st.heap) (fun _ => False)) (kk : W p l e R s m args below meth c H locs cells slots Q (F0 m (pc + 3) ls (v.toList ++ rest))) : W p l e R s m args below meth c H locs cells slots Q (F0 m pc ls st0) := by
  intro T hT X
  obtain ⟨v', st₀, t, T', L, h0, X', hL, e1, hq, st⟩ := hr T hT X
  obtain ⟨hq1, hq2⟩ := hq
  have hv := Outcome.returned.inj hq1
  subst hv
  have hLn : L = [] := by
    cases L with
    | nil => rfl
    | cons z zs => exact (hL z List.mem_cons_self).elim
  subst hLn
  rw [List.append_nil] at X'
  obtain ⟨t2, a1, b1⟩ := kk T' (by rw [e1, hq2, h0]) X'
  exact ⟨t2, st t2 a1, b1⟩
theorem tx_callV {o : String} {y : MethodName} {bytes : ByteArray} {maxL a nA : Nat} {ret : Option FieldType} {As rest : List Value} {v : Option Value} {rm : Room} (X : tx_X cc o p s m args c) (hml : c.maxLocals = nL) (hsz : ls.size = nL) (hS : va_S A s.heap H locs) (hod : am_Od A ad s s.heap) (hO : va_O "java/lang/String" a A s s.heap) (hM : Met l y (tx_ws y bytes maxL ret) rm (tx_Pc A ad (.ref a :: As)) (tx_Qc v) 0 0 (fun _ => False)) (hrm : rm.cells = 0 ∧ rm.slots = 0) (hy : y.cls = "java/lang/String") (w1 : Cond.methodLink o idx y ∈ lw_tbl) (w2 : Cond.instanceMethod y ∈ lw_tbl) (w3 : Cond.selects "java/lang/String" y y ∈ lw_tbl) (w4 : Cond.code y bytes maxL ret ∈ lw_tbl) (hnA : As.length = nA) (hn : (parseMethodDescriptor y.desc).map (fun d => d.parameters.length) = some nA) (hR : rm.frames + 1 ≤ R.frames ∧ 8 + (maxL + 11) + rm.locals ≤ R.locals) (hw : (rest.map fun v => v.category).sum ≤ 8) (hrc : cells ≤ R.cells) (hrs : slots ≤ R.slots) (hd : decode cc pc = .ok (.invokevirtual idx, 3))
    (kk : W p l e R s m args below meth c H locs cells slots Q (F0 m (pc + 3) ls (v.toList ++ rest))) : W p l e R s m args below meth c H locs cells slots Q (F0 m pc ls (As.reverse ++ .ref a :: rest)) := by
  have hG : GoodIn am_gd (wsV o idx "java/lang/String" y (tx_ws y bytes maxL ret)) := by
    refine am_goodL ?_ (am_goodC (am_gd_in w4 rfl))
    intro w hw
    simp only [List.mem_cons, List.not_mem_nil, or_false] at hw
    rcases hw with rfl | rfl | rfl | rfl
    · exact am_gd_in w1 rfl
    · exact am_gd_in w2 rfl
    · exact am_gd_in w3 rfl
    · exact am_gd_in tx_i0 rfl
  obtain ⟨cell, h1, h2, h3, h4⟩ := hO
  have hrecv : ∃ cellB : Cell, H[a]? = some cellB ∧ cellB.vm.isStatics = false ∧ s.vm.findClass "java/lang/String" = some cellB.cls := ⟨cell, by rw [hS.2.1 a (Array.getElem?_eq_some_iff.mp h1).1 h4]; exact h1, h2, h3⟩
  refine tx_pure (v := v) ((va_runV (As := As) (rest := rest) (g := F0 m pc ls (As.reverse ++ .ref a :: rest)) (p := p) (e := e) (below := below) (meth := meth) (locs := locs) (cells := cells) (slots := slots) ⟨X.1, X.2.1, hml, X.2.2.1, X.2.2.2⟩ hM (cwV nA X.2.2.2 hG rfl hrm.1 hrm.2 ⟨hy, by rw [hy]; decide, by rw [hy]; decide, hn⟩ hR) ⟨tx_blind, hrecv, fun U hU hW => ⟨rfl, ?_⟩⟩ rfl hnA hsz rfl (lv_room hw) hd ⟨by omega, by omega⟩).run) kk
  rw [hU]
  exact hod.go hW hS.2.1
theorem tx_callS {o : String} {y : MethodName} {bytes : ByteArray} {maxL nA : Nat} {ret : Option FieldType} {As rest : List Value} {v : Option Value} {rm : Room} (X : tx_X cc o p s m args c) (hml : c.maxLocals = nL) (hsz : ls.size = nL) (hS : va_S A s.heap H locs) (hod : am_Od A ad s s.heap) (hM : Met l y (tx_ws y bytes maxL ret) rm (tx_Pc A ad As) (tx_Qc v) 0 0 (fun _ => False)) (hrm : rm.cells = 0 ∧ rm.slots = 0) (w1 : Cond.methodLink o idx y ∈ lw_tbl) (w2 : Cond.static y ∈ lw_tbl) (w3 : Cond.initialized y.cls ∈ lw_tbl) (w4 : Cond.code y bytes maxL ret ∈ lw_tbl) (hnA : As.length = nA) (hn : y.cls ≠ "java/lang/invoke/MethodHandle" ∧ y.cls ≠ "java/lang/invoke/VarHandle" ∧ (parseMethodDescriptor y.desc).map (fun d => d.parameters.length) = some nA) (hR : rm.frames + 1 ≤ R.frames ∧ 8 + (maxL + 11) + rm.locals ≤ R.locals) (hw : (rest.map fun v => v.category).sum ≤ 8) (hrc : cells ≤ R.cells) (hrs : slots ≤ R.slots) (hd : decode cc pc = .ok (.invokestatic idx, 3))
    (kk : W p l e R s m args below meth c H locs cells slots Q (F0 m (pc + 3) ls (v.toList ++ rest))) : W p l e R s m args below meth c H locs cells slots Q (F0 m pc ls (As.reverse ++ rest)) := by
  have hG : GoodIn am_gd (va_wsS o idx y (tx_ws y bytes maxL ret)) := by
    refine am_goodL ?_ (am_goodC (am_gd_in w4 rfl))
    intro w hw
    simp only [List.mem_cons, List.not_mem_nil, or_false] at hw
    rcases hw with rfl | rfl | rfl
    · exact am_gd_in w1 rfl
    · exact am_gd_in w2 rfl
    · exact am_gd_in w3 rfl
  refine tx_pure (v := v) ((va_runS (As := As) (rest := rest) (g := F0 m pc ls (As.reverse ++ rest)) (p := p) (e := e) (below := below) (meth := meth) (locs := locs) (cells := cells) (slots := slots) ⟨X.1, X.2.1, hml, X.2.2.1, X.2.2.2⟩ hM (va_cwS nA X.2.2.2 hG rfl hrm.1 hrm.2 hn hR) ⟨tx_blind, fun U hU hW => ⟨rfl, ?_⟩⟩ rfl hnA hsz rfl (lv_room hw) hd ⟨by omega, by omega⟩).run) kk
  rw [hU]
  exact hod.go hW hS.2.1
end AMTX
theorem txd_cod_0 : decode cJ0_coder_7d493 0 = .ok (.getstatic 38, 3) := by decide +kernel
theorem txd_cod_3 : decode cJ0_coder_7d493 3 = .ok (.ifCond .eq 10, 3) := by decide +kernel
theorem txd_cod_6 : decode cJ0_coder_7d493 6 = .ok (.aload_n 0, 1) := by decide +kernel
theorem txd_cod_7 : decode cJ0_coder_7d493 7 = .ok (.getfield 15, 3) := by decide +kernel
theorem txd_cod_10 : decode cJ0_coder_7d493 10 = .ok (.goto 4, 3) := by decide +kernel
theorem txd_cod_14 : decode cJ0_coder_7d493 14 = .ok (.ireturn, 1) := by decide +kernel
theorem txd_lat_0 : decode cJ0_isLatin1_aae02 0 = .ok (.getstatic 38, 3) := by decide +kernel
theorem txd_lat_3 : decode cJ0_isLatin1_aae02 3 = .ok (.ifCond .eq 14, 3) := by decide +kernel
theorem txd_lat_6 : decode cJ0_isLatin1_aae02 6 = .ok (.aload_n 0, 1) := by decide +kernel
theorem txd_lat_7 : decode cJ0_isLatin1_aae02 7 = .ok (.getfield 15, 3) := by decide +kernel
theorem txd_lat_10 : decode cJ0_isLatin1_aae02 10 = .ok (.ifCond .ne 7, 3) := by decide +kernel
theorem txd_lat_13 : decode cJ0_isLatin1_aae02 13 = .ok (.iconst 1, 1) := by decide +kernel
theorem txd_lat_14 : decode cJ0_isLatin1_aae02 14 = .ok (.goto 4, 3) := by decide +kernel
theorem txd_lat_18 : decode cJ0_isLatin1_aae02 18 = .ok (.ireturn, 1) := by decide +kernel
theorem txd_len_0 : decode cJ0_length_8abf5 0 = .ok (.aload_n 0, 1) := by decide +kernel
theorem txd_len_1 : decode cJ0_length_8abf5 1 = .ok (.getfield 9, 3) := by decide +kernel
theorem txd_len_4 : decode cJ0_length_8abf5 4 = .ok (.arraylength, 1) := by decide +kernel
theorem txd_len_5 : decode cJ0_length_8abf5 5 = .ok (.aload_n 0, 1) := by decide +kernel
theorem txd_len_6 : decode cJ0_length_8abf5 6 = .ok (.invokevirtual 335, 3) := by decide +kernel
theorem txd_len_9 : decode cJ0_length_8abf5 9 = .ok (.ishr, 1) := by decide +kernel
theorem txd_len_10 : decode cJ0_length_8abf5 10 = .ok (.ireturn, 1) := by decide +kernel
theorem txd_pk_0 : decode cJ3_checkIndex_8e157 0 = .ok (.iload_n 0, 1) := by decide +kernel
theorem txd_pk_1 : decode cJ3_checkIndex_8e157 1 = .ok (.ifCond .lt 8, 3) := by decide +kernel
theorem txd_pk_4 : decode cJ3_checkIndex_8e157 4 = .ok (.iload_n 0, 1) := by decide +kernel
theorem txd_pk_5 : decode cJ3_checkIndex_8e157 5 = .ok (.iload_n 1, 1) := by decide +kernel
theorem txd_pk_6 : decode cJ3_checkIndex_8e157 6 = .ok (.if_icmp .lt 10, 3) := by decide +kernel
theorem txd_pk_16 : decode cJ3_checkIndex_8e157 16 = .ok (.iload_n 0, 1) := by decide +kernel
theorem txd_pk_17 : decode cJ3_checkIndex_8e157 17 = .ok (.ireturn, 1) := by decide +kernel
theorem txd_ck_0 : decode cJ0_checkIndex_df160 0 = .ok (.iload_n 0, 1) := by decide +kernel
theorem txd_ck_1 : decode cJ0_checkIndex_df160 1 = .ok (.iload_n 1, 1) := by decide +kernel
theorem txd_ck_2 : decode cJ0_checkIndex_df160 2 = .ok (.getstatic 1053, 3) := by decide +kernel
theorem txd_ck_5 : decode cJ0_checkIndex_df160 5 = .ok (.invokestatic 1059, 3) := by decide +kernel
theorem txd_ck_8 : decode cJ0_checkIndex_df160 8 = .ok (.pop, 1) := by decide +kernel
theorem txd_ck_9 : decode cJ0_checkIndex_df160 9 = .ok (.return_, 1) := by decide +kernel
theorem txd_l1c_0 : decode cJ1_charAt_3b067 0 = .ok (.iload_n 1, 1) := by decide +kernel
theorem txd_l1c_1 : decode cJ1_charAt_3b067 1 = .ok (.aload_n 0, 1) := by decide +kernel
theorem txd_l1c_2 : decode cJ1_charAt_3b067 2 = .ok (.arraylength, 1) := by decide +kernel
theorem txd_l1c_3 : decode cJ1_charAt_3b067 3 = .ok (.invokestatic 9, 3) := by decide +kernel
theorem txd_l1c_6 : decode cJ1_charAt_3b067 6 = .ok (.aload_n 0, 1) := by decide +kernel
theorem txd_l1c_7 : decode cJ1_charAt_3b067 7 = .ok (.iload_n 1, 1) := by decide +kernel
theorem txd_l1c_8 : decode cJ1_charAt_3b067 8 = .ok (.baload, 1) := by decide +kernel
theorem txd_l1c_9 : decode cJ1_charAt_3b067 9 = .ok (.sipush 255, 3) := by decide +kernel
theorem txd_l1c_12 : decode cJ1_charAt_3b067 12 = .ok (.iand, 1) := by decide +kernel
theorem txd_l1c_13 : decode cJ1_charAt_3b067 13 = .ok (.i2c, 1) := by decide +kernel
theorem txd_l1c_14 : decode cJ1_charAt_3b067 14 = .ok (.ireturn, 1) := by decide +kernel
theorem txd_chr_0 : decode cJ0_charAt_5068e 0 = .ok (.aload_n 0, 1) := by decide +kernel
theorem txd_chr_1 : decode cJ0_charAt_5068e 1 = .ok (.invokevirtual 492, 3) := by decide +kernel
theorem txd_chr_4 : decode cJ0_charAt_5068e 4 = .ok (.ifCond .eq 12, 3) := by decide +kernel
theorem txd_chr_7 : decode cJ0_charAt_5068e 7 = .ok (.aload_n 0, 1) := by decide +kernel
theorem txd_chr_8 : decode cJ0_charAt_5068e 8 = .ok (.getfield 9, 3) := by decide +kernel
theorem txd_chr_11 : decode cJ0_charAt_5068e 11 = .ok (.iload_n 1, 1) := by decide +kernel
theorem txd_chr_12 : decode cJ0_charAt_5068e 12 = .ok (.invokestatic 495, 3) := by decide +kernel
theorem txd_chr_15 : decode cJ0_charAt_5068e 15 = .ok (.ireturn, 1) := by decide +kernel
section TXM
variable {l : Launch} {A : Nat → Prop} {ad : Nat → Nat} {j : Nat} {q : String × Nat × String × List Int32}
abbrev tx_id : Nat → Nat := fun k => k
theorem tx_coder (hq : am_st[j]? = some q) : Met l yJ0_coder_7d493 (tx_ws yJ0_coder_7d493 cJ0_coder_7d493 1 (some .byte)) { frames := 0, cells := 0, slots := 0, locals := 0 } (tx_Pc A ad [.ref (ad (1000000100 + j))]) (tx_Qc (some (.int 0))) 0 0 (fun _ => False) := by
  refine tx_of (by decide +kernel) (Nat.le_of_ble_eq_true rfl) ?_
  intro p e s m args below meth c ls X hml hL hod hret hlk
  obtain ⟨k1, k2, k3, k4, k5⟩ := hod.2.2.2.1 j q hq
  generalize ad (1000000100 + j) = a at *
  have hL : lv_has ls 1 (am_lo tx_id [(0, .ref a)]) := hL
  refine va_gets (rest := []) X.1 X.2.1 hod.2.2.2.2.1 va_S.rf X.2.2.1 (X.2.2.2 _ (am_gd_in tx_f_cs rfl)) (fun _ h => h) txd_cod_0 ?_
  show W p l e _ s m args below meth c s.heap [] 0 0 _ (F0 m 3 ls [.int 1])
  refine am_s0_ok (ad := tx_id) (st := [.int 1]) (lo := [(0, .ref a)]) (nL := 1) (i := .ifCond .eq 10) (len := 3) (u := (6, [(0, .ref a)], [])) X.1 X.2.1 txd_cod_3 (Or.inr rfl) rfl hL (fun ls hL => ?_)
  show W p l e _ s m args below meth c s.heap [] 0 0 _ (F0 m 6 ls [])
  refine am_s0_ok (ad := tx_id) (st := []) (lo := [(0, .ref a)]) (nL := 1) (i := .aload_n 0) (len := 1) (u := (7, [(0, .ref a)], [.ref a])) X.1 X.2.1 txd_cod_6 (Or.inr rfl) rfl hL (fun ls hL => ?_)
  show W p l e _ s m args below meth c s.heap [] 0 0 _ (F0 m 7 ls [.ref a])
  refine vk_getf (rest := []) X.1 X.2.1 k3 va_S.rf X.2.2.1 (X.2.2.2 _ (am_gd_in tx_f_co rfl)) (fun _ h => h) txd_cod_7 ?_
  show W p l e _ s m args below meth c s.heap [] 0 0 _ (F0 m 10 ls [.int 0])
  refine am_s0_ok (ad := tx_id) (st := [.int 0]) (lo := [(0, .ref a)]) (nL := 1) (i := .goto 4) (len := 3) (u := (14, [(0, .ref a)], [.int 0])) X.1 X.2.1 txd_cod_10 (Or.inr rfl) rfl hL (fun ls hL => ?_)
  show W p l e _ s m args below meth c s.heap [] 0 0 _ (F0 m 14 ls [.int 0])
  exact W.zret X.1 X.2.1 hret (by decide +kernel) (fun t ht _ => ⟨rfl, ht⟩) (fun z hz => by cases hz) txd_cod_14 hlk
theorem tx_latin (hq : am_st[j]? = some q) : Met l yJ0_isLatin1_aae02 (tx_ws yJ0_isLatin1_aae02 cJ0_isLatin1_aae02 1 (some .boolean)) { frames := 0, cells := 0, slots := 0, locals := 0 } (tx_Pc A ad [.ref (ad (1000000100 + j))]) (tx_Qc (some (.int 1))) 0 0 (fun _ => False) := by
  refine tx_of (by decide +kernel) (Nat.le_of_ble_eq_true rfl) ?_
  intro p e s m args below meth c ls X hml hL hod hret hlk
  obtain ⟨k1, k2, k3, k4, k5⟩ := hod.2.2.2.1 j q hq
  generalize ad (1000000100 + j) = a at *
  have hL : lv_has ls 1 (am_lo tx_id [(0, .ref a)]) := hL
  refine va_gets (rest := []) X.1 X.2.1 hod.2.2.2.2.1 va_S.rf X.2.2.1 (X.2.2.2 _ (am_gd_in tx_f_cs rfl)) (fun _ h => h) txd_lat_0 ?_
  show W p l e _ s m args below meth c s.heap [] 0 0 _ (F0 m 3 ls [.int 1])
  refine am_s0_ok (ad := tx_id) (st := [.int 1]) (lo := [(0, .ref a)]) (nL := 1) (i := .ifCond .eq 14) (len := 3) (u := (6, [(0, .ref a)], [])) X.1 X.2.1 txd_lat_3 (Or.inr rfl) rfl hL (fun ls hL => ?_)
  show W p l e _ s m args below meth c s.heap [] 0 0 _ (F0 m 6 ls [])
  refine am_s0_ok (ad := tx_id) (st := []) (lo := [(0, .ref a)]) (nL := 1) (i := .aload_n 0) (len := 1) (u := (7, [(0, .ref a)], [.ref a])) X.1 X.2.1 txd_lat_6 (Or.inr rfl) rfl hL (fun ls hL => ?_)
  show W p l e _ s m args below meth c s.heap [] 0 0 _ (F0 m 7 ls [.ref a])
  refine vk_getf (rest := []) X.1 X.2.1 k3 va_S.rf X.2.2.1 (X.2.2.2 _ (am_gd_in tx_f_co rfl)) (fun _ h => h) txd_lat_7 ?_
  show W p l e _ s m args below meth c s.heap [] 0 0 _ (F0 m 10 ls [.int 0])
  refine am_s0_ok (ad := tx_id) (st := [.int 0]) (lo := [(0, .ref a)]) (nL := 1) (i := .ifCond .ne 7) (len := 3) (u := (13, [(0, .ref a)], [])) X.1 X.2.1 txd_lat_10 (Or.inr rfl) rfl hL (fun ls hL => ?_)
  show W p l e _ s m args below meth c s.heap [] 0 0 _ (F0 m 13 ls [])
  refine am_s0_ok (ad := tx_id) (st := []) (lo := [(0, .ref a)]) (nL := 1) (i := .iconst 1) (len := 1) (u := (14, [(0, .ref a)], [.int 1])) X.1 X.2.1 txd_lat_13 (Or.inr rfl) rfl hL (fun ls hL => ?_)
  show W p l e _ s m args below meth c s.heap [] 0 0 _ (F0 m 14 ls [.int 1])
  refine am_s0_ok (ad := tx_id) (st := [.int 1]) (lo := [(0, .ref a)]) (nL := 1) (i := .goto 4) (len := 3) (u := (18, [(0, .ref a)], [.int 1])) X.1 X.2.1 txd_lat_14 (Or.inr rfl) rfl hL (fun ls hL => ?_)
  show W p l e _ s m args below meth c s.heap [] 0 0 _ (F0 m 18 ls [.int 1])
  exact W.zret X.1 X.2.1 hret (by decide +kernel) (fun t ht _ => ⟨rfl, ht⟩) (fun z hz => by cases hz) txd_lat_18 hlk
theorem tx_length (hq : am_st[j]? = some q) : Met l yJ0_length_8abf5 (tx_ws yJ0_length_8abf5 cJ0_length_8abf5 1 (some .int)) { frames := 1, cells := 0, slots := 0, locals := 20 } (tx_Pc A ad [.ref (ad (1000000100 + j))]) (tx_Qc (some (.int (Int32.ofNat q.2.2.2.length)))) 0 0 (fun _ => False) := by
  refine tx_of (by decide +kernel) (Nat.le_of_ble_eq_true rfl) ?_
  intro p e s m args below meth c ls X hml hL hod hret hlk
  obtain ⟨k1, k2, k3, k4, k5⟩ := hod.2.2.2.1 j q hq
  have hcod := tx_coder (l := l) (A := A) (ad := ad) hq
  generalize ad (1000000200 + j) = vv at *
  generalize ad (1000000100 + j) = a at *
  have hL : lv_has ls 1 (am_lo tx_id [(0, .ref a)]) := hL
  refine am_s0_ok (ad := tx_id) (st := []) (lo := [(0, .ref a)]) (nL := 1) (i := .aload_n 0) (len := 1) (u := (1, [(0, .ref a)], [.ref a])) X.1 X.2.1 txd_len_0 (Or.inr rfl) rfl hL (fun ls hL => ?_)
  show W p l e _ s m args below meth c s.heap [] 0 0 _ (F0 m 1 ls [.ref a])
  refine vk_getf (rest := []) X.1 X.2.1 k4 va_S.rf X.2.2.1 (X.2.2.2 _ (am_gd_in tx_f_va rfl)) (fun _ h => h) txd_len_1 ?_
  show W p l e _ s m args below meth c s.heap [] 0 0 _ (F0 m 4 ls [.ref vv])
  refine va_tlen (rest := []) X.1 X.2.1 k5 va_S.rf rfl txd_len_4 ?_
  show W p l e _ s m args below meth c s.heap [] 0 0 _ (F0 m 5 ls [.int (Int32.ofNat q.2.2.2.length)])
  refine am_s0_ok (ad := tx_id) (st := [.int (Int32.ofNat q.2.2.2.length)]) (lo := [(0, .ref a)]) (nL := 1) (i := .aload_n 0) (len := 1) (u := (6, [(0, .ref a)], [.ref a, .int (Int32.ofNat q.2.2.2.length)])) X.1 X.2.1 txd_len_5 (Or.inr rfl) rfl hL (fun ls hL => ?_)
  show W p l e _ s m args below meth c s.heap [] 0 0 _ (F0 m 6 ls [.ref a, .int (Int32.ofNat q.2.2.2.length)])
  refine tx_callV (nA := 0) (As := []) (rest := [.int (Int32.ofNat q.2.2.2.length)]) (idx := 335) (v := some (.int 0)) X hml hL.1 va_S.rf hod k2 hcod ⟨rfl, rfl⟩ rfl tx_m_cod tx_i_cod tx_s_cod tx_c_cod rfl (by decide +kernel) ⟨by decide, by decide⟩ (Nat.le_of_ble_eq_true rfl) (Nat.le_refl _) (Nat.le_refl _) txd_len_6 ?_
  show W p l e _ s m args below meth c s.heap [] 0 0 _ (F0 m 9 ls [.int 0, .int (Int32.ofNat q.2.2.2.length)])
  refine am_s0_ok (ad := tx_id) (st := [.int 0, .int (Int32.ofNat q.2.2.2.length)]) (lo := [(0, .ref a)]) (nL := 1) (i := .ishr) (len := 1) (u := (10, [(0, .ref a)], [.int (Int32.ofNat q.2.2.2.length >>> ((0 : Int32) &&& 31))])) X.1 X.2.1 txd_len_9 (Or.inr rfl) rfl hL (fun ls hL => ?_)
  show W p l e _ s m args below meth c s.heap [] 0 0 _ (F0 m 10 ls [.int (Int32.ofNat q.2.2.2.length >>> ((0 : Int32) &&& 31))])
  rw [show Int32.ofNat q.2.2.2.length >>> ((0 : Int32) &&& 31) = Int32.ofNat q.2.2.2.length from by rw [show ((0 : Int32) &&& 31) = 0 from by decide +kernel]; exact Int32.shiftRight_zero]
  exact W.iret X.1 X.2.1 hret (fun t ht _ => ⟨rfl, ht⟩) (fun z hz => by cases hz) txd_len_10 hlk
theorem tx_pk {x n : Int32} {fv : Value} (hfv : fv = .null ∨ ∃ t, fv = .ref t) (h0 : ¬ x < 0) (h1 : x < n) : Met l yJ3_checkIndex_8e157 (tx_ws yJ3_checkIndex_8e157 cJ3_checkIndex_8e157 3 (some .int)) { frames := 0, cells := 0, slots := 0, locals := 0 } (tx_Pc A ad [.int x, .int n, fv]) (tx_Qc (some (.int x))) 0 0 (fun _ => False) := by
  refine tx_of (by decide +kernel) (by rcases hfv with rfl | ⟨t, rfl⟩ <;> exact Nat.le_of_ble_eq_true rfl) ?_
  intro p e s m args below meth c ls X hml hL hod hret hlk
  have hL : lv_has ls 3 (am_lo tx_id [(0, .int x), (1, .int n), (2, fv)]) := by rcases hfv with rfl | ⟨t, rfl⟩ <;> exact hL
  refine am_s0_ok (ad := tx_id) (st := []) (lo := [(0, .int x), (1, .int n), (2, fv)]) (nL := 3) (i := .iload_n 0) (len := 1) (u := (1, [(0, .int x), (1, .int n), (2, fv)], [.int x])) X.1 X.2.1 txd_pk_0 (Or.inr rfl) rfl hL (fun ls hL => ?_)
  show W p l e _ s m args below meth c s.heap [] 0 0 _ (F0 m 1 ls [.int x])
  refine am_s0_ok (ad := tx_id) (st := [.int x]) (lo := [(0, .int x), (1, .int n), (2, fv)]) (nL := 3) (i := .ifCond .lt 8) (len := 3) (u := (4, [(0, .int x), (1, .int n), (2, fv)], [])) X.1 X.2.1 txd_pk_1 (Or.inr rfl) (by show some (bif am_cc .lt x 0 then 9 else 4, _, _) = _; rw [show am_cc .lt x 0 = false from decide_eq_false h0]; rfl) hL (fun ls hL => ?_)
  show W p l e _ s m args below meth c s.heap [] 0 0 _ (F0 m 4 ls [])
  refine am_s0_ok (ad := tx_id) (st := []) (lo := [(0, .int x), (1, .int n), (2, fv)]) (nL := 3) (i := .iload_n 0) (len := 1) (u := (5, [(0, .int x), (1, .int n), (2, fv)], [.int x])) X.1 X.2.1 txd_pk_4 (Or.inr rfl) rfl hL (fun ls hL => ?_)
  show W p l e _ s m args below meth c s.heap [] 0 0 _ (F0 m 5 ls [.int x])
  refine am_s0_ok (ad := tx_id) (st := [.int x]) (lo := [(0, .int x), (1, .int n), (2, fv)]) (nL := 3) (i := .iload_n 1) (len := 1) (u := (6, [(0, .int x), (1, .int n), (2, fv)], [.int n, .int x])) X.1 X.2.1 txd_pk_5 (Or.inr rfl) rfl hL (fun ls hL => ?_)
  show W p l e _ s m args below meth c s.heap [] 0 0 _ (F0 m 6 ls [.int n, .int x])
  refine am_s0_ok (ad := tx_id) (st := [.int n, .int x]) (lo := [(0, .int x), (1, .int n), (2, fv)]) (nL := 3) (i := .if_icmp .lt 10) (len := 3) (u := (16, [(0, .int x), (1, .int n), (2, fv)], [])) X.1 X.2.1 txd_pk_6 (Or.inr rfl) (by show some (bif am_cc .lt x n then 16 else 9, _, _) = _; rw [show am_cc .lt x n = true from decide_eq_true h1]; rfl) hL (fun ls hL => ?_)
  show W p l e _ s m args below meth c s.heap [] 0 0 _ (F0 m 16 ls [])
  refine am_s0_ok (ad := tx_id) (st := []) (lo := [(0, .int x), (1, .int n), (2, fv)]) (nL := 3) (i := .iload_n 0) (len := 1) (u := (17, [(0, .int x), (1, .int n), (2, fv)], [.int x])) X.1 X.2.1 txd_pk_16 (Or.inr rfl) rfl hL (fun ls hL => ?_)
  show W p l e _ s m args below meth c s.heap [] 0 0 _ (F0 m 17 ls [.int x])
  exact W.iret X.1 X.2.1 hret (fun t ht _ => ⟨rfl, ht⟩) (fun z hz => by cases hz) txd_pk_17 hlk
theorem tx_ck {x n : Int32} (h0 : ¬ x < 0) (h1 : x < n) : Met l yJ0_checkIndex_df160 (tx_ws yJ0_checkIndex_df160 cJ0_checkIndex_df160 2 none) { frames := 1, cells := 0, slots := 0, locals := 22 } (tx_Pc A ad [.int x, .int n]) (tx_Qc none) 0 0 (fun _ => False) := by
  refine tx_of (by decide +kernel) (Nat.le_of_ble_eq_true rfl) ?_
  intro p e s m args below meth c ls X hml hL hod hret hlk
  have hL : lv_has ls 2 (am_lo tx_id [(0, .int x), (1, .int n)]) := hL
  refine am_s0_ok (ad := tx_id) (st := []) (lo := [(0, .int x), (1, .int n)]) (nL := 2) (i := .iload_n 0) (len := 1) (u := (1, [(0, .int x), (1, .int n)], [.int x])) X.1 X.2.1 txd_ck_0 (Or.inr rfl) rfl hL (fun ls hL => ?_)
  show W p l e _ s m args below meth c s.heap [] 0 0 _ (F0 m 1 ls [.int x])
  refine am_s0_ok (ad := tx_id) (st := [.int x]) (lo := [(0, .int x), (1, .int n)]) (nL := 2) (i := .iload_n 1) (len := 1) (u := (2, [(0, .int x), (1, .int n)], [.int n, .int x])) X.1 X.2.1 txd_ck_1 (Or.inr rfl) rfl hL (fun ls hL => ?_)
  show W p l e _ s m args below meth c s.heap [] 0 0 _ (F0 m 2 ls [.int n, .int x])
  have go : ∀ (fv : Value), (fv = .null ∨ ∃ t, fv = .ref t) → va_Z "jdk/internal/util/Preconditions" "SIOOBE_FORMATTER" "Ljava/util/function/BiFunction;" fv A s s.heap → W p l e { frames := 1, cells := 0, slots := 0, locals := 22 } s m args below meth c s.heap [] 0 0 (MQ below (tx_Qc none) args s 0 0 (fun _ => False)) (F0 m 2 ls [.int n, .int x]) := by
    intro fv hfv hZ
    refine va_gets (rest := [.int n, .int x]) X.1 X.2.1 hZ va_S.rf X.2.2.1 (X.2.2.2 _ (am_gd_in tx_f_sf rfl)) (fun _ h => h) txd_ck_2 ?_
    refine tx_callS (nA := 3) (As := [.int x, .int n, fv]) (rest := []) (idx := 1059) (v := some (.int x)) X hml hL.1 va_S.rf hod (tx_pk (l := l) hfv h0 h1) ⟨rfl, rfl⟩ tx_m_pk tx_i_pk tx_i3 tx_c_pk rfl (by decide +kernel) ⟨by decide, by decide⟩ (Nat.le_of_ble_eq_true rfl) (Nat.le_refl _) (Nat.le_refl _) txd_ck_5 ?_
    show W p l e _ s m args below meth c s.heap [] 0 0 _ (F0 m 8 ls [.int x])
    refine am_s0_ok (ad := tx_id) (st := [.int x]) (lo := [(0, .int x), (1, .int n)]) (nL := 2) (i := .pop) (len := 1) (u := (9, [(0, .int x), (1, .int n)], [])) X.1 X.2.1 txd_ck_8 (Or.inr rfl) rfl hL (fun ls hL => ?_)
    show W p l e _ s m args below meth c s.heap [] 0 0 _ (F0 m 9 ls [])
    exact W.vret X.1 X.2.1 hret (fun t ht _ => ⟨rfl, ht⟩) (fun z hz => by cases hz) txd_ck_9 hlk
  rcases hod.2.2.2.2.2.1 with hZ | ⟨t, hZ⟩
  · exact go _ (Or.inl rfl) hZ
  · exact go _ (Or.inr ⟨t, rfl⟩) hZ
theorem tx_l1c (hq : am_st[j]? = some q) {x : Int32} (h0 : ¬ x < 0) (h1 : x < Int32.ofNat q.2.2.2.length) (hin : vp_in x q.2.2.2.length) (hval : ((q.2.2.2.getD x.toNatClampNeg 0 &&& 255).toUInt32 % 65536).toInt32 = q.2.2.2.getD x.toNatClampNeg 0) (hnar : narrow .char (.int (q.2.2.2.getD x.toNatClampNeg 0)) = .int (q.2.2.2.getD x.toNatClampNeg 0)) : Met l yJ1_charAt_3b067 (tx_ws yJ1_charAt_3b067 cJ1_charAt_3b067 2 (some .char)) { frames := 2, cells := 0, slots := 0, locals := 43 } (tx_Pc A ad [.ref (ad (1000000200 + j)), .int x]) (tx_Qc (some (.int (q.2.2.2.getD x.toNatClampNeg 0)))) 0 0 (fun _ => False) := by
  refine tx_of (by decide +kernel) (Nat.le_of_ble_eq_true rfl) ?_
  intro p e s m args below meth c ls X hml hL hod hret hlk
  obtain ⟨k1, k2, k3, k4, k5⟩ := hod.2.2.2.1 j q hq
  generalize hvv : ad (1000000200 + j) = vv at *
  have hL : lv_has ls 2 (am_lo tx_id [(0, .ref vv), (1, .int x)]) := hL
  refine am_s0_ok (ad := tx_id) (st := []) (lo := [(0, .ref vv), (1, .int x)]) (nL := 2) (i := .iload_n 1) (len := 1) (u := (1, [(0, .ref vv), (1, .int x)], [.int x])) X.1 X.2.1 txd_l1c_0 (Or.inr rfl) rfl hL (fun ls hL => ?_)
  show W p l e _ s m args below meth c s.heap [] 0 0 _ (F0 m 1 ls [.int x])
  refine am_s0_ok (ad := tx_id) (st := [.int x]) (lo := [(0, .ref vv), (1, .int x)]) (nL := 2) (i := .aload_n 0) (len := 1) (u := (2, [(0, .ref vv), (1, .int x)], [.ref vv, .int x])) X.1 X.2.1 txd_l1c_1 (Or.inr rfl) rfl hL (fun ls hL => ?_)
  show W p l e _ s m args below meth c s.heap [] 0 0 _ (F0 m 2 ls [.ref vv, .int x])
  refine va_tlen (rest := [.int x]) X.1 X.2.1 k5 va_S.rf rfl txd_l1c_2 ?_
  show W p l e _ s m args below meth c s.heap [] 0 0 _ (F0 m 3 ls [.int (Int32.ofNat q.2.2.2.length), .int x])
  refine tx_callS (nA := 2) (As := [.int x, .int (Int32.ofNat q.2.2.2.length)]) (rest := []) (idx := 9) (v := none) X hml hL.1 va_S.rf hod (tx_ck (l := l) h0 h1) ⟨rfl, rfl⟩ tx_m_ck tx_i_ck tx_i0 tx_c_ck rfl (by decide +kernel) ⟨by decide, by decide⟩ (Nat.le_of_ble_eq_true rfl) (Nat.le_refl _) (Nat.le_refl _) txd_l1c_3 ?_
  show W p l e _ s m args below meth c s.heap [] 0 0 _ (F0 m 6 ls [])
  refine am_s0_ok (ad := tx_id) (st := []) (lo := [(0, .ref vv), (1, .int x)]) (nL := 2) (i := .aload_n 0) (len := 1) (u := (7, [(0, .ref vv), (1, .int x)], [.ref vv])) X.1 X.2.1 txd_l1c_6 (Or.inr rfl) rfl hL (fun ls hL => ?_)
  show W p l e _ s m args below meth c s.heap [] 0 0 _ (F0 m 7 ls [.ref vv])
  refine am_s0_ok (ad := tx_id) (st := [.ref vv]) (lo := [(0, .ref vv), (1, .int x)]) (nL := 2) (i := .iload_n 1) (len := 1) (u := (8, [(0, .ref vv), (1, .int x)], [.int x, .ref vv])) X.1 X.2.1 txd_l1c_7 (Or.inr rfl) rfl hL (fun ls hL => ?_)
  show W p l e _ s m args below meth c s.heap [] 0 0 _ (F0 m 8 ls [.int x, .ref vv])
  refine va_tb (rest := []) X.1 X.2.1 k5 va_S.rf hin rfl txd_l1c_8 ?_
  show W p l e _ s m args below meth c s.heap [] 0 0 _ (F0 m 9 ls [.int (q.2.2.2.getD x.toNatClampNeg 0)])
  refine am_s0_ok (ad := tx_id) (st := [.int (q.2.2.2.getD x.toNatClampNeg 0)]) (lo := [(0, .ref vv), (1, .int x)]) (nL := 2) (i := .sipush 255) (len := 3) (u := (12, [(0, .ref vv), (1, .int x)], [.int 255, .int (q.2.2.2.getD x.toNatClampNeg 0)])) X.1 X.2.1 txd_l1c_9 (Or.inr rfl) rfl hL (fun ls hL => ?_)
  show W p l e _ s m args below meth c s.heap [] 0 0 _ (F0 m 12 ls [.int 255, .int (q.2.2.2.getD x.toNatClampNeg 0)])
  refine am_s0_ok (ad := tx_id) (st := [.int 255, .int (q.2.2.2.getD x.toNatClampNeg 0)]) (lo := [(0, .ref vv), (1, .int x)]) (nL := 2) (i := .iand) (len := 1) (u := (13, [(0, .ref vv), (1, .int x)], [.int (q.2.2.2.getD x.toNatClampNeg 0 &&& 255)])) X.1 X.2.1 txd_l1c_12 (Or.inr rfl) rfl hL (fun ls hL => ?_)
  show W p l e _ s m args below meth c s.heap [] 0 0 _ (F0 m 13 ls [.int (q.2.2.2.getD x.toNatClampNeg 0 &&& 255)])
  refine am_s0_ok (ad := tx_id) (st := [.int (q.2.2.2.getD x.toNatClampNeg 0 &&& 255)]) (lo := [(0, .ref vv), (1, .int x)]) (nL := 2) (i := .i2c) (len := 1) (u := (14, [(0, .ref vv), (1, .int x)], [.int ((q.2.2.2.getD x.toNatClampNeg 0 &&& 255).toUInt32 % 65536).toInt32])) X.1 X.2.1 txd_l1c_13 (Or.inr rfl) rfl hL (fun ls hL => ?_)
  show W p l e _ s m args below meth c s.heap [] 0 0 _ (F0 m 14 ls [.int ((q.2.2.2.getD x.toNatClampNeg 0 &&& 255).toUInt32 % 65536).toInt32])
  rw [hval]
  exact W.zret X.1 X.2.1 hret hnar (fun t ht _ => ⟨rfl, ht⟩) (fun z hz => by cases hz) txd_l1c_14 hlk
theorem tx_chr (hq : am_st[j]? = some q) {x : Int32} (h0 : ¬ x < 0) (h1 : x < Int32.ofNat q.2.2.2.length) (hin : vp_in x q.2.2.2.length) (hval : ((q.2.2.2.getD x.toNatClampNeg 0 &&& 255).toUInt32 % 65536).toInt32 = q.2.2.2.getD x.toNatClampNeg 0) (hnar : narrow .char (.int (q.2.2.2.getD x.toNatClampNeg 0)) = .int (q.2.2.2.getD x.toNatClampNeg 0)) : Met l yJ0_charAt_5068e (tx_ws yJ0_charAt_5068e cJ0_charAt_5068e 2 (some .char)) { frames := 3, cells := 0, slots := 0, locals := 64 } (tx_Pc A ad [.ref (ad (1000000100 + j)), .int x]) (tx_Qc (some (.int (q.2.2.2.getD x.toNatClampNeg 0)))) 0 0 (fun _ => False) := by
  refine tx_of (by decide +kernel) (Nat.le_of_ble_eq_true rfl) ?_
  intro p e s m args below meth c ls X hml hL hod hret hlk
  obtain ⟨k1, k2, k3, k4, k5⟩ := hod.2.2.2.1 j q hq
  have hlat := tx_latin (l := l) (A := A) (ad := ad) hq
  have hl1 := tx_l1c (l := l) (A := A) (ad := ad) hq h0 h1 hin hval hnar
  generalize ad (1000000200 + j) = vv at *
  generalize ad (1000000100 + j) = a at *
  have hL : lv_has ls 2 (am_lo tx_id [(0, .ref a), (1, .int x)]) := hL
  refine am_s0_ok (ad := tx_id) (st := []) (lo := [(0, .ref a), (1, .int x)]) (nL := 2) (i := .aload_n 0) (len := 1) (u := (1, [(0, .ref a), (1, .int x)], [.ref a])) X.1 X.2.1 txd_chr_0 (Or.inr rfl) rfl hL (fun ls hL => ?_)
  show W p l e _ s m args below meth c s.heap [] 0 0 _ (F0 m 1 ls [.ref a])
  refine tx_callV (nA := 0) (As := []) (rest := []) (idx := 492) (v := some (.int 1)) X hml hL.1 va_S.rf hod k2 hlat ⟨rfl, rfl⟩ rfl tx_m_lat tx_i_lat tx_s_lat tx_c_lat rfl (by decide +kernel) ⟨by decide, by decide⟩ (Nat.le_of_ble_eq_true rfl) (Nat.le_refl _) (Nat.le_refl _) txd_chr_1 ?_
  show W p l e _ s m args below meth c s.heap [] 0 0 _ (F0 m 4 ls [.int 1])
  refine am_s0_ok (ad := tx_id) (st := [.int 1]) (lo := [(0, .ref a), (1, .int x)]) (nL := 2) (i := .ifCond .eq 12) (len := 3) (u := (7, [(0, .ref a), (1, .int x)], [])) X.1 X.2.1 txd_chr_4 (Or.inr rfl) rfl hL (fun ls hL => ?_)
  show W p l e _ s m args below meth c s.heap [] 0 0 _ (F0 m 7 ls [])
  refine am_s0_ok (ad := tx_id) (st := []) (lo := [(0, .ref a), (1, .int x)]) (nL := 2) (i := .aload_n 0) (len := 1) (u := (8, [(0, .ref a), (1, .int x)], [.ref a])) X.1 X.2.1 txd_chr_7 (Or.inr rfl) rfl hL (fun ls hL => ?_)
  show W p l e _ s m args below meth c s.heap [] 0 0 _ (F0 m 8 ls [.ref a])
  refine vk_getf (rest := []) X.1 X.2.1 k4 va_S.rf X.2.2.1 (X.2.2.2 _ (am_gd_in tx_f_va rfl)) (fun _ h => h) txd_chr_8 ?_
  show W p l e _ s m args below meth c s.heap [] 0 0 _ (F0 m 11 ls [.ref vv])
  refine am_s0_ok (ad := tx_id) (st := [.ref vv]) (lo := [(0, .ref a), (1, .int x)]) (nL := 2) (i := .iload_n 1) (len := 1) (u := (12, [(0, .ref a), (1, .int x)], [.int x, .ref vv])) X.1 X.2.1 txd_chr_11 (Or.inr rfl) rfl hL (fun ls hL => ?_)
  show W p l e _ s m args below meth c s.heap [] 0 0 _ (F0 m 12 ls [.int x, .ref vv])
  refine tx_callS (nA := 2) (As := [.ref vv, .int x]) (rest := []) (idx := 495) (v := some (.int (q.2.2.2.getD x.toNatClampNeg 0))) X hml hL.1 va_S.rf hod hl1 ⟨rfl, rfl⟩ tx_m_l1c tx_i_l1c tx_i1 tx_c_l1c rfl (by decide +kernel) ⟨by decide, by decide⟩ (Nat.le_of_ble_eq_true rfl) (Nat.le_refl _) (Nat.le_refl _) txd_chr_12 ?_
  show W p l e _ s m args below meth c s.heap [] 0 0 _ (F0 m 15 ls [.int (q.2.2.2.getD x.toNatClampNeg 0)])
  exact W.zret X.1 X.2.1 hret hnar (fun t ht _ => ⟨rfl, ht⟩) (fun z hz => by cases hz) txd_chr_15 hlk
end TXM
def tx_vok (q : String × Nat × String × List Int32) : Bool := Nat.blt q.2.2.2.length 1000 && q.2.2.2.all (fun v => decide (((v &&& 255).toUInt32 % 65536).toInt32 = v) && decide (narrow .char (.int v) = .int v))
theorem tx_vok_all : am_st.all tx_vok = true := by decide +kernel
section AMTY
variable {p : Program} {l : Launch} {e : Env} {R : Room} {s : State} {m : MethodId} {args : Array Value} {below : List Frame} {meth : Method} {c : Code} {H : Heap} {locs : List Loc} {cells slots : Nat} {Q : State → Prop}
variable {cc : ByteArray} {pc nL own idx j : Nat} {ls : Array Slot} {ad : Nat → Nat} {A : Nat → Prop} {q : String × Nat × String × List Int32} {r : List Value}
theorem am_txtL (X : am_X cc (am_cn own) p s m args c) (hml : c.maxLocals = nL) (hsz : ls.size = nL) (hfr : 5 ≤ R.frames) (hlo : 145 ≤ R.locals) (hrc : cells ≤ R.cells) (hrs : slots ≤ R.slots) (hS : va_S A s.heap H locs) (hod : am_Od A ad s s.heap) (hq : am_st[j]? = some q) (hlk : Cond.methodLink (am_cn own) idx yJ0_length_8abf5 ∈ lw_tbl) (hd : decode cc pc = .ok (.invokevirtual idx, 3)) (hw : (r.map fun v => v.category).sum ≤ 8)
    (k : W p l e R s m args below meth c H locs cells slots Q (F0 m (pc + 3) ls (.int (Int32.ofNat q.2.2.2.length) :: r.map (am_v ad)))) : W p l e R s m args below meth c H locs cells slots Q (F0 m pc ls (.ref (ad (1000000100 + j)) :: r.map (am_v ad))) := by
  obtain ⟨k1, k2, -⟩ := hod.2.2.2.1 j q hq
  exact tx_callV (nA := 0) (As := []) (rest := r.map (am_v ad)) (v := some (.int (Int32.ofNat q.2.2.2.length))) ⟨X.1, X.2.1, X.2.2.1, X.2.2.2.1⟩ hml hsz hS hod k2 (tx_length (l := l) hq) ⟨rfl, rfl⟩ rfl hlk tx_i_len tx_s_len tx_c_len rfl (by decide +kernel) ⟨by show 1 + 1 ≤ R.frames; omega, by show 8 + (1 + 11) + 20 ≤ R.locals; omega⟩ (am_wt hw) hrc hrs hd k
theorem am_txtC (X : am_X cc (am_cn own) p s m args c) (hml : c.maxLocals = nL) (hsz : ls.size = nL) (hfr : 5 ≤ R.frames) (hlo : 145 ≤ R.locals) (hrc : cells ≤ R.cells) (hrs : slots ≤ R.slots) (hS : va_S A s.heap H locs) (hod : am_Od A ad s s.heap) (hq : am_st[j]? = some q) (hlk : Cond.methodLink (am_cn own) idx yJ0_charAt_5068e ∈ lw_tbl) (hd : decode cc pc = .ok (.invokevirtual idx, 3)) (hw : (r.map fun v => v.category).sum ≤ 8) {i : Int32} (hi : am_in i q.2.2.2.length = true)
    (k : W p l e R s m args below meth c H locs cells slots Q (F0 m (pc + 3) ls (.int (q.2.2.2.getD i.toNatClampNeg 0) :: r.map (am_v ad)))) : W p l e R s m args below meth c H locs cells slots Q (F0 m pc ls (.int i :: .ref (ad (1000000100 + j)) :: r.map (am_v ad))) := by
  obtain ⟨k1, k2, -⟩ := hod.2.2.2.1 j q hq
  have hv := List.all_eq_true.mp tx_vok_all q (List.mem_of_getElem? hq)
  obtain ⟨hv1, hv2⟩ := am_b2 hv
  have hv1 := Nat.blt_eq.mp hv1
  have hin := am_in_ok2 hi
  have h0 : ¬ i < 0 := fun z => hin (Or.inl z)
  obtain ⟨t, ht, rfl⟩ := nI_of h0
  have hlt : (nI t).toNatClampNeg < q.2.2.2.length := Nat.not_le.mp fun z => hin (Or.inr z)
  have htl : t < q.2.2.2.length := by rw [nI_clamp ht] at hlt; exact hlt
  have h1 : nI t < Int32.ofNat q.2.2.2.length := nI_lt htl (by omega)
  have hm : q.2.2.2.getD (nI t).toNatClampNeg 0 ∈ q.2.2.2 := by
    rw [List.getD_eq_getElem?_getD, List.getElem?_eq_getElem hlt]
    exact List.getElem_mem hlt
  obtain ⟨w1, w2⟩ := am_b2 (List.all_eq_true.mp hv2 _ hm)
  exact tx_callV (nA := 1) (As := [.int (nI t)]) (rest := r.map (am_v ad)) (v := some (.int (q.2.2.2.getD (nI t).toNatClampNeg 0))) ⟨X.1, X.2.1, X.2.2.1, X.2.2.2.1⟩ hml hsz hS hod k2 (tx_chr (l := l) hq h0 h1 hin (of_decide_eq_true w1) (of_decide_eq_true w2)) ⟨rfl, rfl⟩ rfl hlk tx_i_chr tx_s_chr tx_c_chr rfl (by decide +kernel) ⟨by show 3 + 1 ≤ R.frames; omega, by show 8 + (2 + 11) + 64 ≤ R.locals; omega⟩ (am_wt hw) hrc hrs hd k
end AMTY
