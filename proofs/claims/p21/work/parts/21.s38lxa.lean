/-! A HELPER WHOSE CALL THROWS, by roads -/
theorem am_vt13 : (am_vt 13).all (fun e => Nat.beq e.2.2.2 0) = true := by decide +kernel
theorem am_tgtV {own idx : Nat} {st : List Value} {h : am_H} {w : Nat × List Value × List Value} (ht : am_tgt own (.invokevirtual idx) st h = some w) : ∃ (o : Nat) (As rest : List Value) (kd : Nat), st = As.reverse ++ .ref o :: rest ∧ o < h.1 ∧ am_fv (am_vt own) idx (h.2.2.2 o).1 = some (w.1, kd) ∧ w.2.1 = .ref o :: As ∧ w.2.2 = rest := by
  unfold am_tgt at ht
  dsimp only at ht
  split at ht
  · rename_i np hnp
    split at ht
    · rename_i o rest hdr
      obtain ⟨ho, ht⟩ := am_cg ht
      split at ht
      · rename_i u hf
        cases ht
        exact ⟨o, (st.take np).reverse, rest, u.2, by rw [List.reverse_reverse, ← hdr, List.take_append_drop], Nat.blt_eq.mp ho, hf, rfl, rfl⟩
      · cases ht
    · cases ht
  · cases ht
theorem am_metHT2 {l : Launch} {mi pcC idx pc1 hp p2 p3 len1 len2 : Nat} {M M1 : am_M} {hh : List (Nat × Nat × Nat × Nat)} {av : List Value} {lo' lo1 lo2 lo3 : List (Nat × Value)} {st' st1 : List Value} {h h0 h1 : am_H} {w : Nat × List Value × List Value} {cls : String} {i1 i2 : Instr} {kv : Int32} {D : va_G} {cy : Nat → ClassId} {A : Nat → Prop} {ad : Nat → Nat} {mc ms : Nat} (hl : l.stackTraces = false) (hM : am_tab[mi]? = some M) (hpl : plainName M.2.2.2.1.cls = true) (hown : M.1.1 = 13)
    (hG0 : am_G mi 0 (lv_args 0 av) [] h (pcC, lo', st', h0)) (hc : ∀ w ∈ av, am_cv h.1 w) (hla : (lg_sl av).length ≤ M.1.2.1)
    (hcC : M.1.2.2.2.2.2 pcC = some (.invokevirtual idx, 3)) (htg : am_tgt 13 (.invokevirtual idx) st' h0 = some w) (hM1 : am_tab[w.1]? = some M1) (hcan : am_can M M1 (.invokevirtual idx) w = true)
    (hG1 : am_G w.1 0 (lv_args 0 w.2.1) [] h0 (pc1, lo1, st1, h1)) (ht : am_thr M1 pc1 = some cls) (hfr1 : 5 < M1.1.2.2.2.1) (hlo1 : (st1.map fun v => v.category).sum + 82 ≤ M1.1.2.2.2.2.1) (hhd : am_hnd pcC cls hh = some hp)
    (c1 : M.1.2.2.2.2.2 hp = some (i1, len1)) (s1 : am_s0 M.1.2.1 i1 hp [] [.ref 0] = some (p2, lo2, [])) (c2 : M.1.2.2.2.2.2 p2 = some (i2, len2)) (s2 : am_s0 M.1.2.1 i2 p2 lo2 [] = some (p3, lo3, [.int kv])) (c3 : M.1.2.2.2.2.2 p3 = some (.ireturn, 1)) (hret : M.2.2.1 = some .int) (hmc : h1.2.1 - h.2.1 + 1 = mc) (hms : h1.2.2.1 - h.2.2.1 + 6 = ms) :
    Met l M.2.2.2.1 (am_wsH M hh) { frames := M.1.2.2.2.1, cells := mc, slots := ms, locals := M.1.2.2.2.2.1 } (am_PcN D cy A ad h av) (am_Qc D cy A ad h.1 (some (.int kv)) h1) mc ms A := by
  obtain ⟨n, k, hgo⟩ := hG0
  obtain ⟨n1, k1, hgo1⟩ := hG1
  obtain ⟨g01, g02, g03⟩ := am_go_gr hgo
  obtain ⟨g11, g12, g13⟩ := am_go_gr hgo1
  dsimp only at g01 g02 g03 g11 g12 g13
  obtain ⟨o, As, rest, kd, hst, ho, hfv, hw1, hw2⟩ := am_tgtV htg
  obtain ⟨mi1, wA, wR⟩ := w
  dsimp only at hw1 hw2 hfv hM1 hgo1
  subst hw1
  subst hw2
  have hkd : kd = 0 := Nat.eq_of_beq_eq_true (List.all_eq_true.mp am_vt13 _ (am_fv_mem hfv))
  subst hkd
  unfold am_can at hcan
  dsimp only at hcan
  obtain ⟨hcan, c5⟩ := am_b2 hcan
  obtain ⟨hcan, c4⟩ := am_b2 hcan
  obtain ⟨hcan, c3b⟩ := am_b2 hcan
  obtain ⟨c1b, c2b⟩ := am_b2 hcan
  have hroom : M1.1.2.2.2.1 + 1 ≤ M.1.2.2.2.1 ∧ 8 + (M1.1.2.1 + 11) + M1.1.2.2.2.2.1 ≤ M.1.2.2.2.2.1 := ⟨Nat.le_of_ble_eq_true c1b, Nat.le_of_ble_eq_true c2b⟩
  have hw := Nat.le_of_ble_eq_true c3b
  have hla1 := Nat.le_of_ble_eq_true c4
  have hn : As.length = M1.2.2.2.2 := by
    have := Nat.eq_of_beq_eq_true c5
    simp only [List.length_cons, am_ths] at this
    omega
  generalize hci : (h0.2.2.2 o).1 = ci at hfv
  generalize hmc1 : h1.2.1 - h0.2.1 + 1 = mc1
  generalize hms1 : h1.2.2.1 - h0.2.2.1 + 6 = ms1
  obtain ⟨-, hin, hcn⟩ := am_tab_f hM
  have hcode := am_tab_ok M (List.mem_of_getElem? hM)
  refine am_ofWH (cc := M.2.1) (maxL := M.1.2.1) (ret := M.2.2.1) (hh := hh) hpl rfl ?_
  intro p e s m args below meth c s₁ B hml hv
  obtain ⟨⟨rfl, hK, hP, hD, hA, hcl, hnw, hod⟩, hnc⟩ := hv
  have hts := atoms_spec (ws := am_wsH M hh) B.pre
  have htab : c.exceptionTable.toList = tableOf hh := vx_table (x := M.2.2.2.1) B (hts _ List.mem_cons_self)
  have hown1 : s.vm.findClass M.2.2.2.1.cls = some m.cls := findClass_of_methodNamed B.named
  have hnm : meth.name = M.2.2.2.1.name := (name_of_methodNamed B.named B.method).1
  have hle := lv_entry (av.map (am_v ad)) (n := M.1.2.1) (by rw [am_sl_len]; exact hla)
  rw [lg_entry_eq]
  generalize (lg_sl (av.map (am_v ad)) ++ List.replicate (M.1.2.1 - (lg_sl (av.map (am_v ad))).length) Slot.unset).toArray = ls at hle ⊢
  rw [am_args_lo] at hle
  have hX : am_X M.2.1 (am_cn M.1.1) p s m (av.map (am_v ad)).toArray c := ⟨B.exec, B.bytes, by rw [← hcn]; exact hown1, fun w hw => hts w (List.mem_cons_of_mem _ hw), fun w hw => va_Nw.use (am_nw_ot hw) (hnw w hw)⟩
  have O : am_On M p s m (av.map (am_v ad)).toArray meth c { frames := M.1.2.2.2.1, cells := mc, slots := ms, locals := M.1.2.2.2.2.1 } := ⟨hX, hml, fun q => by rw [hnm]; exact hin q, Nat.le_refl _, Nat.le_refl _⟩
  have Be : am_Be M s D cy A ad h s.heap [] (lv_args 0 av) [] ls := ⟨⟨hK, hP, hD, va_S.rf, hA, hcl⟩, hod, hle, ⟨am_args_cl hc, fun v hv => by cases hv⟩⟩
  refine am_go_ok hM O hgo Be (by show 0 + (h0.2.1 - h.2.1) ≤ mc; omega) (by show 0 + (h0.2.2.1 - h.2.2.1) ≤ ms; omega) (fun ad' H' locs' ls' hext B' => ?_)
  dsimp only at B' ⊢
  generalize hcz : 0 + (h0.2.1 - h.2.1) = cz
  generalize hsz : 0 + (h0.2.2.1 - h.2.2.1) = sz
  subst hst
  obtain ⟨r', hod', hL', hfc'⟩ := B'
  -- the call
  have hok := am_vx_all 13 (by decide) _ (am_fv_mem hfv)
  obtain ⟨M2, hM2, hlt, hmo, hinst, q1, q2, q3⟩ := hok
  cases Option.some.inj (hM2.symm.trans hM1)
  obtain ⟨m1, m2, m3, m4⟩ := am_mok_spec hmo
  obtain ⟨q, hq⟩ : ∃ q, am_cl[ci]? = some q := ⟨_, List.getElem?_eq_getElem (show ci < am_cl.length from hlt)⟩
  have hkn : am_kn ci = q.1 := by unfold am_kn; rw [hq]
  have hl2 : ci < 20 := Nat.lt_trans hlt (by decide)
  have hrecv : ∃ cellB : Cell, H'[ad' o]? = some cellB ∧ cellB.vm.isStatics = false ∧ s.vm.findClass (am_kn ci) = some cellB.cls := by
    rw [hkn]
    exact va_recv r'.1 r'.2.1 hq (q0 := o) (by rw [am_wl_at ho, am_E_ob hci hl2])
  have hG : GoodIn am_gd (wsV (am_cn M.1.1) idx (am_kn ci) M1.2.2.2.1 (am_ws M1)) := by
    refine am_goodL ?_ (am_goodC m1)
    intro w hw
    simp only [List.mem_cons, List.not_mem_nil, or_false] at hw
    rcases hw with rfl | rfl | rfl | rfl
    · rw [hown]; exact am_gd_in q1 rfl
    · exact am_gd_in hinst rfl
    · exact am_gd_in q3 rfl
    · rw [← q2]; exact m2
  have hcl1 : ∀ w ∈ (Value.ref o :: As), am_cv h0.1 w := by
    intro w hw
    refine hfc'.2 w ?_
    rcases List.mem_cons.mp hw with rfl | hw
    · exact List.mem_append_right _ List.mem_cons_self
    · exact List.mem_append_left _ (List.mem_reverse.mpr hw)
  have hmet := am_metT (l := l) (D := D) (cy := cy) (A := A) (ad := ad') (Qc := fun _ _ _ _ => False) hl hM1 hmo hgo1 ht hcl1 hla1 hfr1 hlo1 hmc1 hms1
  have hstk : (As.reverse ++ .ref o :: wR).map (am_v ad') = (As.map (am_v ad')).reverse ++ Value.ref (ad' o) :: wR.map (am_v ad') := by
    rw [List.map_append, List.map_reverse]; rfl
  rw [hstk]
  have hn' : (As.map (am_v ad')).length = M1.2.2.2.2 := by rw [List.length_map]; exact hn
  have hrun := vx_runV (g := F0 m pcC ls' ((As.map (am_v ad')).reverse ++ Value.ref (ad' o) :: wR.map (am_v ad'))) (R := { frames := M.1.2.2.2.1, cells := mc, slots := ms, locals := M.1.2.2.2.2.1 }) (p := p) (e := e) (below := below) (meth := meth) (locs := locs') (cells := cz) (slots := sz) ⟨hX.1, hX.2.1, hml, hX.2.2.1, hX.2.2.2.1⟩ hmet (cwV M1.2.2.2.2 hX.2.2.2.1 hG rfl rfl rfl ⟨q2, m4⟩ hroom) ⟨am_blind, hrecv, am_pre hX r' hod' (.ref o :: As)⟩ rfl hn' hL'.1 rfl (lv_room (am_wt hw)) (hcode _ _ hcC).1 ⟨by show cz + mc1 ≤ mc; omega, by show sz + ms1 ≤ ms; omega⟩
  refine am_afterX hrun (fun q st₀ t L E ce h0 hLf hxc hce hcv hcE => ?_)
  obtain ⟨rfl, ad2, hext2, hP2, hD2, hF2, hcl2⟩ := hxc
  obtain ⟨pre, x, suf, t1, t2, t3, t4, t5⟩ := am_hnd_spec hhd
  have hlx : ∀ {a : Nat} {b : String}, (a, b) ∈ am_lx → a ≠ 0 ∧ (Cond.classLink "ArchiveShelfLaw" a b).before (av.map (am_v ad)).toArray s = true ∧ (Cond.castable b b).before (av.map (am_v ad)).toArray s = true ∧ b ∈ am_xs := by
    intro a b hab
    have hz := List.all_eq_true.mp am_lx_all _ hab
    obtain ⟨hz, z4⟩ := am_b2 hz
    obtain ⟨hz, z3⟩ := am_b2 hz
    obtain ⟨z1, z2⟩ := am_b2 hz
    refine ⟨fun h0 => ?_, hX.2.2.2.1 _ (am_gd_in (of_decide_eq_true z2) rfl), hX.2.2.2.2 _ (List.mem_filter.mpr ⟨of_decide_eq_true z3, rfl⟩), List.contains_iff_mem.mp z4⟩
    dsimp only at z1
    rw [h0] at z1
    cases z1
  have ho13 := hX.2.2.1
  rw [hown] at ho13
  obtain ⟨x1, x2, x3, x4⟩ := hlx t4
  refine vx_catch (own := "ArchiveShelfLaw") (name := E) ho13 pre x suf (htab.trans t1) (fun z hz => ?_) t3 x1 x2 x3 hce hcv hcE ?_
  · rcases t2 z hz with hz | ⟨nm, hz, hne⟩
    · exact Or.inl hz
    · obtain ⟨y1, y2, -, y4⟩ := hlx hz
      exact Or.inr ⟨y1, nm, y2, hnc E x4 nm y4 (Ne.symm hne)⟩
  -- behind it
  rw [t5]
  have b1 := hcode _ _ c1
  have b2 := hcode _ _ c2
  have hL0 : lv_has ls' M.1.2.1 (am_lo (fun _ => q) []) := ⟨hL'.1, hL'.2.1, fun z hz => by cases hz⟩
  have hS2 : va_S A s.heap t.heap (locs' ++ L) := by
    obtain ⟨-, -, -, hS, -, -⟩ := r'
    refine ⟨?_, ?_, ?_⟩
    · exact Nat.le_trans hS.1 (by rw [← h0]; exact hF2.1)
    · intro q hq1 hq2
      have := hF2.2 q (by rw [h0]; exact Nat.lt_of_lt_of_le hq1 hS.1) hq2
      rw [this, h0]
      exact hS.2.1 q hq1 hq2
    · intro z hz
      rcases List.mem_append.mp hz with hz | hz
      · exact hS.2.2 z hz
      · exact hLf z hz
  show W p l e _ s m _ below meth c t.heap (locs' ++ L) (cz + mc1) (sz + ms1) _ (F0 m hp ls' (([.ref 0] : List Value).map (am_v (fun _ => q))))
  refine am_s0_ok (ad := fun _ => q) hX.1 hX.2.1 b1.1 b1.2 s1 hL0 (fun ls2 hL2 => ?_)
  refine am_s0_ok (ad := fun _ => q) hX.1 hX.2.1 b2.1 b2.2 s2 hL2 (fun ls3 hL3 => ?_)
  rw [show cz + mc1 = mc from by omega, show sz + ms1 = ms from by omega]
  refine W.iret hX.1 hX.2.1 (B.returns.trans hret) (fun t3 ht3 _ => ?_) hS2.2.2 (hcode _ _ c3).1 B.notSynchronized
  refine ⟨ad2, fun k hk => (hext2 k (hk.imp (fun z => Nat.lt_of_lt_of_le z g01) id)).trans (hext k hk), rfl, by rw [ht3]; exact hP2, hD2, hS2.F ht3, hcl2, fun w hw => by cases hw; trivial⟩
