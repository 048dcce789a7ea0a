/-! THE MACHINE FOLLOWS THE ABSTRACT ONE -/
theorem am_tgt_cl {own : Nat} {i : Instr} {st : List Value} {h : am_H} {w : Nat × List Value × List Value} {n : Nat} (hs : am_tgt own i st h = some w) (hc : ∀ v ∈ st, am_cv n v) : (∀ v ∈ w.2.1, am_cv n v) ∧ ∀ v ∈ w.2.2, am_cv n v := by
  have hT : ∀ k, ∀ v ∈ (st.take k).reverse, am_cv n v := fun k v hv => hc v (List.mem_of_mem_take (List.mem_reverse.mp hv))
  have hD : ∀ k, ∀ v ∈ st.drop k, am_cv n v := fun k v hv => hc v (List.mem_of_mem_drop hv)
  unfold am_tgt at hs
  split at hs
  · split at hs
    · rename_i np _
      split at hs
      · rename_i o rest hdr
        obtain ⟨-, hs⟩ := am_cg hs
        have h2 := hD np
        rw [hdr] at h2
        split at hs
        · cases hs
          exact ⟨am_p1 (am_h1 h2) (hT np), am_t1 h2⟩
        · cases hs
      · cases hs
    · cases hs
  · split at hs
    · split at hs
      · cases hs
        exact ⟨hT _, hD _⟩
      · cases hs
    · cases hs
  · split at hs
    · split at hs
      · rename_i M _
        split at hs
        · rename_i o rest hdr
          have h2 := hD M.2.2.2.2
          rw [hdr] at h2
          cases hs
          exact ⟨am_p1 (am_h1 h2) (hT _), am_t1 h2⟩
        · cases hs
      · cases hs
    · cases hs
  · cases hs
section AMG
variable {p : Program} {l : Launch} {e : Env} {R : Room} {s : State} {m : MethodId} {args : Array Value} {below : List Frame} {meth : Method} {c : Code} {H : Heap} {locs : List Loc} {cells slots : Nat}
variable {cc : ByteArray} {pc nL own : Nat} {ls : Array Slot} {ad : Nat → Nat} {D : va_G} {cy : Nat → ClassId} {A : Nat → Prop} {h : am_H} {st : List Value} {i : Instr} {len : Nat}
variable {rm : Room} {Qc : Array Value → State → Outcome → State → Prop} {mc ms : Nat} {M : am_M} {w : Nat × List Value × List Value}
/-- the call, whatever its kind -/
theorem am_run (X : am_X cc (am_cn own) p s m args c) (hown : own < 17) (hml : c.maxLocals = nL) (r : am_R D cy A ad h s H locs) (hod : am_Od A ad s s.heap) (hM' : am_tab[w.1]? = some M) (ht : am_tgt own i st h = some w) (hlen2 : w.2.1.length = M.2.2.2.2 + am_ths i)
    (hM : am_mok M → Met l M.2.2.2.1 (am_ws M) rm (am_Pc D cy A ad h w.2.1) Qc mc ms A) (hrm : rm.cells = mc ∧ rm.slots = ms) (hR : rm.frames + 1 ≤ R.frames ∧ 8 + (M.1.2.1 + 11) + rm.locals ≤ R.locals) (hsize : ls.size = nL) (hw : (w.2.2.map fun v => v.category).sum ≤ 8) (hd : decode cc pc = .ok (i, len)) (hlen : am_len i = 0 ∨ len = am_len i) (hf : cells + mc ≤ R.cells ∧ slots + ms ≤ R.slots) :
    CallRun p l e R s m args below meth c H locs cells slots mc ms (F0 m pc ls (st.map (am_v ad))) (w.2.2.map (am_v ad)) (Qc (w.2.1.map (am_v ad)).toArray) A := by
  unfold am_tgt at ht
  split at ht
  · replace hlen : len = 3 := by rcases hlen with q | q; exact absurd q (by simp [am_len]); simpa [am_len] using q
    subst hlen
    split at ht
    · rename_i idx np hnp
      split at ht
      · rename_i o rest hdr
        obtain ⟨ho, ht⟩ := am_cg ht
        split at ht
        · rename_i w0 hf0
          cases ht
          have hok := am_vx_all own hown _ (am_fv_mem hf0)
          have hst : st = (st.take np).reverse.reverse ++ .ref o :: rest := by rw [List.reverse_reverse, ← hdr, List.take_append_drop]
          have hn : (st.take np).reverse.length = M.2.2.2.2 := by
            have : (Value.ref o :: (st.take np).reverse).length = M.2.2.2.2 + 1 := hlen2
            simpa using this
          have hmo : am_mok M := by
            obtain ⟨M2, hM2, -, hmo, -⟩ := hok
            cases Option.some.inj (hM2.symm.trans hM')
            exact hmo
          have z := am_runV (e := e) (below := below) (meth := meth) (ls := ls) (rest := rest) X hml r hod hM' hok (Nat.blt_eq.mp ho) rfl hn (hM hmo) hrm hR hsize hw hd hf
          rw [← hst] at z
          exact z
        · cases ht
      · cases ht
    · cases ht
  · replace hlen : len = 3 := by rcases hlen with q | q; exact absurd q (by simp [am_len]); simpa [am_len] using q
    subst hlen
    split at ht
    · rename_i idx w0 hf0
      split at ht
      · rename_i M0 hM0
        cases ht
        cases Option.some.inj (hM0.symm.trans hM')
        have hok := am_sx_all own hown _ (am_fnd_mem hf0)
        have hst : st = (st.take M.2.2.2.2).reverse.reverse ++ st.drop M.2.2.2.2 := by rw [List.reverse_reverse, List.take_append_drop]
        have hmo : am_mok M := by
          obtain ⟨M2, hM2, hmo, -⟩ := hok
          cases Option.some.inj (hM2.symm.trans hM')
          exact hmo
        have z := am_runS (e := e) (below := below) (meth := meth) (ls := ls) (rest := st.drop M.2.2.2.2) X hml r hod hM' hok hlen2 (hM hmo) hrm hR hsize hw hd hf
        rw [← hst] at z
        exact z
      · cases ht
    · cases ht
  · replace hlen : len = 3 := by rcases hlen with q | q; exact absurd q (by simp [am_len]); simpa [am_len] using q
    subst hlen
    split at ht
    · rename_i idx w0 hf0
      split at ht
      · rename_i M0 hM0
        split at ht
        · rename_i o rest hdr
          cases ht
          cases Option.some.inj (hM0.symm.trans hM')
          have hok := am_px_all own hown _ (am_fnd_mem hf0)
          have hst : st = (st.take M.2.2.2.2).reverse.reverse ++ .ref o :: rest := by rw [List.reverse_reverse, ← hdr, List.take_append_drop]
          have hn : (st.take M.2.2.2.2).reverse.length = M.2.2.2.2 := by
            have : (Value.ref o :: (st.take M.2.2.2.2).reverse).length = M.2.2.2.2 + 1 := hlen2
            simpa using this
          have hmo : am_mok M := by
            obtain ⟨M2, hM2, hmo, -⟩ := hok
            cases Option.some.inj (hM2.symm.trans hM')
            exact hmo
          have z := am_runI (e := e) (below := below) (meth := meth) (ls := ls) (rest := rest) X hml r hod hM' hok hn (hM hmo) hrm hR hsize hw hd hf
          rw [← hst] at z
          exact z
        · cases ht
      · cases ht
    · cases ht
  · cases ht
end AMG
set_option maxHeartbeats 4000000 in
theorem am_sim (l : Launch) : ∀ (n mi : Nat) (M : am_M) (pc : Nat) (lo : List (Nat × Value)) (st : List Value) (h : am_H) (v : Option Value) (h' : am_H), am_tab[mi]? = some M → am_exec n mi pc lo st h = some (v, h') → am_Sim l M pc lo st h v h' := by
  intro n
  induction n with
  | zero => intro mi M pc lo st h v h' _ hx; cases hx
  | succ n ih =>
    intro mi M pc lo st h v h' hM hx p e s m args below meth c R H locs cells slots mc ms D cy A ad ad0 n0 ls X hml hret hlk hini hfr hlo r hod hL hfc hn0 had hmc hms hrc hrs
    obtain ⟨hown, -, -⟩ := am_tab_f hM
    unfold am_exec at hx
    rw [hM] at hx
    dsimp only at hx
    split at hx
    · cases hx
    · rename_i x hcode
      obtain ⟨i, len⟩ := x
      obtain ⟨hd, hlen⟩ := am_tab_ok M (List.mem_of_getElem? hM) pc (i, len) hcode
      dsimp only at hx hlen
      split at hx
      · rename_i v0 hrv
        cases hx
        rw [Nat.sub_self, Nat.add_zero] at hmc hms
        subst hmc; subst hms
        exact am_r_ret X hret hlk r hfc.2 had hd hlen hrv
      · split at hx
        · rename_i w htg
          split at hx
          · cases hx
          · rename_i M' hM'
            obtain ⟨hcan, hx⟩ := am_cg hx
            split at hx
            · rename_i rr hrun
              obtain ⟨v1, h1⟩ := rr
              have g1 : am_gr h h1 := am_exec_gr hrun
              have g2 : am_gr h1 h' := am_exec_gr hx
              have hcl2 := am_tgt_cl htg hfc.2
              unfold am_can at hcan
              obtain ⟨hcan, c5⟩ := am_b2 hcan
              obtain ⟨hcan, c4⟩ := am_b2 hcan
              obtain ⟨hcan, c3⟩ := am_b2 hcan
              obtain ⟨c1, c2⟩ := am_b2 hcan
              have c1 := Nat.le_of_ble_eq_true c1
              have c2 := Nat.le_of_ble_eq_true c2
              have c3 := Nat.le_of_ble_eq_true c3
              have c4 := Nat.le_of_ble_eq_true c4
              have c5 := Nat.eq_of_beq_eq_true c5
              obtain ⟨-, hin', hcn'⟩ := am_tab_f hM'
              obtain ⟨g11, g12, g13⟩ := g1
              obtain ⟨g21, g22, g23⟩ := g2
              have hr := am_run (e := e) (below := below) (meth := meth) (locs := locs) (cells := cells) (slots := slots) (ls := ls) (Qc := am_Qc D cy A ad h.1 v1 h1) (mc := h1.2.1 - h.2.1) (ms := h1.2.2.1 - h.2.2.1) (rm := { frames := M'.1.2.2.2.1, cells := h1.2.1 - h.2.1, slots := h1.2.2.1 - h.2.2.1, locals := M'.1.2.2.2.2.1 }) X hown hml r hod hM' htg c5 (fun hmo => am_met hmo hin' hcn' (ih w.1 M' 0 (lv_args 0 w.2.1) [] h v1 h1 hM' hrun) hcl2.1 c4 rfl rfl) ⟨rfl, rfl⟩ ⟨Nat.le_trans c1 hfr, Nat.le_trans c2 hlo⟩ hL.1 c3 hd hlen ⟨by omega, by omega⟩
              refine am_after hr (fun v2 st₀ t L h0 hLf hq => ?_)
              obtain ⟨ad', hext, hv2, hP, hD, hF, hcl', hcv'⟩ := hq
              have hv2 := Outcome.returned.inj hv2
              subst hv2
              obtain ⟨hK, -, -, hS, hA, -⟩ := r
              have r' : am_R D cy A ad' h1 s t.heap (locs ++ L) := by
                refine ⟨hK, hP, hD, ⟨?_, ?_, ?_⟩, hA, hcl'⟩
                · exact Nat.le_trans hS.1 (by rw [← h0]; exact hF.1)
                · intro q hq1 hq2
                  have := hF.2 q (by rw [h0]; exact Nat.lt_of_lt_of_le hq1 hS.1) hq2
                  rw [this, h0]
                  exact hS.2.1 q hq1 hq2
                · intro z hz
                  rcases List.mem_append.mp hz with hz | hz
                  · exact hS.2.2 z hz
                  · exact hLf z hz
              have hstk : (v1.map (am_v ad')).toList ++ w.2.2.map (am_v ad) = (v1.toList ++ w.2.2).map (am_v ad') := by
                rw [List.map_append, am_map_eq hext hcl2.2]
                cases v1 <;> rfl
              rw [hstk]
              have hfc' : am_fc h1.1 lo (v1.toList ++ w.2.2) := by
                refine ⟨fun q hq => am_cv_le g11 (hfc.1 q hq), fun z hz => ?_⟩
                rcases List.mem_append.mp hz with hz | hz
                · cases v1 with
                  | none => cases hz
                  | some y => cases List.mem_singleton.mp hz; exact hcv' _ rfl
                · exact am_cv_le g11 (hcl2.2 z hz)
              exact ih mi M (pc + 3) lo (v1.toList ++ w.2.2) h1 v h' hM hx p e s m args below meth c R t.heap (locs ++ L) (cells + (h1.2.1 - h.2.1)) (slots + (h1.2.2.1 - h.2.2.1)) mc ms D cy A ad' ad0 n0 ls X hml hret hlk hini hfr hlo r' (hod.ext (fun k hk => hext k (Or.inr hk))) (by rw [am_lo_eq hext hfc.1]; exact hL) hfc' (Nat.le_trans hn0 g11) (fun k hk => by rw [hext k (hk.imp (fun q => Nat.lt_of_lt_of_le q hn0) id)]; exact had k hk) (by omega) (by omega) hrc hrs
            · cases hx
        · split at hx
          · rename_i u hs0
            exact am_s0_ok X.1 X.2.1 hd hlen hs0 hL (fun ls' hL' => ih mi M u.1 u.2.1 u.2.2 h v h' hM hx p e s m args below meth c R H locs cells slots mc ms D cy A ad ad0 n0 ls' X hml hret hlk hini hfr hlo r hod hL' (am_s0_cl hs0 hfc) hn0 had hmc hms hrc hrs)
          · split at hx
            · rename_i u hs1
              obtain ⟨k1, g11, g12, g13⟩ := am_s1_cl hs1 hfc.2 r.2.2.2.2.2
              obtain ⟨g21, g22, g23⟩ := am_exec_gr hx
              dsimp only at g21 g22 g23
              refine am_s1_ok X hown hini hd hlen hs1 r ⟨hod.1, hod.2.1⟩ hfc.2 (by omega) (by omega) (fun ad' H1 locs1 hext r1 => ?_)
              exact ih mi M u.1 lo u.2.1 u.2.2 v h' hM hx p e s m args below meth c R H1 locs1 (cells + (u.2.2.2.1 - h.2.1)) (slots + (u.2.2.2.2.1 - h.2.2.1)) mc ms D cy A ad' ad0 n0 ls X hml hret hlk hini hfr hlo r1 (hod.ext (fun k hk => hext k (Or.inr hk))) (by rw [am_lo_eq hext hfc.1]; exact hL) ⟨fun q hq => am_cv_le g11 (hfc.1 q hq), k1⟩ (Nat.le_trans hn0 g11) (fun k hk => by rw [hext k (hk.imp (fun q => Nat.lt_of_lt_of_le q hn0) id)]; exact had k hk) (by omega) (by omega) hrc hrs
            · split at hx
              · rename_i u hs2
                have hfc2 : am_fc h.1 lo u.2 := ⟨hfc.1, am_s2_cl hs2 hfc.2⟩
                exact am_s2_ok X hown hml hL.1 hfr hlo (by omega) (by omega) r.2.2.2.1 hod hd hlen hs2 (ih mi M u.1 lo u.2 h v h' hM hx p e s m args below meth c R H locs cells slots mc ms D cy A ad ad0 n0 ls X hml hret hlk hini hfr hlo r hod hL hfc2 hn0 had hmc hms hrc hrs)
              · cases hx
