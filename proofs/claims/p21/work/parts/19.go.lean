/-! A ROAD OF A METHOD'S OWN: some steps, with the calls in them; the machine follows it -/
def am_st1 (n mi pc : Nat) (lo : List (Nat × Value)) (st : List Value) (h : am_H) : Option (Nat × List (Nat × Value) × List Value × am_H) := match am_tab[mi]? with
  | none => none
  | some M => match M.1.2.2.2.2.2 pc with
    | none => none
    | some x => match am_tgt M.1.1 x.1 st h with
      | some w => match am_tab[w.1]? with
        | none => none
        | some M' => bif am_can M M' x.1 w then (match am_exec n w.1 0 (lv_args 0 w.2.1) [] h with
          | some r => some (pc + 3, lo, r.1.toList ++ w.2.2, r.2)
          | none => none) else none
      | none => match am_s0 M.1.2.1 x.1 pc lo st with
        | some u => some (u.1, u.2.1, u.2.2, h)
        | none => match am_s1 M.1.1 M.1.2.2.1 x.1 pc st h with
          | some u => some (u.1, lo, u.2.1, u.2.2)
          | none => match am_s2 M.1.1 M.1.2.2.2.1 M.1.2.2.2.2.1 x.1 pc st with
            | some u => some (u.1, lo, u.2, h)
            | none => none
def am_go (n mi : Nat) : Nat → Nat → List (Nat × Value) → List Value → am_H → Option (Nat × List (Nat × Value) × List Value × am_H)
  | 0, pc, lo, st, h => some (pc, lo, st, h)
  | k + 1, pc, lo, st, h => match am_st1 n mi pc lo st h with
    | some u => am_go n mi k u.1 u.2.1 u.2.2.1 u.2.2.2
    | none => none
theorem am_st1_gr {n mi pc : Nat} {lo : List (Nat × Value)} {st : List Value} {h : am_H} {u : Nat × List (Nat × Value) × List Value × am_H} (hs : am_st1 n mi pc lo st h = some u) : am_gr h u.2.2.2 := by
  unfold am_st1 at hs
  split at hs
  · cases hs
  · split at hs
    · cases hs
    · split at hs
      · split at hs
        · cases hs
        · obtain ⟨-, hs⟩ := am_cg hs
          split at hs
          · rename_i h1
            cases hs
            exact am_exec_gr h1
          · cases hs
      · split at hs
        · cases hs; exact am_gr.rf
        · split at hs
          · rename_i h1
            cases hs
            exact am_s1_gr h1
          · split at hs
            · cases hs; exact am_gr.rf
            · cases hs
theorem am_go_gr {n mi : Nat} : ∀ {k pc : Nat} {lo : List (Nat × Value)} {st : List Value} {h : am_H} {u : Nat × List (Nat × Value) × List Value × am_H}, am_go n mi k pc lo st h = some u → am_gr h u.2.2.2 := by
  intro k
  induction k with
  | zero => intro pc lo st h u hs; cases hs; exact am_gr.rf
  | succ k ih =>
    intro pc lo st h u hs
    unfold am_go at hs
    split at hs
    · rename_i w hw
      exact (am_st1_gr hw).tr (ih hs)
    · cases hs
/-- what a road needs of the method and of where it stands -/
def am_On (M : am_M) (p : Program) (s : State) (m : MethodId) (args : Array Value) (meth : Method) (c : Code) (R : Room) : Prop := am_X M.2.1 (am_cn M.1.1) p s m args c ∧ c.maxLocals = M.1.2.1 ∧ (M.1.2.2.1 = true → meth.name = "<init>") ∧ M.1.2.2.2.1 ≤ R.frames ∧ M.1.2.2.2.2.1 ≤ R.locals
/-- the heap and the frame are the abstract ones -/
def am_Be (M : am_M) (s : State) (D : va_G) (cy : Nat → ClassId) (A : Nat → Prop) (ad : Nat → Nat) (h : am_H) (H : Heap) (locs : List Loc) (lo : List (Nat × Value)) (st : List Value) (ls : Array Slot) : Prop := am_R D cy A ad h s H locs ∧ am_Od A ad s s.heap ∧ lv_has ls M.1.2.1 (am_lo ad lo) ∧ am_fc h.1 lo st
section AMST
variable {p : Program} {l : Launch} {e : Env} {R : Room} {s : State} {m : MethodId} {args : Array Value} {below : List Frame} {meth : Method} {c : Code} {H : Heap} {locs : List Loc} {cells slots : Nat} {Q : State → Prop}
variable {ls : Array Slot} {ad : Nat → Nat} {D : va_G} {cy : Nat → ClassId} {A : Nat → Prop} {n mi pc : Nat} {M : am_M} {lo : List (Nat × Value)} {st : List Value} {h : am_H} {u : Nat × List (Nat × Value) × List Value × am_H}
set_option maxHeartbeats 4000000 in
theorem am_st1_ok (hM : am_tab[mi]? = some M) (hs : am_st1 n mi pc lo st h = some u) (O : am_On M p s m args meth c R) (B : am_Be M s D cy A ad h H locs lo st ls) (hrc : cells + (u.2.2.2.2.1 - h.2.1) ≤ R.cells) (hrs : slots + (u.2.2.2.2.2.1 - h.2.2.1) ≤ R.slots)
    (k : ∀ (ad' : Nat → Nat) (H' : Heap) (locs' : List Loc) (ls' : Array Slot), (∀ k, k < h.1 ∨ 1000000000 ≤ k → ad' k = ad k) → am_Be M s D cy A ad' u.2.2.2 H' locs' u.2.1 u.2.2.1 ls' → W p l e R s m args below meth c H' locs' (cells + (u.2.2.2.2.1 - h.2.1)) (slots + (u.2.2.2.2.2.1 - h.2.2.1)) Q (F0 m u.1 ls' (u.2.2.1.map (am_v ad')))) :
    W p l e R s m args below meth c H locs cells slots Q (F0 m pc ls (st.map (am_v ad))) := by
  obtain ⟨X, hml, hini, hfr, hlo⟩ := O
  obtain ⟨r, hod, hL, hfc⟩ := B
  obtain ⟨hown, -, -⟩ := am_tab_f hM
  have gr := am_st1_gr hs
  unfold am_st1 at hs
  rw [hM] at hs
  dsimp only at hs
  split at hs
  · cases hs
  · rename_i x hcode
    obtain ⟨i, len⟩ := x
    obtain ⟨hd, hlen⟩ := am_tab_ok M (List.mem_of_getElem? hM) pc (i, len) hcode
    dsimp only at hs hlen
    split at hs
    · rename_i w htg
      split at hs
      · cases hs
      · rename_i M' hM'
        obtain ⟨hcan, hs⟩ := am_cg hs
        split at hs
        · rename_i rr hrun
          obtain ⟨v1, h1⟩ := rr
          cases hs
          have g1 : am_gr h h1 := am_exec_gr hrun
          have hcl2 := am_tgt_cl htg hfc.2
          unfold am_can at hcan
          obtain ⟨hcan, c5⟩ := am_b2 hcan
          obtain ⟨hcan, c4⟩ := am_b2 hcan
          obtain ⟨hcan, c3⟩ := am_b2 hcan
          obtain ⟨c1, c2⟩ := am_b2 hcan
          have c1 := Nat.le_of_ble_eq_true c1
          have c2 := Nat.le_of_ble_eq_true c2
          have c3 := Nat.le_of_ble_eq_true c3
          have c4 := Nat.le_of_ble_eq_true c4
          have c5 := Nat.eq_of_beq_eq_true c5
          obtain ⟨-, hin', hcn'⟩ := am_tab_f hM'
          obtain ⟨g11, g12, g13⟩ := g1
          have hr := am_run (e := e) (below := below) (meth := meth) (locs := locs) (cells := cells) (slots := slots) (ls := ls) (Qc := am_Qc D cy A ad h.1 v1 h1) (mc := h1.2.1 - h.2.1) (ms := h1.2.2.1 - h.2.2.1) (rm := { frames := M'.1.2.2.2.1, cells := h1.2.1 - h.2.1, slots := h1.2.2.1 - h.2.2.1, locals := M'.1.2.2.2.2.1 }) X hown hml r hod hM' htg c5 (fun hmo => am_met hmo hin' hcn' (am_sim l n w.1 M' 0 (lv_args 0 w.2.1) [] h v1 h1 hM' hrun) hcl2.1 c4 rfl rfl) ⟨rfl, rfl⟩ ⟨Nat.le_trans c1 hfr, Nat.le_trans c2 hlo⟩ hL.1 c3 hd hlen ⟨hrc, hrs⟩
          refine am_after hr (fun v2 st₀ t L h0 hLf hq => ?_)
          obtain ⟨ad', hext, hv2, hP, hD, hF, hcl', hcv'⟩ := hq
          have hv2 := Outcome.returned.inj hv2
          subst hv2
          obtain ⟨hK, -, -, hS, hA, -⟩ := r
          have r' : am_R D cy A ad' h1 s t.heap (locs ++ L) := by
            refine ⟨hK, hP, hD, ⟨?_, ?_, ?_⟩, hA, hcl'⟩
            · exact Nat.le_trans hS.1 (by rw [← h0]; exact hF.1)
            · intro q hq1 hq2
              have := hF.2 q (by rw [h0]; exact Nat.lt_of_lt_of_le hq1 hS.1) hq2
              rw [this, h0]
              exact hS.2.1 q hq1 hq2
            · intro z hz
              rcases List.mem_append.mp hz with hz | hz
              · exact hS.2.2 z hz
              · exact hLf z hz
          have hstk : (v1.map (am_v ad')).toList ++ w.2.2.map (am_v ad) = (v1.toList ++ w.2.2).map (am_v ad') := by
            rw [List.map_append, am_map_eq hext hcl2.2]
            cases v1 <;> rfl
          rw [hstk]
          have hfc' : am_fc h1.1 lo (v1.toList ++ w.2.2) := by
            refine ⟨fun q hq => am_cv_le g11 (hfc.1 q hq), fun z hz => ?_⟩
            rcases List.mem_append.mp hz with hz | hz
            · cases v1 with
              | none => cases hz
              | some y => cases List.mem_singleton.mp hz; exact hcv' _ rfl
            · exact am_cv_le g11 (hcl2.2 z hz)
          exact k ad' t.heap (locs ++ L) ls hext ⟨r', hod.ext (fun k hk => hext k (Or.inr hk)), by rw [am_lo_eq hext hfc.1]; exact hL, hfc'⟩
        · cases hs
    · split at hs
      · rename_i u0 hs0
        cases hs
        dsimp only at k
        rw [Nat.sub_self, Nat.sub_self, Nat.add_zero, Nat.add_zero] at k
        exact am_s0_ok X.1 X.2.1 hd hlen hs0 hL (fun ls' hL' => k ad H locs ls' (fun _ _ => rfl) ⟨r, hod, hL', am_s0_cl hs0 hfc⟩)
      · split at hs
        · rename_i u0 hs1
          cases hs
          obtain ⟨k1, g11, g12, g13⟩ := am_s1_cl hs1 hfc.2 r.2.2.2.2.2
          refine am_s1_ok X hown hini hd hlen hs1 r ⟨hod.1, hod.2.1⟩ hfc.2 hrc hrs (fun ad' H1 locs1 hext r1 => ?_)
          exact k ad' H1 locs1 ls hext ⟨r1, hod.ext (fun k hk => hext k (Or.inr hk)), by rw [am_lo_eq hext hfc.1]; exact hL, ⟨fun q hq => am_cv_le g11 (hfc.1 q hq), k1⟩⟩
        · split at hs
          · rename_i u0 hs2
            cases hs
            dsimp only at k hrc hrs
            rw [Nat.sub_self, Nat.add_zero] at hrc hrs
            rw [Nat.sub_self, Nat.sub_self, Nat.add_zero, Nat.add_zero] at k
            exact am_s2_ok X hown hml hL.1 hfr hlo hrc hrs r.2.2.2.1 hod hd hlen hs2 (k ad H locs ls (fun _ _ => rfl) ⟨r, hod, hL, hfc.1, am_s2_cl hs2 hfc.2⟩)
          · cases hs
end AMST
theorem am_go_ok {p : Program} {l : Launch} {e : Env} {R : Room} {s : State} {m : MethodId} {args : Array Value} {below : List Frame} {meth : Method} {c : Code} {Q : State → Prop} {D : va_G} {cy : Nat → ClassId} {A : Nat → Prop} {n mi : Nat} {M : am_M} (hM : am_tab[mi]? = some M) (O : am_On M p s m args meth c R) :
    ∀ {k pc : Nat} {lo : List (Nat × Value)} {st : List Value} {h : am_H} {u : Nat × List (Nat × Value) × List Value × am_H} {ad : Nat → Nat} {H : Heap} {locs : List Loc} {cells slots : Nat} {ls : Array Slot}, am_go n mi k pc lo st h = some u → am_Be M s D cy A ad h H locs lo st ls → cells + (u.2.2.2.2.1 - h.2.1) ≤ R.cells → slots + (u.2.2.2.2.2.1 - h.2.2.1) ≤ R.slots →
    (∀ (ad' : Nat → Nat) (H' : Heap) (locs' : List Loc) (ls' : Array Slot), (∀ k, k < h.1 ∨ 1000000000 ≤ k → ad' k = ad k) → am_Be M s D cy A ad' u.2.2.2 H' locs' u.2.1 u.2.2.1 ls' → W p l e R s m args below meth c H' locs' (cells + (u.2.2.2.2.1 - h.2.1)) (slots + (u.2.2.2.2.2.1 - h.2.2.1)) Q (F0 m u.1 ls' (u.2.2.1.map (am_v ad')))) →
    W p l e R s m args below meth c H locs cells slots Q (F0 m pc ls (st.map (am_v ad))) := by
  intro k
  induction k with
  | zero =>
    intro pc lo st h u ad H locs cells slots ls hs B hrc hrs k
    cases hs
    dsimp only at k
    rw [Nat.sub_self, Nat.sub_self, Nat.add_zero, Nat.add_zero] at k
    exact k ad H locs ls (fun _ _ => rfl) B
  | succ k ih =>
    intro pc lo st h u ad H locs cells slots ls hs B hrc hrs kk
    unfold am_go at hs
    split at hs
    · rename_i w hw
      obtain ⟨g1, g2, g3⟩ := am_st1_gr hw
      obtain ⟨g4, g5, g6⟩ := am_go_gr hs
      refine am_st1_ok hM hw O B (by omega) (by omega) (fun ad1 H1 locs1 ls1 hx1 B1 => ?_)
      refine ih hs B1 (by omega) (by omega) (fun ad2 H2 locs2 ls2 hx2 B2 => ?_)
      have e1 : cells + (w.2.2.2.2.1 - h.2.1) + (u.2.2.2.2.1 - w.2.2.2.2.1) = cells + (u.2.2.2.2.1 - h.2.1) := by omega
      have e2 : slots + (w.2.2.2.2.2.1 - h.2.2.1) + (u.2.2.2.2.2.1 - w.2.2.2.2.2.1) = slots + (u.2.2.2.2.2.1 - h.2.2.1) := by omega
      rw [e1, e2]
      exact kk ad2 H2 locs2 ls2 (fun q hq => (hx2 q (hq.imp (fun z => Nat.lt_of_lt_of_le z g1) id)).trans (hx1 q hq)) B2
    · cases hs
