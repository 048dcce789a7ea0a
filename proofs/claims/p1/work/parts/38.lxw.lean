/-! THE MACHINE FOLLOWS THE LAW'S RUN -/
section LXW
variable {p : Program} {l : Launch} {e : Env} {R : Room} {s : State} {m : MethodId} {args : Array Value} {below : List Frame} {meth : Method} {c : Code} {Q : State → Prop} {D : va_G} {cy : Nat → ClassId} {A : Nat → Prop} {b : Nat} {xs : Nat → Int32}
variable {ρ : Nat → Int32} {mt : Nat → Option am_M} {tb : Nat → Nat → Option sx_Op} {sl : Nat} {sc : List Value} {c0 : Int32} {N : Nat}
theorem lx_call (O : am_On am_m_L_law p s m args meth c R) (hR : 12 ≤ R.frames ∧ 506 ≤ R.locals) (hnc : am_Nc s) {idx mi : Nat} {hh : List (Nat × Nat × Nat × Nat)} (hq : lx_hq (idx, mi, hh)) {M : am_M} (hM : am_tab[mi]? = some M) {pc x ex : Nat} {ad : Nat → Nat} {H : Heap} {locs : List Loc} {ls : Array Slot} {lo : List (Nat × Value)} {st : List Value} {h h1 : am_H} {v : Value} (B : am_Be am_m_L_law s D cy A ad h H locs lo st ls) (hd : decode cL_law pc = .ok (.invokestatic idx, 3)) (hlen : (st.take M.2.2.2.2).length = M.2.2.2.2) (hw : ((st.drop M.2.2.2.2).map fun v => v.category).sum ≤ 8) (hmet : lx_Met l M hh (st.take M.2.2.2.2).reverse h h1 v ex) (hgr : am_gr h h1) (hrc : h1.2.1 + (x + ex) ≤ R.cells) (hrs : h1.2.2.1 + 6 * (x + ex) ≤ R.slots)
    (kk : ∀ (ad' : Nat → Nat) (H' : Heap) (locs' : List Loc), (∀ k, k < h.1 ∨ 1000000000 ≤ k → ad' k = ad k) → am_Be am_m_L_law s D cy A ad' h1 H' locs' lo (v :: st.drop M.2.2.2.2) ls → W p l e R s m args below meth c H' locs' (h1.2.1 + (x + ex)) (h1.2.2.1 + 6 * (x + ex)) Q (F0 m (pc + 3) ls ((v :: st.drop M.2.2.2.2).map (am_v ad')))) :
    W p l e R s m args below meth c H locs (h.2.1 + x) (h.2.2.1 + 6 * x) Q (F0 m pc ls (st.map (am_v ad))) := by
  obtain ⟨M2, hM2, w1, w2, w3, w4, w5, w6, w7, w8, w9⟩ := hq
  cases Option.some.inj (hM2.symm.trans hM)
  obtain ⟨X, hml, -, -, -⟩ := O
  obtain ⟨r, hod, hL, hfc⟩ := B
  obtain ⟨g1, g2, g3⟩ := hgr
  have hG : GoodIn am_gd (va_wsS "ArchiveShelfLaw" idx M.2.2.2.1 (am_wsH M hh)) := by
    refine am_goodL ?_ (fun w hw => ?_)
    · intro w hw
      simp only [List.mem_cons, List.not_mem_nil, or_false] at hw
      rcases hw with rfl | rfl | rfl
      · exact am_gd_in w1 rfl
      · exact am_gd_in w2 rfl
      · exact am_gd_in w3 rfl
    · rcases List.mem_cons.mp hw with rfl | hw
      · exact am_good_all _ (am_gd_in w4 rfl)
      · exact am_good_all _ hw
  have hst : st.map (am_v ad) = ((st.take M.2.2.2.2).reverse.map (am_v ad)).reverse ++ (st.drop M.2.2.2.2).map (am_v ad) := by
    rw [← List.map_reverse, List.reverse_reverse, ← List.map_append, List.take_append_drop]
  have hcl2 : ∀ w ∈ st.drop M.2.2.2.2, am_cv h.1 w := fun w hw => hfc.2 w (List.mem_of_mem_drop hw)
  rw [hst]
  have hrun := (vx_runSW (R := R) (g := F0 m pc ls (((st.take M.2.2.2.2).reverse.map (am_v ad)).reverse ++ (st.drop M.2.2.2.2).map (am_v ad))) (p := p) (e := e) (below := below) (meth := meth) (locs := locs) (cells := h.2.1 + x) (slots := h.2.2.1 + 6 * x) (H := H) ⟨X.1, X.2.1, hml, X.2.2.1, X.2.2.2.1⟩ (hmet D cy A ad) (vx_cwSW M.2.2.2.2 X.2.2.2.1 hG rfl rfl rfl w8 ⟨Nat.le_trans w9.1 hR.1, Nat.le_trans w9.2 hR.2⟩) ⟨am_blindN, fun U hU hW => ⟨am_pre X r hod (st.take M.2.2.2.2).reverse U hU hW, hnc.moved hW.alike⟩⟩ rfl (by rw [List.length_map, List.length_reverse]; exact hlen) hL.1 rfl (lv_room (am_wt hw)) hd ⟨by omega, by omega⟩).run
  refine am_after hrun (fun v2 st₀ t L h0 hLf hq => ?_)
  obtain ⟨ad', hext, hv2, hP, hD, hF, hcl', hcv'⟩ := hq
  have hv2 := Outcome.returned.inj hv2
  subst hv2
  obtain ⟨hK, -, -, hS, hA, -⟩ := r
  have r' : am_R D cy A ad' h1 s t.heap (locs ++ L) := by
    refine ⟨hK, hP, hD, ⟨?_, ?_, ?_⟩, hA, hcl'⟩
    · exact Nat.le_trans hS.1 (by rw [← h0]; exact hF.1)
    · intro q hq1 hq2
      have := hF.2 q (by rw [h0]; exact Nat.lt_of_lt_of_le hq1 hS.1) hq2
      rw [this, h0]
      exact hS.2.1 q hq1 hq2
    · intro z hz
      rcases List.mem_append.mp hz with hz | hz
      · exact hS.2.2 z hz
      · exact hLf z hz
  have hstk : ((some v).map (am_v ad')).toList ++ (st.drop M.2.2.2.2).map (am_v ad) = (v :: st.drop M.2.2.2.2).map (am_v ad') := by
    rw [List.map_cons, am_map_eq hext hcl2]
    rfl
  rw [hstk, show h.2.1 + x + (h1.2.1 - h.2.1 + ex) = h1.2.1 + (x + ex) from by omega, show h.2.2.1 + 6 * x + (h1.2.2.1 - h.2.2.1 + 6 * ex) = h1.2.2.1 + 6 * (x + ex) from by omega]
  exact kk ad' t.heap (locs ++ L) hext ⟨r', hod.ext (fun k hk => hext k (Or.inr hk)), by rw [am_lo_eq hext hfc.1]; exact hL, fun q hq => am_cv_le g1 (hfc.1 q hq), am_p1 (hcv' _ rfl) (fun w hw => am_cv_le g1 (hcl2 w hw))⟩
set_option maxHeartbeats 2000000 in
theorem lx_ok (hmt : sx_mtok mt) (htb : sx_tbok ρ tb) (hl : l.stackTraces = false) (hlaw : am_tab[am_i_L_law]? = some am_m_L_law) (O : am_On am_m_L_law p s m args meth c R) (hR : 12 ≤ R.frames ∧ 506 ≤ R.locals ∧ 600000 ≤ R.cells ∧ 7000000 ≤ R.slots) (hnc : am_Nc s) (hX : va_X b sl xs s s.heap) (hbl : b < s.heap.size) (hbA : ¬ A b) (hsc : ∀ j, j < sl → sx_rel ρ (sc.getD j .null) (.int (xs j))) (h0c : ρ 0 &&& 31 = c0)
    (hend : ∀ (pc : Nat) (H : Heap) (locs : List Loc) (ls : Array Slot) (cells slots : Nat), am_c_L_law pc = some (.ireturn, 1) → va_S A s.heap H locs → cells ≤ 600000 → slots ≤ 7000000 → W p l e R s m args below meth c H locs cells slots Q (F0 m pc ls [.int 1])) :
    ∀ {n x pc : Nat} {L st : List Value} {f : sx_H} {ad : Nat → Nat} {H : Heap} {locs : List Loc} {ls : Array Slot} {lo : List (Nat × Value)} {st' : List Value} {h : am_H}, lx_run mt tb sl sc c0 N n x pc L st f = true → sx_rL ρ L lo → sx_rs ρ st st' → sx_hr ρ f h → am_Be am_m_L_law s D cy A ad h H locs lo st' ls → ad 1000000300 = b → W p l e R s m args below meth c H locs (h.2.1 + x) (h.2.2.1 + 6 * x) Q (F0 m pc ls (st'.map (am_v ad))) := by
  intro n
  induction n with
  | zero => intro x pc L st f ad H locs ls lo st' h hx; cases hx
  | succ n ih =>
    intro x pc L st f ad H locs ls lo st' h hx hLr hst hhr B hb
    unfold lx_run at hx
    split at hx
    · cases hx
    · rename_i u hu
      obtain ⟨hroom, hx⟩ := lx_cf hx
      obtain ⟨b1, b2⟩ := am_b2 hroom
      have b1 := Nat.le_of_ble_eq_true b1
      have b2 := Nat.le_of_ble_eq_true b2
      obtain ⟨⟨pc1, lo1, st1, h1⟩, ⟨n1, k1, hgo⟩, g2, g3, g4, g5⟩ := sy_to_ok hmt htb hLr hst hhr hu
      dsimp only at g2 g3 g4 g5
      subst g2
      obtain ⟨z1, z2, z3⟩ := am_go_gr hgo
      dsimp only at z1 z2 z3
      have q1 := g5.2.1
      have q2 := g5.2.2.1
      refine am_go_ok hlaw O hgo B (by show h.2.1 + x + (h1.2.1 - h.2.1) ≤ _; omega) (by show h.2.2.1 + 6 * x + (h1.2.2.1 - h.2.2.1) ≤ _; omega) (fun ad1 H1 locs1 ls1 hext B1 => ?_)
      dsimp only at B1 ⊢
      rw [show h.2.1 + x + (h1.2.1 - h.2.1) = h1.2.1 + x from by omega, show h.2.2.1 + 6 * x + (h1.2.2.1 - h.2.2.1) = h1.2.2.1 + 6 * x from by omega]
      have hb1 : ad1 1000000300 = b := (hext _ (Or.inr (by omega))).trans hb
      have hcode := am_tab_ok am_m_L_law (List.mem_of_getElem? hlaw)
      have hB1 := B1
      obtain ⟨r1, hod1, hL1, hfc1⟩ := B1
      split at hx
      · rename_i hc
        split at hx
        · rename_i o r hst1
          obtain ⟨ho, hx2⟩ := lx_cf hx
          have ho := Nat.eq_of_beq_eq_true ho
          subst ho
          rw [hst1] at g4
          obtain ⟨t1, rfl, hs2⟩ := sx_cR g4
          rw [List.map_cons, show am_v ad1 (.ref 1000000300) = .ref b from congrArg Value.ref hb1]
          refine va_slen O.1.1 O.1.2.1 hX hbl hbA r1.2.2.2.1 (hcode _ _ hc).1 ?_
          exact ih hx2 g3 (sx_mk (w := .int (Int32.ofNat sl)) rfl hs2) g5 ⟨r1, hod1, hL1, hfc1.1, am_p1 trivial (am_t1 hfc1.2)⟩ hb1
        · cases hx
      · rename_i hc
        split at hx
        · rename_i j o r hst1
          obtain ⟨ho, hx2⟩ := lx_cf hx
          obtain ⟨ho, hj⟩ := am_b2 ho
          have ho := Nat.eq_of_beq_eq_true ho
          subst ho
          rw [hst1] at g4
          obtain ⟨t0, rfl, hs1⟩ := sx_cI g4
          obtain ⟨t1, rfl, hs2⟩ := sx_cR hs1
          rw [List.map_cons, List.map_cons, show am_v ad1 (.ref 1000000300) = .ref b from congrArg Value.ref hb1, show am_v ad1 (.int j) = .int j from rfl]
          have hin := am_in_ok2 hj
          have hlt : j.toNatClampNeg < sl := Nat.not_le.mp fun q => hin (Or.inr q)
          refine va_sld O.1.1 O.1.2.1 hX hbl hbA r1.2.2.2.1 hin (hcode _ _ hc).1 ?_
          exact ih hx2 g3 (sx_mk (w := .int (xs j.toNatClampNeg)) (hsc _ hlt) hs2) g5 ⟨r1, hod1, hL1, hfc1.1, am_p1 trivial (am_t1 (am_t1 hfc1.2))⟩ hb1
        · cases hx
      · rename_i hc
        split at hx
        · rename_i y k r hst1
          obtain ⟨ho, hx2⟩ := lx_cf hx
          obtain ⟨hy, hk⟩ := am_b2 ho
          have hy := of_decide_eq_true hy
          have hk := Nat.eq_of_beq_eq_true hk
          subst hy
          subst hk
          rw [hst1] at g4
          obtain ⟨t0, rfl, hs1⟩ := sx_cI g4
          obtain ⟨w, t1, rfl, ⟨z, rfl, hz⟩, hs2⟩ := sx_cV hs1
          have hz := hz (by decide)
          subst hz
          have hd := hcode _ _ hc
          refine am_s0_ok (u := (u.1 + 1, lo1, .int (ρ 0 &&& 31) :: t1)) (ad := ad1) O.1.1 O.1.2.1 hd.1 hd.2 rfl hL1 (fun ls2 hL2 => ?_)
          exact ih hx2 g3 (sx_mk (w := .int (ρ 0 &&& 31)) (congrArg Value.int h0c) hs2) g5 ⟨r1, hod1, hL2, hfc1.1, am_p1 trivial (am_t1 (am_t1 hfc1.2))⟩ hb1
        · cases hx
      · rename_i idx hc
        split at hx
        · cases hx
        · rename_i en hen
          split at hx
          · cases hx
          · rename_i M hM
            have hM := hmt _ _ hM
            obtain ⟨ho, hx3⟩ := lx_cf hx
            obtain ⟨ho, o3⟩ := am_b2 ho
            obtain ⟨o1, o2⟩ := am_b2 ho
            have o1 := Nat.le_of_ble_eq_true o1
            have o2 := Nat.eq_of_beq_eq_true o2
            have o3 := Nat.le_of_ble_eq_true o3
            split at hx3
            · cases hx3
            · rename_i q hq
              obtain ⟨qv, qf, qe⟩ := q
              dsimp only at hx3
              obtain ⟨ho, hx2⟩ := lx_cf hx3
              obtain ⟨o4, o5⟩ := am_b2 ho
              have o4 := Nat.le_of_ble_eq_true o4
              have o5 := Nat.le_of_ble_eq_true o5
              obtain ⟨mi2, hh2⟩ := en
              have hq2 := lx_hp_ok _ (am_fnd_mem hen)
              have hq3 := hq2
              obtain ⟨M3, hM3, -, -, -, -, v5, v6, v7, -, -⟩ := hq3
              cases Option.some.inj (hM3.symm.trans hM)
              have hav := sx_rs_rev (sx_rs_take (n := M.2.2.2.2) g4)
              have hcl : ∀ w ∈ (st1.take M.2.2.2.2).reverse, am_cv h1.1 w := fun w hw => hfc1.2 w (List.mem_of_mem_take (List.mem_reverse.mp hw))
              obtain ⟨h2, y1, y2, y3, y4⟩ := lx_hlp_ok hmt htb hl hM v5 v6 v7 hav g5 hcl (by rw [sx_rs_sl hav]; exact o3) hq
              have e1 := y1.2.1
              have e2 := y1.2.2.1
              refine lx_call (x := x) (ex := qe) O ⟨hR.1, hR.2.1⟩ hnc hq2 hM hB1 (hcode _ _ hc).1 (by rw [sx_rs_len (sx_rs_take g4)]; exact o2) (by rw [sx_rs_cats (sx_rs_drop g4)]; exact o1) y4 y2 (by omega) (by omega) (fun ad2 H2 locs2 hxe B2 => ?_)
              exact ih hx2 g3 (sx_rs_app y3 (sx_rs_drop g4)) y1 B2 ((hxe _ (Or.inr (by omega))).trans hb1)
      · rename_i hc
        split at hx
        · rename_i y hst1
          have hy := of_decide_eq_true hx
          subst hy
          rw [hst1] at g4
          obtain ⟨t0, rfl, hs1⟩ := sx_cI g4
          have e0 := sx_c0 hs1
          subst e0
          exact hend _ _ _ _ _ _ hc r1.2.2.2.1 (by omega) (by omega)
        · cases hx
      · cases hx
end LXW
