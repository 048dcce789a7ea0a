/-! A CALL OF A HELPER, over the machine -/
section LXW
variable {p : Program} {l : Launch} {e : Env} {R : Room} {s : State} {m : MethodId} {args : Array Value} {below : List Frame} {meth : Method} {c : Code} {Q : State → Prop} {D : va_G} {cy : Nat → ClassId} {A : Nat → Prop} {b : Nat} {xs : Nat → Int32}
theorem lx_call (O : am_On am_m_L_law p s m args meth c R) (hR : 12 ≤ R.frames ∧ 506 ≤ R.locals) (hnc : am_Nc s) {idx mi : Nat} {hh : List (Nat × Nat × Nat × Nat)} (hq : lx_hq (idx, mi, hh)) {M : am_M} (hM : am_tab[mi]? = some M) {pc x ex : Nat} {ad : Nat → Nat} {H : Heap} {locs : List Loc} {ls : Array Slot} {lo : List (Nat × Value)} {st : List Value} {h h1 : am_H} {v : Value} (B : am_Be am_m_L_law s D cy A ad h H locs lo st ls) (hd : decode cL_law pc = .ok (.invokestatic idx, 3)) (hlen : (st.take M.2.2.2.2).length = M.2.2.2.2) (hw : ((st.drop M.2.2.2.2).map fun v => v.category).sum ≤ 8) (hmet : lx_Met l M hh (st.take M.2.2.2.2).reverse h h1 v ex) (hgr : am_gr h h1) (hrc : h1.2.1 + (x + ex) ≤ R.cells) (hrs : h1.2.2.1 + 6 * (x + ex) ≤ R.slots)
    (kk : ∀ (ad' : Nat → Nat) (H' : Heap) (locs' : List Loc), (∀ k, k < h.1 ∨ 1000000000 ≤ k → ad' k = ad k) → am_Be am_m_L_law s D cy A ad' h1 H' locs' lo (v :: st.drop M.2.2.2.2) ls → W p l e R s m args below meth c H' locs' (h1.2.1 + (x + ex)) (h1.2.2.1 + 6 * (x + ex)) Q (F0 m (pc + 3) ls ((v :: st.drop M.2.2.2.2).map (am_v ad')))) :
    W p l e R s m args below meth c H locs (h.2.1 + x) (h.2.2.1 + 6 * x) Q (F0 m pc ls (st.map (am_v ad))) := by
  obtain ⟨M2, hM2, w1, w2, w3, w4, w5, w6, w7, w8, w9⟩ := hq
  cases Option.some.inj (hM2.symm.trans hM)
  obtain ⟨X, hml, -, -, -⟩ := O
  obtain ⟨r, hod, hL, hfc⟩ := B
  obtain ⟨g1, g2, g3⟩ := hgr
  have hG : GoodIn am_gd (va_wsS "ArchiveShelfLaw" idx M.2.2.2.1 (am_wsH M hh)) := by
    refine am_goodL ?_ (fun w hw => ?_)
    · intro w hw
      simp only [List.mem_cons, List.not_mem_nil, or_false] at hw
      rcases hw with rfl | rfl | rfl
      · exact am_gd_in w1 rfl
      · exact am_gd_in w2 rfl
      · exact am_gd_in w3 rfl
    · rcases List.mem_cons.mp hw with rfl | hw
      · exact am_good_all _ (am_gd_in w4 rfl)
      · exact am_good_all _ hw
  have hst : st.map (am_v ad) = ((st.take M.2.2.2.2).reverse.map (am_v ad)).reverse ++ (st.drop M.2.2.2.2).map (am_v ad) := by
    rw [← List.map_reverse, List.reverse_reverse, ← List.map_append, List.take_append_drop]
  have hcl2 : ∀ w ∈ st.drop M.2.2.2.2, am_cv h.1 w := fun w hw => hfc.2 w (List.mem_of_mem_drop hw)
  rw [hst]
  have hrun := (vx_runSW (R := R) (g := F0 m pc ls (((st.take M.2.2.2.2).reverse.map (am_v ad)).reverse ++ (st.drop M.2.2.2.2).map (am_v ad))) (p := p) (e := e) (below := below) (meth := meth) (locs := locs) (cells := h.2.1 + x) (slots := h.2.2.1 + 6 * x) (H := H) ⟨X.1, X.2.1, hml, X.2.2.1, X.2.2.2.1⟩ (hmet D cy A ad) (vx_cwSW M.2.2.2.2 X.2.2.2.1 hG rfl rfl rfl w8 ⟨Nat.le_trans w9.1 hR.1, Nat.le_trans w9.2 hR.2⟩) ⟨am_blindN, fun U hU hW => ⟨am_pre X r hod (st.take M.2.2.2.2).reverse U hU hW, hnc.moved hW.alike⟩⟩ rfl (by rw [List.length_map, List.length_reverse]; exact hlen) hL.1 rfl (lv_room (am_wt hw)) hd ⟨by omega, by omega⟩).run
  refine am_after hrun (fun v2 st₀ t L h0 hLf hq => ?_)
  obtain ⟨ad', hext, hv2, hP, hD, hF, hcl', hcv'⟩ := hq
  have hv2 := Outcome.returned.inj hv2
  subst hv2
  obtain ⟨hK, -, -, hS, hA, -⟩ := r
  have r' : am_R D cy A ad' h1 s t.heap (locs ++ L) := by
    refine ⟨hK, hP, hD, ⟨?_, ?_, ?_⟩, hA, hcl'⟩
    · exact Nat.le_trans hS.1 (by rw [← h0]; exact hF.1)
    · intro q hq1 hq2
      have := hF.2 q (by rw [h0]; exact Nat.lt_of_lt_of_le hq1 hS.1) hq2
      rw [this, h0]
      exact hS.2.1 q hq1 hq2
    · intro z hz
      rcases List.mem_append.mp hz with hz | hz
      · exact hS.2.2 z hz
      · exact hLf z hz
  have hstk : ((some v).map (am_v ad')).toList ++ (st.drop M.2.2.2.2).map (am_v ad) = (v :: st.drop M.2.2.2.2).map (am_v ad') := by
    rw [List.map_cons, am_map_eq hext hcl2]
    rfl
  rw [hstk, show h.2.1 + x + (h1.2.1 - h.2.1 + ex) = h1.2.1 + (x + ex) from by omega, show h.2.2.1 + 6 * x + (h1.2.2.1 - h.2.2.1 + 6 * ex) = h1.2.2.1 + 6 * (x + ex) from by omega]
  exact kk ad' t.heap (locs ++ L) hext ⟨r', hod.ext (fun k hk => hext k (Or.inr hk)), by rw [am_lo_eq hext hfc.1]; exact hL, fun q hq => am_cv_le g1 (hfc.1 q hq), am_p1 (hcv' _ rfl) (fun w hw => am_cv_le g1 (hcl2 w hw))⟩
end LXW
