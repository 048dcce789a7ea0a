/-! THE MACHINE KEEPS THE LAW'S RULES -/
section GWS
variable {p : Program} {l : Launch} {e : Env} {R : Room} {s : State} {m : MethodId} {args : Array Value} {below : List Frame} {meth : Method} {c : Code} {Q : State → Prop} {D : va_G} {cy : Nat → ClassId} {A : Nat → Prop} {b sl : Nat} {xs : Nat → Int32}
noncomputable def GW (p : Program) (l : Launch) (e : Env) (R : Room) (s : State) (m : MethodId) (args : Array Value) (below : List Frame) (meth : Method) (c : Code) (Q : State → Prop) (D : va_G) (cy : Nat → ClassId) (A : Nat → Prop) (b : Nat) (x pc : Nat) (L : List (Option Value)) (st : List Value) (h : am_H) : Prop := J0 h → x ≤ 5000 → ∀ (ad : Nat → Nat) (H : Heap) (locs : List Loc) (ls : Array Slot) (lo : List (Nat × Value)), am_Be am_m_L_law s D cy A ad h H locs lo st ls → ad 1000000300 = b → l1_ag L lo → W p l e R s m args below meth c H locs (h.2.1 + x) (h.2.2.1 + 6 * x) Q (F0 m pc ls (st.map (am_v ad)))
theorem GW_go (O : am_On am_m_L_law p s m args meth c R) (hR : 600000 ≤ R.cells ∧ 7000000 ≤ R.slots) {x pc pc' : Nat} {L L' : List (Option Value)} {st st' : List Value} {h h1 : am_H} (hj : J0 h1) (hgo : ∀ lo, l1_ag L lo → ∃ lo', l1_ag L' lo' ∧ am_G am_i_L_law pc lo st h (pc', lo', st', h1)) (hG : GW p l e R s m args below meth c Q D cy A b x pc' L' st' h1) : GW p l e R s m args below meth c Q D cy A b x pc L st h := by
  intro j0 hx ad H locs ls lo B hb ha
  obtain ⟨lo', ha', n, k, hgo⟩ := hgo lo ha
  obtain ⟨j1, j2, j3⟩ := j0
  obtain ⟨i1, i2, i3⟩ := hj
  refine am_go_ok sx_m_L_law O hgo B (by show h.2.1 + x + (h1.2.1 - h.2.1) ≤ _; omega) (by show h.2.2.1 + 6 * x + (h1.2.2.1 - h.2.2.1) ≤ _; omega) (fun ad' H' locs' ls' hext B' => ?_)
  dsimp only at B' ⊢
  have hw := hG ⟨i1, i2, i3⟩ hx ad' H' locs' ls' lo' B' ((hext _ (Or.inr (by omega))).trans hb) ha'
  rw [show h.2.1 + x + (h1.2.1 - h.2.1) = h1.2.1 + x from by omega, show h.2.2.1 + 6 * x + (h1.2.2.1 - h.2.2.1) = h1.2.2.1 + 6 * x from by omega]
  exact hw
theorem GW_ok (hl : l.stackTraces = false) (O : am_On am_m_L_law p s m args meth c R) (hR : 12 ≤ R.frames ∧ 506 ≤ R.locals ∧ 600000 ≤ R.cells ∧ 7000000 ≤ R.slots) (hnc : am_Nc s) (hX : va_X b sl xs s s.heap) (hbl : b < s.heap.size) (hbA : ¬ A b)
    (hend : ∀ (pc : Nat) (H : Heap) (locs : List Loc) (ls : Array Slot) (cells slots : Nat), am_c_L_law pc = some (.ireturn, 1) → va_S A s.heap H locs → cells ≤ 600000 → slots ≤ 7000000 → W p l e R s m args below meth c H locs cells slots Q (F0 m pc ls [.int 1])) : LG sl xs (GW p l e R s m args below meth c Q D cy A b) := by
  have hcode := am_tab_ok am_m_L_law (List.mem_of_getElem? sx_m_L_law)
  refine ⟨?_, ?_, ?_, ?_, ?_, ?_, ?_, ?_⟩
  · intro x pc L st h k pc' L' st' hp hG j0
    exact GW_go O hR.2.2 j0 (fun lo ha => l1_pm_G sx_m_L_law hp ha h) hG j0
  · intro x pc L st h hc hG j0 hx ad H locs ls lo B hb ha
    obtain ⟨r1, hod1, hL1, hfc1⟩ := B
    rw [List.map_cons, show am_v ad (.ref 1000000300) = .ref b from congrArg Value.ref hb]
    refine va_slen O.1.1 O.1.2.1 hX hbl hbA r1.2.2.2.1 (hcode _ _ hc).1 ?_
    exact hG j0 hx ad H locs ls lo ⟨r1, hod1, hL1, hfc1.1, am_p1 trivial (am_t1 hfc1.2)⟩ hb ha
  · intro x pc L st h j hc hj hG j0 hx ad H locs ls lo B hb ha
    obtain ⟨r1, hod1, hL1, hfc1⟩ := B
    rw [List.map_cons, List.map_cons, show am_v ad (.ref 1000000300) = .ref b from congrArg Value.ref hb, show am_v ad (.int j) = .int j from rfl]
    refine va_sld O.1.1 O.1.2.1 hX hbl hbA r1.2.2.2.1 (am_in_ok2 hj) (hcode _ _ hc).1 ?_
    exact hG j0 hx ad H locs ls lo ⟨r1, hod1, hL1, hfc1.1, am_p1 trivial (am_t1 (am_t1 hfc1.2))⟩ hb ha
  · intro x pc L st st' h pc' hs hG j0
    exact GW_go O hR.2.2 j0 (fun lo ha => ⟨lo, ha, am_G.one (hs lo)⟩) hG j0
  · intro x pc L st h idx mi ex hh M h1 v hq hM hc hlen hw hmet hgr hj1 hx1 hG j0 hx ad H locs ls lo B hb ha
    have i2 := hj1.2.1
    have i3 := hj1.2.2
    refine lx_call (x := x) (ex := ex) O ⟨hR.1, hR.2.1⟩ hnc hq hM B (hcode _ _ hc).1 hlen hw (hmet l hl) hgr (by omega) (by omega) (fun ad' H' locs' hext B' => ?_)
    exact hG hj1 hx1 ad' H' locs' ls lo B' ((hext _ (Or.inr (by omega))).trans hb) ha
  · intro x pc L st h idx w M' v h1 hc ht hM' hcan hT hj1 hG j0
    exact GW_go O hR.2.2 hj1 (fun lo ha => ⟨lo, ha, am_G.call sx_m_L_law hc ht hM' hcan hT⟩) hG j0
  · intro x pc L h hc j0 hx ad H locs ls lo B hb ha
    have i2 := j0.2.1
    have i3 := j0.2.2
    exact hend pc H locs ls _ _ hc B.1.2.2.2.1 (by omega) (by omega)
  · intro x pc L L' st h m' hm hG j0 hx ad H locs ls lo B hb ha
    exact hG j0 hx ad H locs ls lo B hb (fun k v hk => ha k v (l1_msk_at (l1_trim_at (by rw [hm]; exact hk))))
end GWS
theorem lo_get {ρ : Nat → Int32} {L : List Value} {lo : List (Nat × Value)} {k : Nat} {v : Value} (h : sx_rL ρ L lo) (hg : sx_g L k = some v) (hf : sx_isF v = false) (hw : ∀ w, sx_rel ρ v w → w = v) : am_get lo k = some v := by
  rcases h k v hg with h1 | ⟨w, h1, h2⟩
  · rw [hf] at h1; cases h1
  · rw [h1, hw w h2]
