/-! CALLS OF THE ABSTRACT MACHINE: what a method owes, and how a call of it goes -/
theorem am_nw_warm {s U : State} (hW : s.WarmedH U.vm) (h : ∀ w ∈ am_nw, va_Nw w s) : ∀ w ∈ am_nw, va_Nw w U := by
  intro w hw
  have h1 := h w hw
  have h2 := (List.mem_filter.mp hw).2
  unfold am_isN at h2
  split at h2
  · exact va_Nw.warmF hW h1
  · exact va_Nw.warmM hW h1
  · exact va_tabs rfl (rfl : (s.setVm U.vm).vm = U.vm) (by rw [Cond.castable_setVm hW.alike]; exact h1)
  · exact va_Nw.warmD hW h1
  · cases h2
theorem am_nw_ot {w : Cond} (hw : w ∈ am_nw) : w.onTables = true := by
  have h2 := (List.mem_filter.mp hw).2
  unfold am_isN at h2
  split at h2 <;> first | rfl | cases h2
/-- what was there before the law began: static rows, texts, statics -/
def am_Od (A : Nat → Prop) (ad : Nat → Nat) (U : State) (H : Heap) : Prop :=
  va_AO "ArchiveShelf$Archive" U ∧ va_AO "ArchiveShelf$Member" U ∧
  (∀ (j : Nat) (q : String × String × List Int32), am_sa[j]? = some q → va_Z q.1 q.2.1 "[I" (.ref (ad (1000000000 + j))) A U H ∧ va_T .int (ad (1000000000 + j)) q.2.2.length (fun i => .int (q.2.2.getD i 0)) A U H) ∧
  (∀ (j : Nat) (q : String × Nat × String × List Int32), am_st[j]? = some q → vk_R q.1 q.2.1 q.2.2.1 (ad (1000000100 + j)) U ∧ va_O "java/lang/String" (ad (1000000100 + j)) A U H ∧ va_OF "java/lang/String" "coder" "B" (.int 0) (ad (1000000100 + j)) A U H ∧ va_OF "java/lang/String" "value" "[B" (.ref (ad (1000000200 + j))) (ad (1000000100 + j)) A U H ∧ va_T .byte (ad (1000000200 + j)) q.2.2.2.length (fun i => .int (q.2.2.2.getD i 0)) A U H) ∧
  va_Z "java/lang/String" "COMPACT_STRINGS" "Z" (.int 1) A U H ∧ va_Zq "jdk/internal/util/Preconditions" "SIOOBE_FORMATTER" "Ljava/util/function/BiFunction;" A U H ∧ vx_Zq Bundle.tN "UNASSIGNED_STACK" Bundle.steD A U H ∧ vx_Zq Bundle.tN "SUPPRESSED_SENTINEL" Bundle.listD A U H
theorem am_Od.go {A : Nat → Prop} {ad : Nat → Nat} {s U : State} {H0 H : Heap} (hW : s.WarmedH U.vm) (hq : ∀ a : Nat, a < H0.size → ¬ A a → H[a]? = H0[a]?) (h : am_Od A ad s H0) : am_Od A ad U H := by
  obtain ⟨h1, h2, h3, h4, h5, h6, h7, h8⟩ := h
  refine ⟨h1.moved hW.alike, h2.moved hW.alike, fun j q hj => ?_, fun j q hj => ?_, (h5.moved hW.alike).kept hq, (h6.moved hW.alike).kept hq, (h7.moved hW.alike).kept hq, (h8.moved hW.alike).kept hq⟩
  · exact ⟨((h3 j q hj).1.moved hW.alike).kept hq, ((h3 j q hj).2.moved hW.alike).kept hq⟩
  · obtain ⟨k1, k2, k3, k4, k5⟩ := h4 j q hj
    exact ⟨k1.warm hW, (k2.moved hW.alike).kept hq, (k3.moved hW.alike).kept hq, (k4.moved hW.alike).kept hq, (k5.moved hW.alike).kept hq⟩
theorem am_Od.ext {A : Nat → Prop} {ad ad' : Nat → Nat} {U : State} {H : Heap} (hx : ∀ k, 1000000000 ≤ k → ad' k = ad k) (h : am_Od A ad U H) : am_Od A ad' U H := by
  obtain ⟨h1, h2, h3, h4, h5⟩ := h
  refine ⟨h1, h2, fun j q hj => ?_, fun j q hj => ?_, h5⟩
  · rw [hx (1000000000 + j) (by omega)]; exact h3 j q hj
  · rw [hx (1000000100 + j) (by omega), hx (1000000200 + j) (by omega)]; exact h4 j q hj
/-- a state at a call: the heap is the abstract one, the tables and the old things are as they were -/
def am_S (D : va_G) (cy : Nat → ClassId) (A : Nat → Prop) (ad : Nat → Nat) (h : am_H) (U : State) : Prop := va_K D am_cl (am_tys cy) U ∧ va_P D am_cl (am_wl cy ad h) U.heap ∧ va_D A (am_wl cy ad h) ∧ (∀ q, U.heap.size ≤ q → A q) ∧ am_cls h ∧ (∀ w ∈ am_nw, va_Nw w U) ∧ am_Od A ad U U.heap
def am_Pc (D : va_G) (cy : Nat → ClassId) (A : Nat → Prop) (ad : Nat → Nat) (h : am_H) (av : List Value) : Array Value → State → Prop := fun v U => v = (av.map (am_v ad)).toArray ∧ am_S D cy A ad h U
def am_Qc (D : va_G) (cy : Nat → ClassId) (A : Nat → Prop) (ad : Nat → Nat) (n : Nat) (v : Option Value) (h' : am_H) : Array Value → State → Outcome → State → Prop := fun _ st o t => ∃ ad' : Nat → Nat, (∀ k, k < n ∨ 1000000000 ≤ k → ad' k = ad k) ∧ o = .returned (v.map (am_v ad')) ∧ va_P D am_cl (am_wl cy ad' h') t.heap ∧ va_D A (am_wl cy ad' h') ∧ va_F A st t ∧ am_cls h' ∧ ∀ w, v = some w → am_cv h'.1 w
section AMC
variable {p : Program} {l : Launch} {e : Env} {R : Room} {s : State} {m : MethodId} {args : Array Value} {below : List Frame} {meth : Method} {c : Code} {H : Heap} {locs : List Loc} {cells slots : Nat} {Q : State → Prop}
variable {cc : ByteArray} {own : String} {pc : Nat} {ls : Array Slot} {ad : Nat → Nat} {D : va_G} {cy : Nat → ClassId} {A : Nat → Prop} {h : am_H}
theorem am_S.same {s U : State} (hvm : s.vm = U.vm) (hh : s.heap = U.heap) (hS : am_S D cy A ad h s) : am_S D cy A ad h U := by
  obtain ⟨h1, h2, h3, h4, h5, h6, h7⟩ := hS
  have hW : s.WarmedH U.vm := by rw [← hvm]; exact State.WarmedH.refl s
  refine ⟨va_K.moved hW.alike h1, by rw [← hh]; exact h2, h3, by rw [← hh]; exact h4, h5, am_nw_warm hW h6, ?_⟩
  rw [← hh]
  exact h7.go hW (fun _ _ _ => rfl)
theorem am_blind {av : List Value} : FrameBlind (am_Pc D cy A ad h av) := fun a U g mk q => ⟨q.1, am_S.same (s := U) (U := U.calling g mk a) rfl rfl q.2⟩
/-- the start of a call out of a method's own road -/
theorem am_pre (X : am_X cc own p s m args c) (r : am_R D cy A ad h s H locs) (hod : am_Od A ad s s.heap) (av : List Value) : ∀ U : State, U.heap = H → s.WarmedH U.vm → am_Pc D cy A ad h av ((av.map (am_v ad)).toArray) U := by
  intro U hU hW
  obtain ⟨hK, hP, hD, hS, hA, hcl⟩ := r
  refine ⟨rfl, va_K.moved hW.alike hK, by rw [hU]; exact hP, hD, fun q hq => hA q (Nat.le_trans hS.1 (by rw [← hU]; exact hq)), hcl, am_nw_warm hW (fun w hw => va_Nw.of (am_nw_ot hw) (X.2.2.2.2 w hw)), ?_⟩
  rw [hU]
  exact hod.go hW hS.2.1
/-- behind a call -/
theorem am_after {mc ms : Nat} {st0 rest : List Value} {Qa : State → Outcome → State → Prop} (hr : CallRun p l e R s m args below meth c H locs cells slots mc ms (F0 m pc ls st0) rest Qa A) (kk : ∀ (v : Option Value) (st₀ t : State) (L : List Loc), st₀.heap = H → (∀ q ∈ L, A q.base) → Qa st₀ (.returned v) t → W p l e R s m args below meth c t.heap (locs ++ L) (cells + mc) (slots + ms) Q (F0 m (pc + 3) ls (v.toList ++ rest))) : W p l e R s m args below meth c H locs cells slots Q (F0 m pc ls st0) := by
  intro T hT X
  obtain ⟨v, st₀, t, T', L, h0, X', hL, e1, hq, st⟩ := hr T hT X
  obtain ⟨t2, a1, b1⟩ := kk v st₀ t L h0 hL hq T' e1 X'
  exact ⟨t2, st t2 a1, b1⟩
end AMC
