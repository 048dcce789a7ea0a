section
/-! A METHOD'S RUN ON THE ABSTRACT MACHINE, and that the machine follows it -/
def am_fv (t : List (Nat × Nat × Nat × Nat)) (idx ci : Nat) : Option (Nat × Nat) := match t with
  | [] => none
  | e :: r => bif Nat.beq e.1 idx && Nat.beq e.2.1 ci then some e.2.2 else am_fv r idx ci
theorem am_fv_mem {t : List (Nat × Nat × Nat × Nat)} {idx ci : Nat} {u : Nat × Nat} (h : am_fv t idx ci = some u) : (idx, ci, u) ∈ t := by
  induction t with
  | nil => cases h
  | cons e r ih =>
    unfold am_fv at h
    cases hb : (Nat.beq e.1 idx && Nat.beq e.2.1 ci) with
    | true =>
      rw [hb] at h
      simp only [Bool.and_eq_true] at hb
      obtain ⟨e1, e2, e3⟩ := e
      cases h
      have h1 : e1 = idx := Nat.eq_of_beq_eq_true hb.1
      have h2 : e2 = ci := Nat.eq_of_beq_eq_true hb.2
      subst h1; subst h2
      exact List.mem_cons_self
    | false =>
      rw [hb] at h
      exact List.mem_cons_of_mem _ (ih h)
/-- where a call goes: the method, its arguments, what stays on the stack -/
def am_tgt (own : Nat) (i : Instr) (st : List Value) (h : am_H) : Option (Nat × List Value × List Value) := match i with
  | .invokevirtual idx => match am_fnd (am_vn own) idx with
    | some np => match st.drop np with
      | .ref o :: rest => bif Nat.blt o h.1 then (match am_fv (am_vt own) idx (h.2.2.2 o).1 with
        | some w => some (w.1, .ref o :: (st.take np).reverse, rest)
        | none => none) else none
      | _ => none
    | none => none
  | .invokestatic idx => match am_fnd (am_sst own) idx with
    | some w => match am_tab[w.1]? with
      | some M => some (w.1, (st.take M.2.2.2.2).reverse, st.drop M.2.2.2.2)
      | none => none
    | none => none
  | .invokespecial idx => match am_fnd (am_spt own) idx with
    | some w => match am_tab[w.1]? with
      | some M => match st.drop M.2.2.2.2 with
        | .ref o :: rest => some (w.1, .ref o :: (st.take M.2.2.2.2).reverse, rest)
        | _ => none
      | none => none
    | none => none
  | _ => none
def am_ths (i : Instr) : Nat := match i with
  | .invokestatic _ => 0
  | _ => 1
/-- the room, the stack and the arguments fit -/
def am_can (M M' : am_M) (i : Instr) (w : Nat × List Value × List Value) : Bool := Nat.ble (M'.1.2.2.2.1 + 1) M.1.2.2.2.1 && Nat.ble (8 + (M'.1.2.1 + 11) + M'.1.2.2.2.2.1) M.1.2.2.2.2.1 && Nat.ble ((w.2.2.map fun v => v.category).sum) 8 && Nat.ble (lg_sl w.2.1).length M'.1.2.1 && Nat.beq w.2.1.length (M'.2.2.2.2 + am_ths i)
def am_rok (ret : Option FieldType) (v : Int32) : Bool := match ret with
  | some .int => true
  | some .boolean => decide (v = 0) || decide (v = 1)
  | _ => false
/-- a return, and with what -/
def am_retv (i : Instr) (ret : Option FieldType) (st : List Value) : Option (Option Value) := match i with
  | .ireturn => match st with
    | [.int v] => bif am_rok ret v then some (some (.int v)) else none
    | _ => none
  | .lreturn => match st, ret with
    | [.long v], some .long => some (some (.long v))
    | _, _ => none
  | .areturn => match st, ret with
    | [.ref k], some (.object _) => some (some (.ref k))
    | [.null], some (.object _) => some (some .null)
    | _, _ => none
  | .return_ => match st, ret with
    | [], none => some none
    | _, _ => none
  | _ => none
/-- Math's two: by the class and the entry -/
def am_mt (o : Nat) : List (Nat × Nat) := match o with
  | 3 => [(28, 0), (34, 1)]
  | 8 => [(71, 0)]
  | _ => []
/-- the static rows by their numbers -/
def am_oal : List (Nat × List Int32) := am_sa.zipIdx.map fun q => (1000000000 + q.2, q.1.2.2)
theorem am_oal_at {o : Nat} {a : List Int32} (h : am_fnd am_oal o = some a) : ∃ (j : Nat) (q : String × String × List Int32), am_sa[j]? = some q ∧ o = 1000000000 + j ∧ a = q.2.2 := by
  obtain ⟨⟨q, j⟩, hq, e1⟩ := List.mem_map.mp (am_fnd_mem h)
  have h1 := List.mem_zipIdx_iff_getElem?.mp hq
  exact ⟨j, q, h1, (congrArg Prod.fst e1).symm, (congrArg Prod.snd e1).symm⟩
/-- a text's length and character: by the class and the entry -/
def am_tx (o : Nat) : List (Nat × Nat) := match o with
  | 2 => [(27, 0), (33, 1)]
  | 4 => [(150, 0)]
  | _ => []
/-- the texts by their numbers -/
def am_otl : List (Nat × List Int32) := am_st.zipIdx.map fun q => (1000000100 + q.2, q.1.2.2.2)
theorem am_otl_at {o : Nat} {a : List Int32} (h : am_fnd am_otl o = some a) : ∃ (j : Nat) (q : String × Nat × String × List Int32), am_st[j]? = some q ∧ o = 1000000100 + j ∧ a = q.2.2.2 := by
  obtain ⟨⟨q, j⟩, hq, e1⟩ := List.mem_map.mp (am_fnd_mem h)
  have h1 := List.mem_zipIdx_iff_getElem?.mp hq
  exact ⟨j, q, h1, (congrArg Prod.fst e1).symm, (congrArg Prod.snd e1).symm⟩
/-- Object's own constructor, static rows, Math's two, texts -/
def am_s2 (own fr lo : Nat) (i : Instr) (pc : Nat) (st : List Value) : Option (Nat × List Value) := match i with
  | .invokespecial idx => match st with
    | .ref _ :: r => bif (am_oi own).contains idx && Nat.ble 1 fr && Nat.ble ((r.map fun v => v.category).sum + 12) lo then some (pc + 3, r) else none
    | _ => none
  | .getstatic idx => match am_fnd (am_gt own) idx with
    | some j => some (pc + 3, .ref (1000000000 + j) :: st)
    | none => none
  | .iaload => match st with
    | .int j :: .ref o :: r => match am_fnd am_oal o with
      | some a => bif am_in j a.length then some (pc + 1, .int (a.getD j.toNatClampNeg 0) :: r) else none
      | none => none
    | _ => none
  | .arraylength => match st with
    | .ref o :: r => match am_fnd am_oal o with
      | some a => some (pc + 1, .int (Int32.ofNat a.length) :: r)
      | none => none
    | _ => none
  | .invokestatic idx => match st, am_fnd (am_mt own) idx with
    | .int y :: .int x :: r, some k => bif Nat.ble 1 fr && Nat.ble ((r.map fun v => v.category).sum + 13) lo then some (pc + 3, .int (if Nat.beq k 0 then (if y < x then y else x) else (if x < y then y else x)) :: r) else none
    | _, _ => none
  | .ldc idx => match am_fnd (am_stt own) idx with
    | some j => some (pc + 2, .ref (1000000100 + j) :: st)
    | none => none
  | .invokevirtual idx => match am_fnd (am_tx own) idx with
    | some 0 => match st with
      | .ref o :: r => match am_fnd am_otl o with
        | some a => bif Nat.ble 5 fr && Nat.ble 145 lo && Nat.ble ((r.map fun v => v.category).sum) 8 then some (pc + 3, .int (Int32.ofNat a.length) :: r) else none
        | none => none
      | _ => none
    | some 1 => match st with
      | .int j :: .ref o :: r => match am_fnd am_otl o with
        | some a => bif Nat.ble 5 fr && Nat.ble 145 lo && Nat.ble ((r.map fun v => v.category).sum) 8 && am_in j a.length then some (pc + 3, .int (a.getD j.toNatClampNeg 0) :: r) else none
        | none => none
      | _ => none
    | _ => none
  | _ => none
def am_exec : Nat → Nat → Nat → List (Nat × Value) → List Value → am_H → Option (Option Value × am_H)
  | 0, _, _, _, _, _ => none
  | n + 1, mi, pc, lo, st, h => match am_tab[mi]? with
    | none => none
    | some M => match M.1.2.2.2.2.2 pc with
      | none => none
      | some x => match am_retv x.1 M.2.2.1 st with
        | some v => some (v, h)
        | none => match am_tgt M.1.1 x.1 st h with
          | some w => match am_tab[w.1]? with
            | none => none
            | some M' => bif am_can M M' x.1 w then (match am_exec n w.1 0 (lv_args 0 w.2.1) [] h with
              | some r => am_exec n mi (pc + 3) lo (r.1.toList ++ w.2.2) r.2
              | none => none) else none
          | none => match am_s0 M.1.2.1 x.1 pc lo st with
            | some u => am_exec n mi u.1 u.2.1 u.2.2 h
            | none => match am_s1 M.1.1 M.1.2.2.1 x.1 pc st h with
              | some u => am_exec n mi u.1 lo u.2.1 u.2.2
              | none => match am_s2 M.1.1 M.1.2.2.2.1 M.1.2.2.2.2.1 x.1 pc st with
                | some u => am_exec n mi u.1 lo u.2 h
                | none => none
theorem am_s1_gr {own pc : Nat} {ini : Bool} {i : Instr} {st : List Value} {h : am_H} {u : Nat × List Value × am_H} (hs : am_s1 own ini i pc st h = some u) : am_gr h u.2.2 := by
  unfold am_s1 at hs
  split at hs <;> (first | (split at hs) | skip) <;> (first | (cases hs; done) | skip) <;> (first | (replace hs := (am_cg hs).2) | skip) <;> (first | (split at hs) | skip) <;> (first | (cases hs; done) | skip) <;> (first | (replace hs := (am_cg hs).2) | skip) <;> (cases hs; first | exact am_gr.rf | exact am_gr.new)
theorem am_exec_gr : ∀ {n mi pc : Nat} {lo : List (Nat × Value)} {st : List Value} {h : am_H} {r : Option Value × am_H}, am_exec n mi pc lo st h = some r → am_gr h r.2 := by
  intro n
  induction n with
  | zero => intro mi pc lo st h r hx; cases hx
  | succ n ih =>
    intro mi pc lo st h r hx
    unfold am_exec at hx
    split at hx
    · cases hx
    · split at hx
      · cases hx
      · split at hx
        · cases hx; exact am_gr.rf
        · split at hx
          · split at hx
            · cases hx
            · obtain ⟨-, hx⟩ := am_cg hx
              split at hx
              · rename_i h1
                exact (ih h1).tr (ih hx)
              · cases hx
          · split at hx
            · exact ih hx
            · split at hx
              · rename_i h1
                exact (am_s1_gr h1).tr (ih hx)
              · split at hx
                · exact ih hx
                · cases hx
theorem am_v_eq {ad ad' : Nat → Nat} {n : Nat} {v : Value} (hx : ∀ k, k < n ∨ 1000000000 ≤ k → ad' k = ad k) (h : am_cv n v) : am_v ad' v = am_v ad v := by
  cases v with
  | ref k => exact congrArg Value.ref (hx k h)
  | _ => rfl
theorem am_map_eq {ad ad' : Nat → Nat} {n : Nat} {st : List Value} (hx : ∀ k, k < n ∨ 1000000000 ≤ k → ad' k = ad k) (h : ∀ v ∈ st, am_cv n v) : st.map (am_v ad') = st.map (am_v ad) := List.map_congr_left fun v hv => am_v_eq hx (h v hv)
theorem am_lo_eq {ad ad' : Nat → Nat} {n : Nat} {lo : List (Nat × Value)} (hx : ∀ k, k < n ∨ 1000000000 ≤ k → ad' k = ad k) (h : ∀ q ∈ lo, am_cv n q.2) : am_lo ad' lo = am_lo ad lo := List.map_congr_left fun q hq => by rw [am_v_eq hx (h q hq)]
theorem am_args_lo {ad : Nat → Nat} : ∀ (i : Nat) (av : List Value), lv_args i (av.map (am_v ad)) = am_lo ad (lv_args i av)
  | _, [] => rfl
  | i, v :: vs => by
    simp only [List.map_cons, lv_args, am_v_cat]
    rw [am_args_lo _ vs]
theorem am_args_cl {n : Nat} : ∀ {i : Nat} {av : List Value}, (∀ v ∈ av, am_cv n v) → ∀ q ∈ lv_args i av, am_cv n q.2
  | _, [], _ => fun q hq => by cases hq
  | i, v :: vs, h => fun q hq => by
    rcases List.mem_cons.mp hq with rfl | hq
    · exact am_h1 h
    · exact am_args_cl (am_t1 h) q hq
theorem am_sl_len {ad : Nat → Nat} : ∀ (av : List Value), (lg_sl (av.map (am_v ad))).length = (lg_sl av).length
  | [] => rfl
  | v :: vs => by
    simp only [lg_sl, List.map_cons, List.flatMap_cons, List.length_append, am_v_cat] at *
    have := am_sl_len (ad := ad) vs
    simp only [lg_sl] at this
    rw [this]
    split <;> rfl
/-- from here the method comes to its end, with v and the heap h' -/
def am_Sim (l : Launch) (M : am_M) (pc : Nat) (lo : List (Nat × Value)) (st : List Value) (h : am_H) (v : Option Value) (h' : am_H) : Prop :=
  ∀ (p : Program) (e : Env) (s : State) (m : MethodId) (args : Array Value) (below : List Frame) (meth : Method) (c : Code) (R : Room) (H : Heap) (locs : List Loc) (cells slots mc ms : Nat) (D : va_G) (cy : Nat → ClassId) (A : Nat → Prop) (ad ad0 : Nat → Nat) (n0 : Nat) (ls : Array Slot),
    am_X M.2.1 (am_cn M.1.1) p s m args c → c.maxLocals = M.1.2.1 → meth.sig.returnType = M.2.2.1 → meth.locks = false → (M.1.2.2.1 = true → meth.name = "<init>") → M.1.2.2.2.1 ≤ R.frames → M.1.2.2.2.2.1 ≤ R.locals →
    am_R D cy A ad h s H locs → am_Od A ad s s.heap → lv_has ls M.1.2.1 (am_lo ad lo) → am_fc h.1 lo st → n0 ≤ h.1 → (∀ k, k < n0 ∨ 1000000000 ≤ k → ad k = ad0 k) →
    cells + (h'.2.1 - h.2.1) = mc → slots + (h'.2.2.1 - h.2.2.1) = ms → mc ≤ R.cells → ms ≤ R.slots →
    W p l e R s m args below meth c H locs cells slots (MQ below (am_Qc D cy A ad0 n0 v h') args s mc ms A) (F0 m pc ls (st.map (am_v ad)))
theorem am_met {l : Launch} {M : am_M} {av : List Value} {h h1 : am_H} {v : Option Value} {D : va_G} {cy : Nat → ClassId} {A : Nat → Prop} {ad : Nat → Nat} {mc ms : Nat} (hmo : am_mok M) (hin : M.1.2.2.1 = true → M.2.2.2.1.name = "<init>") (hcn : M.2.2.2.1.cls = am_cn M.1.1) (hs : am_Sim l M 0 (lv_args 0 av) [] h v h1) (hc : ∀ w ∈ av, am_cv h.1 w) (hl : (lg_sl av).length ≤ M.1.2.1) (hmc : h1.2.1 - h.2.1 = mc) (hms : h1.2.2.1 - h.2.2.1 = ms) :
    Met l M.2.2.2.1 (am_ws M) { frames := M.1.2.2.2.1, cells := mc, slots := ms, locals := M.1.2.2.2.2.1 } (am_Pc D cy A ad h av) (am_Qc D cy A ad h.1 v h1) mc ms A := by
  obtain ⟨-, -, m3, -⟩ := am_mok_spec hmo
  refine Met.ofW (cc := M.2.1) (maxL := M.1.2.1) (ret := M.2.2.1) m3 rfl ?_
  intro p e s m args below meth c s₁ B hml hv
  obtain ⟨rfl, hK, hP, hD, hA, hcl, hnw, hod⟩ := hv
  have hts := atoms_spec (ws := am_ws M) B.pre
  have hown : s.vm.findClass M.2.2.2.1.cls = some m.cls := findClass_of_methodNamed B.named
  have hnm : meth.name = M.2.2.2.1.name := (name_of_methodNamed B.named B.method).1
  have hle := lv_entry (av.map (am_v ad)) (n := M.1.2.1) (by rw [am_sl_len]; exact hl)
  rw [lg_entry_eq]
  generalize (lg_sl (av.map (am_v ad)) ++ List.replicate (M.1.2.1 - (lg_sl (av.map (am_v ad))).length) Slot.unset).toArray = ls at hle ⊢
  rw [am_args_lo] at hle
  have hX : am_X M.2.1 (am_cn M.1.1) p s m (av.map (am_v ad)).toArray c := ⟨B.exec, B.bytes, by rw [← hcn]; exact hown, fun w hw => hts w (List.mem_cons_of_mem _ hw), fun w hw => va_Nw.use (am_nw_ot hw) (hnw w hw)⟩
  exact hs p e s m _ below meth c _ s.heap [] 0 0 mc ms D cy A ad ad h.1 ls hX hml B.returns B.notSynchronized (fun q => by rw [hnm]; exact hin q) (Nat.le_refl _) (Nat.le_refl _) ⟨hK, hP, hD, va_S.rf, hA, hcl⟩ hod hle ⟨am_args_cl hc, fun v hv => by cases hv⟩ (Nat.le_refl _) (fun _ _ => rfl) (by rw [Nat.zero_add]; exact hmc) (by rw [Nat.zero_add]; exact hms) (Nat.le_refl _) (Nat.le_refl _)
theorem am_tab_f {mi : Nat} {M : am_M} (h : am_tab[mi]? = some M) : M.1.1 < 17 ∧ (M.1.2.2.1 = true → M.2.2.2.1.name = "<init>") ∧ M.2.2.2.1.cls = am_cn M.1.1 := by
  have h1 := List.all_eq_true.mp am_tab_own M (List.mem_of_getElem? h)
  simp only [Bool.and_eq_true, Bool.or_eq_true, Bool.not_eq_true'] at h1
  obtain ⟨⟨h1, h2⟩, h3⟩ := h1
  exact ⟨Nat.blt_eq.mp h1, fun q => h2.elim (fun f => by rw [f] at q; cases q) of_decide_eq_true, of_decide_eq_true h3⟩
section AMN
variable {p : Program} {l : Launch} {e : Env} {R : Room} {s : State} {m : MethodId} {args : Array Value} {below : List Frame} {meth : Method} {c : Code} {H : Heap} {locs : List Loc} {cells slots : Nat}
variable {cc : ByteArray} {pc : Nat} {ls : Array Slot} {ad ad0 : Nat → Nat} {n0 : Nat} {D : va_G} {cy : Nat → ClassId} {A : Nat → Prop} {h : am_H} {own : String} {st : List Value} {i : Instr} {len : Nat} {v : Option Value} {ret : Option FieldType}
theorem am_r_ret (X : am_X cc own p s m args c) (hret : meth.sig.returnType = ret) (hlk : meth.locks = false) (r : am_R D cy A ad h s H locs) (hc : ∀ w ∈ st, am_cv h.1 w) (had : ∀ k, k < n0 ∨ 1000000000 ≤ k → ad k = ad0 k) (hd : decode cc pc = .ok (i, len)) (hlen : am_len i = 0 ∨ len = am_len i) (hv : am_retv i ret st = some v) :
    W p l e R s m args below meth c H locs cells slots (MQ below (am_Qc D cy A ad0 n0 v h) args s cells slots A) (F0 m pc ls (st.map (am_v ad))) := by
  obtain ⟨hK, hP, hD, hS, hA, hcl⟩ := r
  have hq : (∀ w, v = some w → am_cv h.1 w) → ∀ t : State, t.heap = H → am_Qc D cy A ad0 n0 v h args s (.returned (v.map (am_v ad))) t := fun hcv t ht => ⟨ad, had, rfl, by rw [ht]; exact hP, hD, hS.F ht, hcl, hcv⟩
  unfold am_retv at hv
  split at hv
  · replace hlen : len = 1 := by rcases hlen with q | q; exact absurd q (by simp [am_len]); simpa [am_len] using q
    subst hlen
    split at hv
    · obtain ⟨hb, rfl⟩ := am_cf hv
      have hq := hq (fun w hw => by cases hw; trivial)
      unfold am_rok at hb
      split at hb
      · exact W.zret X.1 X.2.1 hret rfl (fun t ht _ => hq t ht) hS.2.2 hd hlk
      · simp only [Bool.or_eq_true, decide_eq_true_eq] at hb
        exact W.zret X.1 X.2.1 hret (by rcases hb with rfl | rfl <;> decide +kernel) (fun t ht _ => hq t ht) hS.2.2 hd hlk
      · cases hb
    · cases hv
  · replace hlen : len = 1 := by rcases hlen with q | q; exact absurd q (by simp [am_len]); simpa [am_len] using q
    subst hlen
    split at hv
    · cases hv
      have hq := hq (fun w hw => by cases hw; trivial)
      exact W.lret X.1 X.2.1 hret (fun t ht _ => hq t ht) hS.2.2 hd hlk
    · cases hv
  · replace hlen : len = 1 := by rcases hlen with q | q; exact absurd q (by simp [am_len]); simpa [am_len] using q
    subst hlen
    split at hv
    · cases hv
      have hq := hq (fun w hw => by cases hw; exact am_h1 hc)
      exact W.aret X.1 X.2.1 hret (Or.inl ⟨_, rfl⟩) (Or.inr ⟨_, rfl⟩) (fun t ht _ => hq t ht) hS.2.2 hd hlk
    · cases hv
      have hq := hq (fun w hw => by cases hw; trivial)
      exact W.aret X.1 X.2.1 hret (Or.inl ⟨_, rfl⟩) (Or.inl rfl) (fun t ht _ => hq t ht) hS.2.2 hd hlk
    · cases hv
  · replace hlen : len = 1 := by rcases hlen with q | q; exact absurd q (by simp [am_len]); simpa [am_len] using q
    subst hlen
    split at hv
    · cases hv
      have hq := hq (fun w hw => by cases hw)
      exact W.vret X.1 X.2.1 hret (fun t ht _ => hq t ht) hS.2.2 hd hlk
    · cases hv
  · cases hv
theorem am_old {n j : Nat} : am_cv n (.ref (1000000000 + j)) := by
  have h : 1000000000 ≤ 1000000000 + j := by omega
  exact Or.inr h
theorem am_old2 {n j : Nat} : am_cv n (.ref (1000000100 + j)) := by
  have h : 1000000000 ≤ 1000000100 + j := by omega
  exact Or.inr h
theorem am_old2_v {ad : Nat → Nat} {j : Nat} : am_v ad (.ref (1000000100 + j)) = .ref (ad (1000000100 + j)) := rfl
theorem am_old_v {ad : Nat → Nat} {j : Nat} : am_v ad (.ref (1000000000 + j)) = .ref (ad (1000000000 + j)) := rfl
theorem am_s2_cl {own fr lo n : Nat} {u : Nat × List Value} (hs : am_s2 own fr lo i pc st = some u) (hc : ∀ v ∈ st, am_cv n v) : ∀ v ∈ u.2, am_cv n v := by
  unfold am_s2 at hs
  split at hs
  · split at hs
    · obtain ⟨-, rfl⟩ := am_cf hs
      exact am_t1 hc
    · cases hs
  · split at hs
    · cases hs
      exact am_p1 am_old hc
    · cases hs
  · split at hs
    · split at hs
      · obtain ⟨-, rfl⟩ := am_cf hs
        exact am_p1 trivial (am_t1 (am_t1 hc))
      · cases hs
    · cases hs
  · split at hs
    · split at hs
      · cases hs
        exact am_p1 trivial (am_t1 hc)
      · cases hs
    · cases hs
  · split at hs
    · obtain ⟨-, rfl⟩ := am_cf hs
      exact am_p1 trivial (am_t1 (am_t1 hc))
    · cases hs
  · split at hs
    · cases hs
      exact am_p1 am_old2 hc
    · cases hs
  · split at hs
    · split at hs
      · split at hs
        · obtain ⟨-, rfl⟩ := am_cf hs
          exact am_p1 trivial (am_t1 hc)
        · cases hs
      · cases hs
    · split at hs
      · split at hs
        · obtain ⟨-, rfl⟩ := am_cf hs
          exact am_p1 trivial (am_t1 (am_t1 hc))
        · cases hs
      · cases hs
    · cases hs
  · cases hs
theorem am_mw0 : Cond.initialized "java/lang/Math" ∈ am_gd ∧ Cond.static Lib.Math.min.name ∈ am_gd ∧ Cond.code Lib.Math.min.name Lib.Math.min.code 2 (some .int) ∈ am_gd ∧ Cond.static Lib.Math.max.name ∈ am_gd ∧ Cond.code Lib.Math.max.name Lib.Math.max.code 2 (some .int) ∈ am_gd :=
  ⟨am_gd_in (am_tb1 (List.mem_of_getElem? (i := 7) rfl)) rfl, am_gd_in (am_tb1 (List.mem_of_getElem? (i := 123) rfl)) rfl, am_gd_in (am_tb1 (List.mem_of_getElem? (i := 124) rfl)) rfl, am_gd_in (am_tb1 (List.mem_of_getElem? (i := 126) rfl)) rfl, am_gd_in (am_tb1 (List.mem_of_getElem? (i := 127) rfl)) rfl⟩
def am_mtok (own : String) (e : Nat × Nat) : Bool := (Nat.beq e.2 0 && decide (Cond.methodLink own e.1 Lib.Math.min.name ∈ lw_tbl)) || (Nat.beq e.2 1 && decide (Cond.methodLink own e.1 Lib.Math.max.name ∈ lw_tbl))
def am_txok (own : String) (e : Nat × Nat) : Bool := (Nat.beq e.2 0 && decide (Cond.methodLink own e.1 yJ0_length_8abf5 ∈ lw_tbl)) || (Nat.beq e.2 1 && decide (Cond.methodLink own e.1 yJ0_charAt_5068e ∈ lw_tbl))
theorem am_tx_all : (List.range 17).all (fun o => (am_tx o).all (am_txok (am_cn o))) = true := by decide +kernel
theorem am_mt_all : (List.range 17).all (fun o => (am_mt o).all (am_mtok (am_cn o))) = true := by decide +kernel
theorem am_cat_eq {r : List Value} : ((r.map (am_v ad)).map fun v => v.category).sum = (r.map fun v => v.category).sum := by
  rw [List.map_map]; congr 1; apply List.map_congr_left; intro v _; exact am_v_cat ad v
theorem am_s2_ok {own : Nat} {fr lo nL : Nat} {u : Nat × List Value} {Q : State → Prop} (X : am_X cc (am_cn own) p s m args c) (hown : own < 17) (hml : c.maxLocals = nL) (hsz : ls.size = nL) (hfr : fr ≤ R.frames) (hlo : lo ≤ R.locals) (hrc : cells ≤ R.cells) (hrs : slots ≤ R.slots) (hS : va_S A s.heap H locs) (hod : am_Od A ad s s.heap) (hd : decode cc pc = .ok (i, len)) (hlen : am_len i = 0 ∨ len = am_len i) (hs : am_s2 own fr lo i pc st = some u) (k : W p l e R s m args below meth c H locs cells slots Q (F0 m u.1 ls (u.2.map (am_v ad)))) : W p l e R s m args below meth c H locs cells slots Q (F0 m pc ls (st.map (am_v ad))) := by
  unfold am_s2 at hs
  split at hs
  · replace hlen : len = 3 := by rcases hlen with q | q; exact absurd q (by simp [am_len]); simpa [am_len] using q
    subst hlen
    split at hs
    · rename_i idx k0 r0
      obtain ⟨hb, rfl⟩ := am_cf hs
      obtain ⟨hb, h3⟩ := am_b2 hb
      obtain ⟨h1, h2⟩ := am_b2 hb
      have hlink := am_all am_oi_all hown (List.contains_iff_mem.mp h1)
      have h3 := Nat.le_of_ble_eq_true h3
      have h2 := Nat.le_of_ble_eq_true h2
      refine W.objInit X.1 X.2.1 X.2.2.1 (X.2.2.2.1 _ (am_gd_of hlink rfl)) (X.2.2.2.1 _ (am_gd_in am_obj.1 rfl)) (X.2.2.2.1 _ (am_gd_in am_obj.2 rfl)) rfl (by rw [hml]; exact hsz) rfl hd (by omega) ?_ k
      have e1 := am_cat_eq (ad := ad) (r := r0)
      show 2 * 0 + _ + 12 ≤ _
      rw [e1]
      omega
    · cases hs
  · replace hlen : len = 3 := by rcases hlen with q | q; exact absurd q (by simp [am_len]); simpa [am_len] using q
    subst hlen
    split at hs
    · rename_i idx j hf
      cases hs
      have hok := am_all am_gt_all hown (am_fnd_mem hf)
      unfold am_gtok at hok
      split at hok
      · rename_i q hq
        have hq : am_sa[j]? = some q := hq
        rw [List.map_cons, am_old_v] at k
        exact va_gets X.1 X.2.1 (hod.2.2.1 j q hq).1 hS X.2.2.1 (X.2.2.2.1 _ (am_gd_of hok rfl)) (fun _ h9 => h9) hd k
      · cases hok
    · cases hs
  · replace hlen : len = 1 := by rcases hlen with q | q; exact absurd q (by simp [am_len]); simpa [am_len] using q
    subst hlen
    split at hs
    · rename_i j o r0
      split at hs
      · rename_i a ha
        obtain ⟨h2, rfl⟩ := am_cf hs
        obtain ⟨jj, q, hq, rfl, rfl⟩ := am_oal_at ha
        exact va_ti X.1 X.2.1 (hod.2.2.1 jj q hq).2 hS (am_in_ok2 h2) rfl hd k
      · cases hs
    · cases hs
  · replace hlen : len = 1 := by rcases hlen with q | q; exact absurd q (by simp [am_len]); simpa [am_len] using q
    subst hlen
    split at hs
    · rename_i o r0
      split at hs
      · rename_i a ha
        cases hs
        obtain ⟨jj, q, hq, rfl, rfl⟩ := am_oal_at ha
        exact va_tlen X.1 X.2.1 (hod.2.2.1 jj q hq).2 hS rfl hd k
      · cases hs
    · cases hs
  · replace hlen : len = 3 := by rcases hlen with q | q; exact absurd q (by simp [am_len]); simpa [am_len] using q
    subst hlen
    split at hs
    · rename_i idx _ y x r0 k0 hf
      obtain ⟨hb, rfl⟩ := am_cf hs
      obtain ⟨h2, h3⟩ := am_b2 hb
      have h3 := Nat.le_of_ble_eq_true h3
      have h2 := Nat.le_of_ble_eq_true h2
      have hok := am_all am_mt_all hown (am_fnd_mem hf)
      unfold am_mtok at hok
      simp only [Bool.or_eq_true] at hok
      obtain ⟨w0, w1, w2, w3, w4⟩ := am_mw0
      have e1 := am_cat_eq (ad := ad) (r := r0)
      have hts := X.2.2.2.1
      rcases hok with hk | hk
      · obtain ⟨k1, k2⟩ := am_b2 hk
        have k1 : k0 = 0 := Nat.eq_of_beq_eq_true k1
        subst k1
        exact va_mmin X.1 X.2.1 (by rw [hml, hsz]) X.2.2.1 (hts _ (am_gd_of k2 rfl)) (hts _ w1) (hts _ w0) (hts _ w2) (by omega) (by rw [e1]; omega) hrc hrs hd k
      · obtain ⟨k1, k2⟩ := am_b2 hk
        have k1 : k0 = 1 := Nat.eq_of_beq_eq_true k1
        subst k1
        exact va_mmax X.1 X.2.1 (by rw [hml, hsz]) X.2.2.1 (hts _ (am_gd_of k2 rfl)) (hts _ w3) (hts _ w0) (hts _ w4) (by omega) (by rw [e1]; omega) hrc hrs hd k
    · cases hs
  · replace hlen : len = 2 := by rcases hlen with q | q; exact absurd q (by simp [am_len]); simpa [am_len] using q
    subst hlen
    split at hs
    · rename_i idx _ j hf
      cases hs
      have hok := am_all am_stt_all hown (am_fnd_mem hf)
      unfold am_sttok at hok
      split at hok
      · rename_i q hq
        have hq : am_st[j]? = some q := hq
        obtain ⟨s1, s2⟩ := am_b2 hok
        have s1 : q.1 = am_cn own := of_decide_eq_true s1
        have s2 : q.2.1 = idx := Nat.eq_of_beq_eq_true s2
        have k1 := (hod.2.2.2.1 j q hq).1
        rw [s1, s2] at k1
        rw [List.map_cons, am_old2_v] at k
        exact va_ldcS X.1 X.2.1 X.2.2.1 k1 hd k
      · cases hok
    · cases hs
  · replace hlen : len = 3 := by rcases hlen with q | q; exact absurd q (by simp [am_len]); simpa [am_len] using q
    subst hlen
    split at hs
    · rename_i idx _ hf
      have hok := am_all am_tx_all hown (am_fnd_mem hf)
      have hok : Cond.methodLink (am_cn own) idx yJ0_length_8abf5 ∈ lw_tbl := by
        unfold am_txok at hok
        rcases Bool.or_eq_true_iff.mp hok with hk | hk
        · exact of_decide_eq_true (am_b2 hk).2
        · cases (am_b2 hk).1
      split at hs
      · rename_i o r0
        split at hs
        · rename_i a ha
          obtain ⟨hb, rfl⟩ := am_cf hs
          obtain ⟨hb, h3⟩ := am_b2 hb
          obtain ⟨h1, h2⟩ := am_b2 hb
          have h1 := Nat.le_of_ble_eq_true h1
          have h2 := Nat.le_of_ble_eq_true h2
          have h3 := Nat.le_of_ble_eq_true h3
          obtain ⟨jj, q, hq, rfl, rfl⟩ := am_otl_at ha
          exact am_txtL X hml hsz (by omega) (by omega) hrc hrs hS hod hq hok hd h3 k
        · cases hs
      · cases hs
    · rename_i idx _ hf
      have hok := am_all am_tx_all hown (am_fnd_mem hf)
      have hok : Cond.methodLink (am_cn own) idx yJ0_charAt_5068e ∈ lw_tbl := by
        unfold am_txok at hok
        rcases Bool.or_eq_true_iff.mp hok with hk | hk
        · cases (am_b2 hk).1
        · exact of_decide_eq_true (am_b2 hk).2
      split at hs
      · rename_i j o r0
        split at hs
        · rename_i a ha
          obtain ⟨hb, rfl⟩ := am_cf hs
          obtain ⟨hb, h4⟩ := am_b2 hb
          obtain ⟨hb, h3⟩ := am_b2 hb
          obtain ⟨h1, h2⟩ := am_b2 hb
          have h1 := Nat.le_of_ble_eq_true h1
          have h2 := Nat.le_of_ble_eq_true h2
          have h3 := Nat.le_of_ble_eq_true h3
          obtain ⟨jj, q, hq, rfl, rfl⟩ := am_otl_at ha
          exact am_txtC X hml hsz (by omega) (by omega) hrc hrs hS hod hq hok hd h3 h4 k
        · cases hs
      · cases hs
    · cases hs
  · cases hs
end AMN
end
section
/-! THE MACHINE FOLLOWS THE ABSTRACT ONE -/
theorem am_tgt_cl {own : Nat} {i : Instr} {st : List Value} {h : am_H} {w : Nat × List Value × List Value} {n : Nat} (hs : am_tgt own i st h = some w) (hc : ∀ v ∈ st, am_cv n v) : (∀ v ∈ w.2.1, am_cv n v) ∧ ∀ v ∈ w.2.2, am_cv n v := by
  have hT : ∀ k, ∀ v ∈ (st.take k).reverse, am_cv n v := fun k v hv => hc v (List.mem_of_mem_take (List.mem_reverse.mp hv))
  have hD : ∀ k, ∀ v ∈ st.drop k, am_cv n v := fun k v hv => hc v (List.mem_of_mem_drop hv)
  unfold am_tgt at hs
  split at hs
  · split at hs
    · rename_i np _
      split at hs
      · rename_i o rest hdr
        obtain ⟨-, hs⟩ := am_cg hs
        have h2 := hD np
        rw [hdr] at h2
        split at hs
        · cases hs
          exact ⟨am_p1 (am_h1 h2) (hT np), am_t1 h2⟩
        · cases hs
      · cases hs
    · cases hs
  · split at hs
    · split at hs
      · cases hs
        exact ⟨hT _, hD _⟩
      · cases hs
    · cases hs
  · split at hs
    · split at hs
      · rename_i M _
        split at hs
        · rename_i o rest hdr
          have h2 := hD M.2.2.2.2
          rw [hdr] at h2
          cases hs
          exact ⟨am_p1 (am_h1 h2) (hT _), am_t1 h2⟩
        · cases hs
      · cases hs
    · cases hs
  · cases hs
section AMG
variable {p : Program} {l : Launch} {e : Env} {R : Room} {s : State} {m : MethodId} {args : Array Value} {below : List Frame} {meth : Method} {c : Code} {H : Heap} {locs : List Loc} {cells slots : Nat}
variable {cc : ByteArray} {pc nL own : Nat} {ls : Array Slot} {ad : Nat → Nat} {D : va_G} {cy : Nat → ClassId} {A : Nat → Prop} {h : am_H} {st : List Value} {i : Instr} {len : Nat}
variable {rm : Room} {Qc : Array Value → State → Outcome → State → Prop} {mc ms : Nat} {M : am_M} {w : Nat × List Value × List Value}
/-- the call, whatever its kind -/
theorem am_run (X : am_X cc (am_cn own) p s m args c) (hown : own < 17) (hml : c.maxLocals = nL) (r : am_R D cy A ad h s H locs) (hod : am_Od A ad s s.heap) (hM' : am_tab[w.1]? = some M) (ht : am_tgt own i st h = some w) (hlen2 : w.2.1.length = M.2.2.2.2 + am_ths i)
    (hM : am_mok M → Met l M.2.2.2.1 (am_ws M) rm (am_Pc D cy A ad h w.2.1) Qc mc ms A) (hrm : rm.cells = mc ∧ rm.slots = ms) (hR : rm.frames + 1 ≤ R.frames ∧ 8 + (M.1.2.1 + 11) + rm.locals ≤ R.locals) (hsize : ls.size = nL) (hw : (w.2.2.map fun v => v.category).sum ≤ 8) (hd : decode cc pc = .ok (i, len)) (hlen : am_len i = 0 ∨ len = am_len i) (hf : cells + mc ≤ R.cells ∧ slots + ms ≤ R.slots) :
    CallRun p l e R s m args below meth c H locs cells slots mc ms (F0 m pc ls (st.map (am_v ad))) (w.2.2.map (am_v ad)) (Qc (w.2.1.map (am_v ad)).toArray) A := by
  unfold am_tgt at ht
  split at ht
  · replace hlen : len = 3 := by rcases hlen with q | q; exact absurd q (by simp [am_len]); simpa [am_len] using q
    subst hlen
    split at ht
    · rename_i idx np hnp
      split at ht
      · rename_i o rest hdr
        obtain ⟨ho, ht⟩ := am_cg ht
        split at ht
        · rename_i w0 hf0
          cases ht
          have hok := am_vx_all own hown _ (am_fv_mem hf0)
          have hst : st = (st.take np).reverse.reverse ++ .ref o :: rest := by rw [List.reverse_reverse, ← hdr, List.take_append_drop]
          have hn : (st.take np).reverse.length = M.2.2.2.2 := by
            have : (Value.ref o :: (st.take np).reverse).length = M.2.2.2.2 + 1 := hlen2
            simpa using this
          have hmo : am_mok M := by
            obtain ⟨M2, hM2, -, hmo, -⟩ := hok
            cases Option.some.inj (hM2.symm.trans hM')
            exact hmo
          have z := am_runV (e := e) (below := below) (meth := meth) (ls := ls) (rest := rest) X hml r hod hM' hok (Nat.blt_eq.mp ho) rfl hn (hM hmo) hrm hR hsize hw hd hf
          rw [← hst] at z
          exact z
        · cases ht
      · cases ht
    · cases ht
  · replace hlen : len = 3 := by rcases hlen with q | q; exact absurd q (by simp [am_len]); simpa [am_len] using q
    subst hlen
    split at ht
    · rename_i idx w0 hf0
      split at ht
      · rename_i M0 hM0
        cases ht
        cases Option.some.inj (hM0.symm.trans hM')
        have hok := am_sx_all own hown _ (am_fnd_mem hf0)
        have hst : st = (st.take M.2.2.2.2).reverse.reverse ++ st.drop M.2.2.2.2 := by rw [List.reverse_reverse, List.take_append_drop]
        have hmo : am_mok M := by
          obtain ⟨M2, hM2, hmo, -⟩ := hok
          cases Option.some.inj (hM2.symm.trans hM')
          exact hmo
        have z := am_runS (e := e) (below := below) (meth := meth) (ls := ls) (rest := st.drop M.2.2.2.2) X hml r hod hM' hok hlen2 (hM hmo) hrm hR hsize hw hd hf
        rw [← hst] at z
        exact z
      · cases ht
    · cases ht
  · replace hlen : len = 3 := by rcases hlen with q | q; exact absurd q (by simp [am_len]); simpa [am_len] using q
    subst hlen
    split at ht
    · rename_i idx w0 hf0
      split at ht
      · rename_i M0 hM0
        split at ht
        · rename_i o rest hdr
          cases ht
          cases Option.some.inj (hM0.symm.trans hM')
          have hok := am_px_all own hown _ (am_fnd_mem hf0)
          have hst : st = (st.take M.2.2.2.2).reverse.reverse ++ .ref o :: rest := by rw [List.reverse_reverse, ← hdr, List.take_append_drop]
          have hn : (st.take M.2.2.2.2).reverse.length = M.2.2.2.2 := by
            have : (Value.ref o :: (st.take M.2.2.2.2).reverse).length = M.2.2.2.2 + 1 := hlen2
            simpa using this
          have hmo : am_mok M := by
            obtain ⟨M2, hM2, hmo, -⟩ := hok
            cases Option.some.inj (hM2.symm.trans hM')
            exact hmo
          have z := am_runI (e := e) (below := below) (meth := meth) (ls := ls) (rest := rest) X hml r hod hM' hok hn (hM hmo) hrm hR hsize hw hd hf
          rw [← hst] at z
          exact z
        · cases ht
      · cases ht
    · cases ht
  · cases ht
end AMG
set_option maxHeartbeats 4000000 in
theorem am_sim (l : Launch) : ∀ (n mi : Nat) (M : am_M) (pc : Nat) (lo : List (Nat × Value)) (st : List Value) (h : am_H) (v : Option Value) (h' : am_H), am_tab[mi]? = some M → am_exec n mi pc lo st h = some (v, h') → am_Sim l M pc lo st h v h' := by
  intro n
  induction n with
  | zero => intro mi M pc lo st h v h' _ hx; cases hx
  | succ n ih =>
    intro mi M pc lo st h v h' hM hx p e s m args below meth c R H locs cells slots mc ms D cy A ad ad0 n0 ls X hml hret hlk hini hfr hlo r hod hL hfc hn0 had hmc hms hrc hrs
    obtain ⟨hown, -, -⟩ := am_tab_f hM
    unfold am_exec at hx
    rw [hM] at hx
    dsimp only at hx
    split at hx
    · cases hx
    · rename_i x hcode
      obtain ⟨i, len⟩ := x
      obtain ⟨hd, hlen⟩ := am_tab_ok M (List.mem_of_getElem? hM) pc (i, len) hcode
      dsimp only at hx hlen
      split at hx
      · rename_i v0 hrv
        cases hx
        rw [Nat.sub_self, Nat.add_zero] at hmc hms
        subst hmc; subst hms
        exact am_r_ret X hret hlk r hfc.2 had hd hlen hrv
      · split at hx
        · rename_i w htg
          split at hx
          · cases hx
          · rename_i M' hM'
            obtain ⟨hcan, hx⟩ := am_cg hx
            split at hx
            · rename_i rr hrun
              obtain ⟨v1, h1⟩ := rr
              have g1 : am_gr h h1 := am_exec_gr hrun
              have g2 : am_gr h1 h' := am_exec_gr hx
              have hcl2 := am_tgt_cl htg hfc.2
              unfold am_can at hcan
              obtain ⟨hcan, c5⟩ := am_b2 hcan
              obtain ⟨hcan, c4⟩ := am_b2 hcan
              obtain ⟨hcan, c3⟩ := am_b2 hcan
              obtain ⟨c1, c2⟩ := am_b2 hcan
              have c1 := Nat.le_of_ble_eq_true c1
              have c2 := Nat.le_of_ble_eq_true c2
              have c3 := Nat.le_of_ble_eq_true c3
              have c4 := Nat.le_of_ble_eq_true c4
              have c5 := Nat.eq_of_beq_eq_true c5
              obtain ⟨-, hin', hcn'⟩ := am_tab_f hM'
              obtain ⟨g11, g12, g13⟩ := g1
              obtain ⟨g21, g22, g23⟩ := g2
              have hr := am_run (e := e) (below := below) (meth := meth) (locs := locs) (cells := cells) (slots := slots) (ls := ls) (Qc := am_Qc D cy A ad h.1 v1 h1) (mc := h1.2.1 - h.2.1) (ms := h1.2.2.1 - h.2.2.1) (rm := { frames := M'.1.2.2.2.1, cells := h1.2.1 - h.2.1, slots := h1.2.2.1 - h.2.2.1, locals := M'.1.2.2.2.2.1 }) X hown hml r hod hM' htg c5 (fun hmo => am_met hmo hin' hcn' (ih w.1 M' 0 (lv_args 0 w.2.1) [] h v1 h1 hM' hrun) hcl2.1 c4 rfl rfl) ⟨rfl, rfl⟩ ⟨Nat.le_trans c1 hfr, Nat.le_trans c2 hlo⟩ hL.1 c3 hd hlen ⟨by omega, by omega⟩
              refine am_after hr (fun v2 st₀ t L h0 hLf hq => ?_)
              obtain ⟨ad', hext, hv2, hP, hD, hF, hcl', hcv'⟩ := hq
              have hv2 := Outcome.returned.inj hv2
              subst hv2
              obtain ⟨hK, -, -, hS, hA, -⟩ := r
              have r' : am_R D cy A ad' h1 s t.heap (locs ++ L) := by
                refine ⟨hK, hP, hD, ⟨?_, ?_, ?_⟩, hA, hcl'⟩
                · exact Nat.le_trans hS.1 (by rw [← h0]; exact hF.1)
                · intro q hq1 hq2
                  have := hF.2 q (by rw [h0]; exact Nat.lt_of_lt_of_le hq1 hS.1) hq2
                  rw [this, h0]
                  exact hS.2.1 q hq1 hq2
                · intro z hz
                  rcases List.mem_append.mp hz with hz | hz
                  · exact hS.2.2 z hz
                  · exact hLf z hz
              have hstk : (v1.map (am_v ad')).toList ++ w.2.2.map (am_v ad) = (v1.toList ++ w.2.2).map (am_v ad') := by
                rw [List.map_append, am_map_eq hext hcl2.2]
                cases v1 <;> rfl
              rw [hstk]
              have hfc' : am_fc h1.1 lo (v1.toList ++ w.2.2) := by
                refine ⟨fun q hq => am_cv_le g11 (hfc.1 q hq), fun z hz => ?_⟩
                rcases List.mem_append.mp hz with hz | hz
                · cases v1 with
                  | none => cases hz
                  | some y => cases List.mem_singleton.mp hz; exact hcv' _ rfl
                · exact am_cv_le g11 (hcl2.2 z hz)
              exact ih mi M (pc + 3) lo (v1.toList ++ w.2.2) h1 v h' hM hx p e s m args below meth c R t.heap (locs ++ L) (cells + (h1.2.1 - h.2.1)) (slots + (h1.2.2.1 - h.2.2.1)) mc ms D cy A ad' ad0 n0 ls X hml hret hlk hini hfr hlo r' (hod.ext (fun k hk => hext k (Or.inr hk))) (by rw [am_lo_eq hext hfc.1]; exact hL) hfc' (Nat.le_trans hn0 g11) (fun k hk => by rw [hext k (hk.imp (fun q => Nat.lt_of_lt_of_le q hn0) id)]; exact had k hk) (by omega) (by omega) hrc hrs
            · cases hx
        · split at hx
          · rename_i u hs0
            exact am_s0_ok X.1 X.2.1 hd hlen hs0 hL (fun ls' hL' => ih mi M u.1 u.2.1 u.2.2 h v h' hM hx p e s m args below meth c R H locs cells slots mc ms D cy A ad ad0 n0 ls' X hml hret hlk hini hfr hlo r hod hL' (am_s0_cl hs0 hfc) hn0 had hmc hms hrc hrs)
          · split at hx
            · rename_i u hs1
              obtain ⟨k1, g11, g12, g13⟩ := am_s1_cl hs1 hfc.2 r.2.2.2.2.2
              obtain ⟨g21, g22, g23⟩ := am_exec_gr hx
              dsimp only at g21 g22 g23
              refine am_s1_ok X hown hini hd hlen hs1 r ⟨hod.1, hod.2.1⟩ hfc.2 (by omega) (by omega) (fun ad' H1 locs1 hext r1 => ?_)
              exact ih mi M u.1 lo u.2.1 u.2.2 v h' hM hx p e s m args below meth c R H1 locs1 (cells + (u.2.2.2.1 - h.2.1)) (slots + (u.2.2.2.2.1 - h.2.2.1)) mc ms D cy A ad' ad0 n0 ls X hml hret hlk hini hfr hlo r1 (hod.ext (fun k hk => hext k (Or.inr hk))) (by rw [am_lo_eq hext hfc.1]; exact hL) ⟨fun q hq => am_cv_le g11 (hfc.1 q hq), k1⟩ (Nat.le_trans hn0 g11) (fun k hk => by rw [hext k (hk.imp (fun q => Nat.lt_of_lt_of_le q hn0) id)]; exact had k hk) (by omega) (by omega) hrc hrs
            · split at hx
              · rename_i u hs2
                have hfc2 : am_fc h.1 lo u.2 := ⟨hfc.1, am_s2_cl hs2 hfc.2⟩
                exact am_s2_ok X hown hml hL.1 hfr hlo (by omega) (by omega) r.2.2.2.1 hod hd hlen hs2 (ih mi M u.1 lo u.2 h v h' hM hx p e s m args below meth c R H locs cells slots mc ms D cy A ad ad0 n0 ls X hml hret hlk hini hfr hlo r hod hL hfc2 hn0 had hmc hms hrc hrs)
              · cases hx
end
section
/-! RULES FOR RUNS ON THE ABSTRACT MACHINE -/
/-- one step that is no return and no call -/
def am_one (mi pc : Nat) (lo : List (Nat × Value)) (st : List Value) (h : am_H) : Option (Nat × List (Nat × Value) × List Value × am_H) := match am_tab[mi]? with
  | none => none
  | some M => match M.1.2.2.2.2.2 pc with
    | none => none
    | some x => match am_retv x.1 M.2.2.1 st with
      | some _ => none
      | none => match am_tgt M.1.1 x.1 st h with
        | some _ => none
        | none => match am_s0 M.1.2.1 x.1 pc lo st with
          | some u => some (u.1, u.2.1, u.2.2, h)
          | none => match am_s1 M.1.1 M.1.2.2.1 x.1 pc st h with
            | some u => some (u.1, lo, u.2.1, u.2.2)
            | none => match am_s2 M.1.1 M.1.2.2.2.1 M.1.2.2.2.2.1 x.1 pc st with
              | some u => some (u.1, lo, u.2, h)
              | none => none
def am_many : Nat → Nat → Nat → List (Nat × Value) → List Value → am_H → Option (Nat × List (Nat × Value) × List Value × am_H)
  | 0, _, pc, lo, st, h => some (pc, lo, st, h)
  | k + 1, mi, pc, lo, st, h => match am_one mi pc lo st h with
    | some u => am_many k mi u.1 u.2.1 u.2.2.1 u.2.2.2
    | none => none
theorem am_one_ex {n mi pc : Nat} {lo : List (Nat × Value)} {st : List Value} {h : am_H} {u : Nat × List (Nat × Value) × List Value × am_H} (hs : am_one mi pc lo st h = some u) : am_exec (n + 1) mi pc lo st h = am_exec n mi u.1 u.2.1 u.2.2.1 u.2.2.2 := by
  unfold am_one at hs
  rw [am_exec]
  split at hs
  · cases hs
  · rename_i M hM
    rw [hM]
    dsimp only
    split at hs
    · cases hs
    · rename_i x hx
      rw [hx]
      dsimp only
      split at hs
      · cases hs
      · rename_i hr
        rw [hr]
        dsimp only
        split at hs
        · cases hs
        · rename_i ht
          rw [ht]
          dsimp only
          split at hs
          · rename_i u0 h0
            rw [h0]
            cases hs
            rfl
          · rename_i h0
            rw [h0]
            dsimp only
            split at hs
            · rename_i u1 h1
              rw [h1]
              cases hs
              rfl
            · rename_i h1
              rw [h1]
              dsimp only
              split at hs
              · rename_i u2 h2
                rw [h2]
                cases hs
                rfl
              · cases hs
/-- from here the run ends, with v and h' -/
def am_P (mi pc : Nat) (lo : List (Nat × Value)) (st : List Value) (h : am_H) (v : Option Value) (h' : am_H) : Prop := ∃ n, am_exec n mi pc lo st h = some (v, h')
/-- a call of the method, from its entry -/
def am_T (mi : Nat) (av : List Value) (h : am_H) (v : Option Value) (h' : am_H) : Prop := am_P mi 0 (lv_args 0 av) [] h v h'
theorem am_exec_mono : ∀ {n mi pc : Nat} {lo : List (Nat × Value)} {st : List Value} {h : am_H} {r : Option Value × am_H}, am_exec n mi pc lo st h = some r → am_exec (n + 1) mi pc lo st h = some r := by
  intro n
  induction n with
  | zero => intro mi pc lo st h r hx; cases hx
  | succ n ih =>
    intro mi pc lo st h r hx
    unfold am_exec at hx
    rw [am_exec]
    split at hx
    · cases hx
    · rename_i M hM
      try rw [hM]
      try dsimp only
      split at hx
      · cases hx
      · rename_i x hc
        try rw [hc]
        try dsimp only
        split at hx
        · rename_i v0 hr
          try rw [hr]
          exact hx
        · rename_i hr
          try rw [hr]
          try dsimp only
          split at hx
          · rename_i w ht
            try rw [ht]
            try dsimp only
            split at hx
            · cases hx
            · rename_i M' hM'
              try rw [hM']
              try dsimp only
              obtain ⟨hb, hx⟩ := am_cg hx
              try rw [hb, cond_true]
              split at hx
              · rename_i rr hrr
                try rw [ih hrr]
                exact ih hx
              · cases hx
          · rename_i ht
            try rw [ht]
            try dsimp only
            split at hx
            · rename_i u0 h0
              try rw [h0]
              exact ih hx
            · rename_i h0
              try rw [h0]
              try dsimp only
              split at hx
              · rename_i u1 h1
                try rw [h1]
                exact ih hx
              · rename_i h1
                try rw [h1]
                try dsimp only
                split at hx
                · rename_i u2 h2
                  try rw [h2]
                  exact ih hx
                · cases hx
theorem am_exec_le {n k mi pc : Nat} {lo : List (Nat × Value)} {st : List Value} {h : am_H} {r : Option Value × am_H} (hk : n ≤ k) (hx : am_exec n mi pc lo st h = some r) : am_exec k mi pc lo st h = some r := by
  induction hk with
  | refl => exact hx
  | step _ ih => exact am_exec_mono ih
/-- several steps -/
theorem am_P.many {mi : Nat} {v : Option Value} {h' : am_H} : ∀ (k : Nat) {pc : Nat} {lo : List (Nat × Value)} {st : List Value} {h : am_H} {u : Nat × List (Nat × Value) × List Value × am_H}, am_many k mi pc lo st h = some u → am_P mi u.1 u.2.1 u.2.2.1 u.2.2.2 v h' → am_P mi pc lo st h v h' := by
  intro k
  induction k with
  | zero => intro pc lo st h u hm hP; cases hm; exact hP
  | succ k ih =>
    intro pc lo st h u hm hP
    unfold am_many at hm
    split at hm
    · rename_i u0 h0
      obtain ⟨n, hn⟩ := ih hm hP
      exact ⟨n + 1, by rw [am_one_ex h0]; exact hn⟩
    · cases hm
/-- a return -/
theorem am_P.ret {mi pc : Nat} {lo : List (Nat × Value)} {st : List Value} {h : am_H} {v : Option Value} {M : am_M} {x : Instr × Nat} (hM : am_tab[mi]? = some M) (hc : M.1.2.2.2.2.2 pc = some x) (hr : am_retv x.1 M.2.2.1 st = some v) : am_P mi pc lo st h v h := ⟨1, by rw [am_exec, hM]; dsimp only; rw [hc]; dsimp only; rw [hr]⟩
/-- a call -/
theorem am_P.call {mi pc : Nat} {lo : List (Nat × Value)} {st : List Value} {h h1 h' : am_H} {v v1 : Option Value} {M M' : am_M} {x : Instr × Nat} {w : Nat × List Value × List Value} (hM : am_tab[mi]? = some M) (hc : M.1.2.2.2.2.2 pc = some x) (hr : am_retv x.1 M.2.2.1 st = none) (ht : am_tgt M.1.1 x.1 st h = some w) (hM' : am_tab[w.1]? = some M') (hk : am_can M M' x.1 w = true) (hT : am_T w.1 w.2.1 h v1 h1) (hP : am_P mi (pc + 3) lo (v1.toList ++ w.2.2) h1 v h') : am_P mi pc lo st h v h' := by
  obtain ⟨a, ha⟩ := hT
  obtain ⟨b, hb⟩ := hP
  refine ⟨max a b + 1, ?_⟩
  rw [am_exec, hM]; dsimp only
  rw [hc]; dsimp only
  rw [hr]; dsimp only
  rw [ht]; dsimp only
  rw [hM']; dsimp only
  rw [hk, cond_true, am_exec_le (Nat.le_max_left a b) ha]
  exact am_exec_le (Nat.le_max_right a b) hb
theorem am_P.bif {mi t f : Nat} {b : Bool} {lo : List (Nat × Value)} {st : List Value} {h h' : am_H} {v : Option Value} (h1 : b = true → am_P mi t lo st h v h') (h2 : b = false → am_P mi f lo st h v h') : am_P mi (bif b then t else f) lo st h v h' := by
  cases b with
  | true => exact h1 rfl
  | false => exact h2 rfl
/-- what the machine owes for a run -/
theorem am_P.sim {l : Launch} {mi pc : Nat} {lo : List (Nat × Value)} {st : List Value} {h h' : am_H} {v : Option Value} {M : am_M} (hM : am_tab[mi]? = some M) (hP : am_P mi pc lo st h v h') : am_Sim l M pc lo st h v h' := by
  obtain ⟨n, hn⟩ := hP
  exact am_sim l n mi M pc lo st h v h' hM hn
/-! heaps -/
theorem am_up_up {α : Type} (f : Nat → α) (k : Nat) (v w : α) : am_up (am_up f k v) k w = am_up f k w := by
  funext j
  by_cases e : j = k
  · subst e; rw [am_up_s, am_up_s]
  · rw [am_up_n e, am_up_n e, am_up_n e]
theorem am_up_comm {α : Type} (f : Nat → α) {k j : Nat} (hkj : k ≠ j) (v w : α) : am_up (am_up f k v) j w = am_up (am_up f j w) k v := by
  funext i
  by_cases e1 : i = j
  · subst e1; rw [am_up_s, am_up_n (Ne.symm hkj), am_up_s]
  · rw [am_up_n e1]
    by_cases e2 : i = k
    · subst e2; rw [am_up_s, am_up_s]
    · rw [am_up_n e2, am_up_n e2, am_up_n e1]
theorem am_put_put (h : am_H) (o : Nat) (c d : am_C) : am_put (am_put h o c) o d = am_put h o d := by
  unfold am_put; simp only [am_up_up]
theorem am_put_comm (h : am_H) {o q : Nat} (hoq : o ≠ q) (c d : am_C) : am_put (am_put h o c) q d = am_put (am_put h q d) o c := by
  unfold am_put; simp only [am_up_comm _ hoq]
theorem am_put_s (h : am_H) (o : Nat) (c : am_C) : (am_put h o c).2.2.2 o = c := am_up_s _ _ _
theorem am_put_n (h : am_H) {o q : Nat} (hq : q ≠ o) (c : am_C) : (am_put h o c).2.2.2 q = h.2.2.2 q := am_up_n hq
end
section
/-! RULES: the heap's instructions, one by one -/
section AMH
variable {mi pc : Nat} {lo : List (Nat × Value)} {st : List Value} {h h' : am_H} {v : Option Value} {M : am_M} {n : Nat}
theorem am_P.s1 {i : Instr} {u : Nat × List Value × am_H} (hM : am_tab[mi]? = some M) (hc : M.1.2.2.2.2.2 pc = some (i, n)) (hr : am_retv i M.2.2.1 st = none) (ht : am_tgt M.1.1 i st h = none) (h0 : am_s0 M.1.2.1 i pc lo st = none) (h1 : am_s1 M.1.1 M.1.2.2.1 i pc st h = some u) (hP : am_P mi u.1 lo u.2.1 u.2.2 v h') : am_P mi pc lo st h v h' := by
  refine am_P.many 1 (u := (u.1, lo, u.2.1, u.2.2)) ?_ hP
  show (match am_one mi pc lo st h with | some u => am_many 0 mi u.1 u.2.1 u.2.2.1 u.2.2.2 | none => none) = _
  have : am_one mi pc lo st h = some (u.1, lo, u.2.1, u.2.2) := by
    unfold am_one
    rw [hM]; dsimp only
    rw [hc]; dsimp only
    rw [hr]; dsimp only
    rw [ht]; dsimp only
    rw [h0]; dsimp only
    rw [h1]
  rw [this]
  rfl
theorem am_bt {a b : Nat} (h : a < b) : Nat.blt a b = true := Nat.blt_eq.mpr h
theorem am_P.getf {idx o ci : Nat} {u : Nat × Nat × Nat} (hM : am_tab[mi]? = some M) (hc : M.1.2.2.2.2.2 pc = some (.getfield idx, n)) (ho : o < h.1) (hk : (h.2.2.2 o).1 = ci) (hf : am_find (am_ft M.1.1) idx ci = some u) (hP : am_P mi (pc + 3) lo ((h.2.2.2 o).2.2 u.1 :: st) h v h') : am_P mi pc lo (.ref o :: st) h v h' := by
  refine am_P.s1 (u := (pc + 3, (h.2.2.2 o).2.2 u.1 :: st, h)) hM hc rfl rfl rfl ?_ hP
  simp only [am_s1, am_bt ho, cond_true, hk, hf]
theorem am_P.putf {idx o ci : Nat} {u : Nat × Nat × Nat} {x : Value} (hM : am_tab[mi]? = some M) (hc : M.1.2.2.2.2.2 pc = some (.putfield idx, n)) (ho : o < h.1) (hk : (h.2.2.2 o).1 = ci) (hf : am_find (am_ft M.1.1) idx ci = some u) (hb : ((Nat.beq u.2.2 0 || (Nat.beq u.2.2 1 && M.1.2.2.1)) && am_fit (am_ty0 ci u.1) x) = true) (hP : am_P mi (pc + 3) lo st (am_put h o (ci, (h.2.2.2 o).2.1, am_up (h.2.2.2 o).2.2 u.1 x)) v h') : am_P mi pc lo (x :: .ref o :: st) h v h' := by
  refine am_P.s1 (u := (pc + 3, st, am_put h o (ci, (h.2.2.2 o).2.1, am_up (h.2.2.2 o).2.2 u.1 x))) hM hc rfl rfl rfl ?_ hP
  simp only [am_s1, am_bt ho, cond_true, hk, hf, hb]
theorem am_P.iald {o : Nat} {j : Int32} (hM : am_tab[mi]? = some M) (hc : M.1.2.2.2.2.2 pc = some (.iaload, n)) (ho : o < h.1) (hk : (h.2.2.2 o).1 = 20) (hj : am_in j (h.2.2.2 o).2.1 = true) (hP : am_P mi (pc + 1) lo (.int (am_i ((h.2.2.2 o).2.2 j.toNatClampNeg)) :: st) h v h') : am_P mi pc lo (.int j :: .ref o :: st) h v h' := by
  refine am_P.s1 (u := (pc + 1, .int (am_i ((h.2.2.2 o).2.2 j.toNatClampNeg)) :: st, h)) hM hc rfl rfl rfl ?_ hP
  simp only [am_s1, am_bt ho, cond_true, hk, hj, Nat.beq_refl, Bool.and_self]
theorem am_P.iast {o : Nat} {j x : Int32} (hM : am_tab[mi]? = some M) (hc : M.1.2.2.2.2.2 pc = some (.iastore, n)) (ho : o < h.1) (hk : (h.2.2.2 o).1 = 20) (hj : am_in j (h.2.2.2 o).2.1 = true) (hP : am_P mi (pc + 1) lo st (am_put h o (20, (h.2.2.2 o).2.1, am_up (h.2.2.2 o).2.2 j.toNatClampNeg (.int x))) v h') : am_P mi pc lo (.int x :: .int j :: .ref o :: st) h v h' := by
  refine am_P.s1 (u := (pc + 1, st, am_put h o (20, (h.2.2.2 o).2.1, am_up (h.2.2.2 o).2.2 j.toNatClampNeg (.int x)))) hM hc rfl rfl rfl ?_ hP
  simp only [am_s1, am_bt ho, cond_true, hk, hj, Nat.beq_refl, Bool.and_self]
theorem am_P.alen {o ci : Nat} (hM : am_tab[mi]? = some M) (hc : M.1.2.2.2.2.2 pc = some (.arraylength, n)) (ho : o < h.1) (hk : (h.2.2.2 o).1 = ci) (hi : am_isA ci = true) (hP : am_P mi (pc + 1) lo (.int (Int32.ofNat (h.2.2.2 o).2.1) :: st) h v h') : am_P mi pc lo (.ref o :: st) h v h' := by
  refine am_P.s1 (u := (pc + 1, .int (Int32.ofNat (h.2.2.2 o).2.1) :: st, h)) hM hc rfl rfl rfl ?_ hP
  simp only [am_s1, am_bt ho, cond_true, hk, hi, Bool.and_self]
/-- a call by the receiver's class -/
theorem am_P.callV {idx o ci np kd mi1 : Nat} {As rest : List Value} {M' : am_M} {v1 : Option Value} {h1 : am_H} (hM : am_tab[mi]? = some M) (hc : M.1.2.2.2.2.2 pc = some (.invokevirtual idx, n)) (hnp : am_fnd (am_vn M.1.1) idx = some np) (hst : st.drop np = .ref o :: rest) (hAs : (st.take np).reverse = As) (ho : o < h.1) (hk : (h.2.2.2 o).1 = ci) (hf : am_fv (am_vt M.1.1) idx ci = some (mi1, kd)) (hM' : am_tab[mi1]? = some M') (hcan : am_can M M' (.invokevirtual idx) (mi1, .ref o :: As, rest) = true) (hT : am_T mi1 (.ref o :: As) h v1 h1) (hP : am_P mi (pc + 3) lo (v1.toList ++ rest) h1 v h') : am_P mi pc lo st h v h' := by
  refine am_P.call (w := (mi1, .ref o :: As, rest)) (v1 := v1) hM hc rfl ?_ hM' hcan hT hP
  simp only [am_tgt, hnp, hst, hAs, am_bt ho, cond_true, hk, hf]
end AMH
/-! the rows of bytes -/
/-- b is a Bytes: its cells are a (n of them, f), its size is sz -/
def by_at (h : am_H) (b a n : Nat) (sz : Int32) (f : Nat → Value) : Prop := b < h.1 ∧ (h.2.2.2 b).1 = 1 ∧ (h.2.2.2 b).2.2 0 = .ref a ∧ (h.2.2.2 b).2.2 1 = .int sz ∧ a < h.1 ∧ h.2.2.2 a = (20, n, f)
set_option maxRecDepth 100000 in
theorem by_size {h : am_H} {b a n : Nat} {sz : Int32} {f : Nat → Value} (hb : by_at h b a n sz f) : am_T am_i_X2_size [.ref b] h (some (.int sz)) h := by
  obtain ⟨b1, b2, b3, b4, b5, b6⟩ := hb
  refine am_P.many 1 rfl ?_
  refine am_P.getf (M := am_m_X2_size) rfl rfl b1 b2 rfl ?_
  rw [b4]
  exact am_P.ret (M := am_m_X2_size) rfl rfl rfl
end
section
/-! BYTES: the rows of bytes of the class, over the abstract machine -/
/-- nothing but these numbers' cells has changed, and nothing is new -/
def am_fr (h h' : am_H) (S : List Nat) : Prop := h'.1 = h.1 ∧ h'.2.1 = h.2.1 ∧ h'.2.2.1 = h.2.2.1 ∧ ∀ o, o ∉ S → h'.2.2.2 o = h.2.2.2 o
theorem am_fr.rf {h : am_H} {S : List Nat} : am_fr h h S := ⟨rfl, rfl, rfl, fun _ _ => rfl⟩
theorem am_fr.tr {h1 h2 h3 : am_H} {S : List Nat} (a : am_fr h1 h2 S) (b : am_fr h2 h3 S) : am_fr h1 h3 S := ⟨b.1.trans a.1, b.2.1.trans a.2.1, b.2.2.1.trans a.2.2.1, fun o ho => (b.2.2.2 o ho).trans (a.2.2.2 o ho)⟩
theorem am_fr.put {h : am_H} {S : List Nat} {o : Nat} {c : am_C} (ho : o ∈ S) : am_fr h (am_put h o c) S := ⟨rfl, rfl, rfl, fun q hq => am_put_n h (fun e => hq (by rw [e]; exact ho)) c⟩
theorem by_ne {h : am_H} {b a n : Nat} {sz : Int32} {f : Nat → Value} (hb : by_at h b a n sz f) : a ≠ b := by
  rintro rfl
  have := hb.2.1
  rw [hb.2.2.2.2.2] at this
  cases this
theorem am_lt_t {x y : Int32} (h : am_cc .lt x y = true) : x < y := of_decide_eq_true (p := x < y) h
theorem am_ge_t {x y : Int32} (h : am_cc .ge x y = true) : y ≤ x := of_decide_eq_true (p := y ≤ x) h
theorem am_inT {k n : Nat} (hk : k < n) (hn : n < 2 ^ 31) : am_in (nI k) n = true := by
  unfold am_in
  rw [decide_eq_false (nI_pos (by omega)), nI_clamp (by omega)]
  exact Nat.blt_eq.mpr hk
set_option maxRecDepth 100000 in
/-- get: the byte, or 0 where there is none -/
theorem by_get {h : am_H} {b a n k j : Nat} {f : Nat → Value} (hb : by_at h b a n (nI k) f) (hn : n < 2 ^ 31) (hk : k ≤ n) (hj : j < k) : am_T am_i_X2_get [.ref b, .int (nI j)] h (some (.int (am_i (f j)))) h := by
  obtain ⟨b1, b2, b3, b4, b5, b6⟩ := hb
  refine am_P.many (u := (bif am_cc .lt (nI j) 0 then 30 else 4, [(0, .ref b), (1, .int (nI j))], [], h)) 2 rfl ?_
  refine am_P.bif (b := am_cc .lt (nI j) 0) (t := 30) (f := 4) (fun q => absurd (am_lt_t q) (nI_pos (by omega))) (fun _ => ?_)
  refine am_P.many (u := (6, [(0, .ref b), (1, .int (nI j))], [.ref b, .int (nI j)], h)) 2 rfl ?_
  refine am_P.getf (M := am_m_X2_get) rfl rfl b1 b2 rfl ?_
  rw [b4]
  refine am_P.many (u := (bif am_cc .ge (nI j) (nI k) then 30 else 12, [(0, .ref b), (1, .int (nI j))], [], h)) 1 rfl ?_
  refine am_P.bif (b := am_cc .ge (nI j) (nI k)) (t := 30) (f := 12) (fun q => absurd (am_ge_t q) (nI_ge hj (by omega))) (fun _ => ?_)
  refine am_P.many (u := (14, [(0, .ref b), (1, .int (nI j))], [.ref b, .int (nI j)], h)) 2 rfl ?_
  refine am_P.getf (M := am_m_X2_get) rfl rfl b1 b2 rfl ?_
  rw [b3]
  refine am_P.alen (M := am_m_X2_get) (ci := 20) rfl rfl b5 (by rw [b6]) rfl ?_
  rw [b6]
  refine am_P.many (u := (bif am_cc .ge (nI j) (nI n) then 30 else 21, [(0, .ref b), (1, .int (nI j))], [], h)) 1 rfl ?_
  refine am_P.bif (b := am_cc .ge (nI j) (nI n)) (t := 30) (f := 21) (fun q => absurd (am_ge_t q) (nI_ge (show j < n by omega) hn)) (fun _ => ?_)
  refine am_P.many (u := (22, [(0, .ref b), (1, .int (nI j))], [.ref b], h)) 1 rfl ?_
  refine am_P.getf (M := am_m_X2_get) rfl rfl b1 b2 rfl ?_
  rw [b3]
  refine am_P.many (u := (26, [(0, .ref b), (1, .int (nI j))], [.int (nI j), .ref a], h)) 1 rfl ?_
  refine am_P.iald (M := am_m_X2_get) rfl rfl b5 (by rw [b6]) (by rw [b6]; exact am_inT (n := n) (show j < n by omega) hn) ?_
  rw [b6, nI_clamp (by omega)]
  refine am_P.many (u := (31, [(0, .ref b), (1, .int (nI j))], [.int (am_i (f j))], h)) 1 rfl ?_
  exact am_P.ret (M := am_m_X2_get) rfl rfl rfl
set_option maxRecDepth 100000 in
/-- add: one byte more -/
theorem by_add {h : am_H} {b a n k : Nat} {f : Nat → Value} (x : Int32) (hb : by_at h b a n (nI k) f) (hn : n < 2 ^ 31) (hk : k < n) : ∃ h', am_T am_i_X2_add [.ref b, .int x] h none h' ∧ by_at h' b a n (nI (k + 1)) (am_up f k (.int (x &&& 255))) ∧ am_fr h h' [b, a] := by
  have hne := by_ne hb
  obtain ⟨b1, b2, b3, b4, b5, b6⟩ := hb
  refine ⟨am_put (am_put h a (20, n, am_up f k (.int (x &&& 255)))) b (1, (h.2.2.2 b).2.1, am_up (h.2.2.2 b).2.2 1 (.int (nI (k + 1)))), ?_, ⟨b1, ?_, ?_, ?_, b5, ?_⟩, (am_fr.put (by simp)).tr (am_fr.put (by simp))⟩
  · show am_P am_i_X2_add 0 [(0, .ref b), (1, .int x)] [] h none _
    refine am_P.many (u := (1, [(0, .ref b), (1, .int x)], [.ref b], h)) 1 rfl ?_
    refine am_P.getf (M := am_m_X2_add) (ci := 1) rfl rfl b1 b2 rfl ?_
    rw [b4]
    refine am_P.many (u := (bif am_cc .lt (nI k) 0 then 43 else 7, [(0, .ref b), (1, .int x)], [], h)) 1 rfl ?_
    refine am_P.bif (b := am_cc .lt (nI k) 0) (t := 43) (f := 7) (fun q => absurd (am_lt_t q) (nI_pos (by omega))) (fun _ => ?_)
    refine am_P.many (u := (8, [(0, .ref b), (1, .int x)], [.ref b], h)) 1 rfl ?_
    refine am_P.getf (M := am_m_X2_add) (ci := 1) rfl rfl b1 b2 rfl ?_
    rw [b4]
    refine am_P.many (u := (12, [(0, .ref b), (1, .int x)], [.ref b, .int (nI k)], h)) 1 rfl ?_
    refine am_P.getf (M := am_m_X2_add) (ci := 1) rfl rfl b1 b2 rfl ?_
    rw [b3]
    refine am_P.alen (M := am_m_X2_add) (ci := 20) rfl rfl b5 (by rw [b6]) rfl ?_
    rw [b6]
    refine am_P.many (u := (bif am_cc .ge (nI k) (nI n) then 43 else 19, [(0, .ref b), (1, .int x)], [], h)) 1 rfl ?_
    refine am_P.bif (b := am_cc .ge (nI k) (nI n)) (t := 43) (f := 19) (fun q => absurd (am_ge_t q) (nI_ge hk hn)) (fun _ => ?_)
    refine am_P.many (u := (20, [(0, .ref b), (1, .int x)], [.ref b], h)) 1 rfl ?_
    refine am_P.getf (M := am_m_X2_add) (ci := 1) rfl rfl b1 b2 rfl ?_
    rw [b3]
    refine am_P.many (u := (24, [(0, .ref b), (1, .int x)], [.ref b, .ref a], h)) 1 rfl ?_
    refine am_P.getf (M := am_m_X2_add) (ci := 1) rfl rfl b1 b2 rfl ?_
    rw [b4]
    refine am_P.many (u := (32, [(0, .ref b), (1, .int x)], [.int (x &&& 255), .int (nI k), .ref a], h)) 3 rfl ?_
    -- at 32: .iastore ; stack [.int (x &&& 255), .int (nI k), .ref a]
    refine am_P.iast (M := am_m_X2_add) rfl rfl b5 (by rw [b6]) (by rw [b6]; exact am_inT (n := n) hk hn) ?_
    rw [b6, nI_clamp (show k < 2 ^ 31 by omega)]
    refine am_P.many (u := (35, [(0, .ref b), (1, .int x)], [.ref b, .ref b], (am_put h a (20, n, am_up f k (.int (x &&& 255)))))) 2 rfl ?_
    refine am_P.getf (M := am_m_X2_add) (ci := 1) rfl rfl b1 (by rw [am_put_n h (Ne.symm hne)]; exact b2) rfl ?_
    rw [am_put_n h (Ne.symm hne), b4]
    refine am_P.many (u := (40, [(0, .ref b), (1, .int x)], [.int ((nI k) + 1), .ref b], (am_put h a (20, n, am_up f k (.int (x &&& 255)))))) 2 rfl ?_
    -- at 40: .putfield 15 ; stack [.int ((nI k) + 1), .ref b]
    refine am_P.putf (M := am_m_X2_add) (ci := 1) rfl rfl b1 (by rw [am_put_n h (Ne.symm hne)]; exact b2) rfl rfl ?_
    rw [am_put_n h (Ne.symm hne), show nI k + 1 = nI (k + 1) from nI_1 k]
    exact am_P.ret (M := am_m_X2_add) rfl rfl rfl
  · rw [am_put_s]
  · rw [am_put_s]; show am_up (h.2.2.2 b).2.2 1 (.int (nI (k + 1))) 0 = .ref a; rw [am_up_n (by decide)]; exact b3
  · rw [am_put_s]; show am_up (h.2.2.2 b).2.2 1 (.int (nI (k + 1))) 1 = .int (nI (k + 1)); rw [am_up_s]
  · rw [am_put_n _ hne, am_put_s]
set_option maxRecDepth 100000 in
/-- addZeros, from the head of its loop: d zeros more -/
theorem by_addZeros_loop {b a n m : Nat} (hn : n < 2 ^ 31) (hm : m < 2 ^ 31) : ∀ (d j k : Nat) (h : am_H) (f : Nat → Value), j + d = m → k + d ≤ n → by_at h b a n (nI k) f → ∃ (h' : am_H) (f' : Nat → Value), am_P am_i_X2_addZeros 2 [(2, .int (nI j)), (0, .ref b), (1, .int (nI m))] [] h none h' ∧ by_at h' b a n (nI (k + d)) f' ∧ am_fr h h' [b, a] ∧ (∀ i, i < k → f' i = f i) ∧ ∀ i, k ≤ i → i < k + d → f' i = .int 0 := by
  intro d
  induction d with
  | zero =>
    intro j k h f hj hk hb
    have hj : j = m := hj
    subst hj
    refine ⟨h, f, ?_, hb, am_fr.rf, fun _ _ => rfl, fun i h1 h2 => absurd h2 (Nat.not_lt.mpr h1)⟩
    refine am_P.many (u := (bif am_cc .ge (nI j) (nI j) then 18 else 7, [(2, .int (nI j)), (0, .ref b), (1, .int (nI j))], [], h)) 3 rfl ?_
    refine am_P.bif (b := am_cc .ge (nI j) (nI j)) (t := 18) (f := 7) (fun _ => ?_) (fun q => absurd (show am_cc .ge (nI j) (nI j) = true from decide_eq_true (nI_le (Nat.le_refl j) hm)) (by rw [q]; decide))
    exact am_P.ret (M := am_m_X2_addZeros) rfl rfl rfl
  | succ d ih =>
    intro j k h f hj hk hb
    obtain ⟨h1, t1, hb1, fr1⟩ := by_add 0 hb hn (by omega)
    obtain ⟨h2, f2, p2, hb2, fr2, e1, e2⟩ := ih (j + 1) (k + 1) h1 _ (by omega) (by omega) hb1
    refine ⟨h2, f2, ?_, by rw [show k + (d + 1) = k + 1 + d by omega]; exact hb2, fr1.tr fr2, fun i hi => ?_, fun i hi1 hi2 => ?_⟩
    · refine am_P.many (u := (bif am_cc .ge (nI j) (nI m) then 18 else 7, [(2, .int (nI j)), (0, .ref b), (1, .int (nI m))], [], h)) 3 rfl ?_
      refine am_P.bif (b := am_cc .ge (nI j) (nI m)) (t := 18) (f := 7) (fun q => absurd (am_ge_t q) (nI_ge (show j < m by omega) hm)) (fun _ => ?_)
      refine am_P.many (u := (9, [(2, .int (nI j)), (0, .ref b), (1, .int (nI m))], [.int 0, .ref b], h)) 2 rfl ?_
      refine am_P.callV (M := am_m_X2_addZeros) (M' := am_m_X2_add) (v1 := none) rfl rfl rfl rfl rfl hb.1 hb.2.1 rfl rfl rfl t1 ?_
      refine am_P.many (u := (2, [(2, .int (nI j + 1)), (0, .ref b), (1, .int (nI m))], [], h1)) 2 rfl ?_
      rw [nI_1]
      exact p2
    · rw [e1 i (by omega)]
      exact am_up_n (by omega)
    · by_cases hik : i = k
      · subst hik
        rw [e1 i (by omega), am_up_s]
        rfl
      · exact e2 i (by omega) (by omega)
end
section
/-! the printed row vx_catch: a throw caught by this method's table -/
section Rows
variable {p : Program} {l : Launch} {e : Env} {R : Room} {s : State} {m : MethodId} {args : Array Value} {below : List Frame} {meth : Method} {c : Code} {H : Heap} {locs : List Loc} {cells slots : Nat} {Q : State → Prop}
variable {mc ms : Nat} {free : Addr → Prop} {A0 A1 : Nat → Prop} {H0 : Heap} {a : Array Value} {pc : Nat} {ls : Array Slot} {st0 rest : List Value}
/-- caught by the row x of this method's table; the rows ahead don't take it -/
theorem vx_catch {own name : String} {E : String} {ce : Cell} {q : Addr} (hown : s.vm.findClass own = some m.cls) (pre : List ExceptionTableEntry) (x : ExceptionTableEntry) (suf : List ExceptionTableEntry) (hsplit : c.exceptionTable.toList = pre ++ x :: suf)
    (hpass : ∀ z ∈ pre, covers z pc = false ∨ (z.catchType ≠ 0 ∧ ∃ nm : String, (Cond.classLink own z.catchType nm).before args s = true ∧ va_Nc E nm s)) (hx : covers x pc = true) (h0 : x.catchType ≠ 0)
    (hlink : (Cond.classLink own x.catchType name).before args s = true) (hcast : (Cond.castable E name).before args s = true) (hcell : H[q]? = some ce) (hv : ce.vm = .none) (hcl : s.vm.findClass E = some ce.cls)
    (kk : W p l e R s m args below meth c H locs cells slots Q (F0 m x.handlerPc ls [.ref q])) : vx_W p l e R s m args below meth c H locs cells slots Q (F0 m pc ls rest) q := by
  intro T hT X
  have hpl : e.platform.magicAccessors = ({} : Platform).magicAccessors := by rw [X.admits.platform]
  obtain ⟨c3, c4, hc3, hc4, hasg⟩ := Cond.castable_spec hcast
  cases Option.some.inj (hc3.symm.trans hcl)
  obtain ⟨c5, hc5, hcl5⟩ := Cond.classLink_spec hown hlink e.platform hpl
  cases Option.some.inj (hc4.symm.trans hc5)
  obtain ⟨vm', X', st⟩ := Stand.thenCaughtThrough X q (g := F0 m pc ls rest) rfl (Steps.refl _) (by rw [hT]; exact hcell) (by rw [hv]; rfl) (by obtain ⟨k9, h9, -⟩ := Vm.findClass_spec hcl; exact ⟨k9, h9⟩) pre x suf hsplit
    (fun z hz => by
      rcases hpass z hz with h | ⟨hz0, nm, hl1, hn1⟩
      · exact Or.inl h
      · obtain ⟨c6, hc6, hcl6⟩ := Cond.classLink_spec hown hl1 e.platform hpl
        obtain ⟨a8, b8, h1, h2, h3⟩ := hn1
        cases Option.some.inj (h1.symm.trans hcl)
        cases Option.some.inj (h2.symm.trans hc6)
        exact Or.inr ⟨hz0, _, hcl6, h3⟩) hx (Or.inr ⟨h0, c4, hcl5, hasg⟩)
  obtain ⟨t, a1, b1⟩ := kk (T.setVm vm') hT X'
  exact ⟨t, st.trans a1, b1⟩
end Rows
end
section
/-! A ROAD OF A METHOD'S OWN: some steps, with the calls in them; the machine follows it -/
def am_st1 (n mi pc : Nat) (lo : List (Nat × Value)) (st : List Value) (h : am_H) : Option (Nat × List (Nat × Value) × List Value × am_H) := match am_tab[mi]? with
  | none => none
  | some M => match M.1.2.2.2.2.2 pc with
    | none => none
    | some x => match am_tgt M.1.1 x.1 st h with
      | some w => match am_tab[w.1]? with
        | none => none
        | some M' => bif am_can M M' x.1 w then (match am_exec n w.1 0 (lv_args 0 w.2.1) [] h with
          | some r => some (pc + 3, lo, r.1.toList ++ w.2.2, r.2)
          | none => none) else none
      | none => match am_s0 M.1.2.1 x.1 pc lo st with
        | some u => some (u.1, u.2.1, u.2.2, h)
        | none => match am_s1 M.1.1 M.1.2.2.1 x.1 pc st h with
          | some u => some (u.1, lo, u.2.1, u.2.2)
          | none => match am_s2 M.1.1 M.1.2.2.2.1 M.1.2.2.2.2.1 x.1 pc st with
            | some u => some (u.1, lo, u.2, h)
            | none => none
def am_go (n mi : Nat) : Nat → Nat → List (Nat × Value) → List Value → am_H → Option (Nat × List (Nat × Value) × List Value × am_H)
  | 0, pc, lo, st, h => some (pc, lo, st, h)
  | k + 1, pc, lo, st, h => match am_st1 n mi pc lo st h with
    | some u => am_go n mi k u.1 u.2.1 u.2.2.1 u.2.2.2
    | none => none
theorem am_st1_gr {n mi pc : Nat} {lo : List (Nat × Value)} {st : List Value} {h : am_H} {u : Nat × List (Nat × Value) × List Value × am_H} (hs : am_st1 n mi pc lo st h = some u) : am_gr h u.2.2.2 := by
  unfold am_st1 at hs
  split at hs
  · cases hs
  · split at hs
    · cases hs
    · split at hs
      · split at hs
        · cases hs
        · obtain ⟨-, hs⟩ := am_cg hs
          split at hs
          · rename_i h1
            cases hs
            exact am_exec_gr h1
          · cases hs
      · split at hs
        · cases hs; exact am_gr.rf
        · split at hs
          · rename_i h1
            cases hs
            exact am_s1_gr h1
          · split at hs
            · cases hs; exact am_gr.rf
            · cases hs
theorem am_go_gr {n mi : Nat} : ∀ {k pc : Nat} {lo : List (Nat × Value)} {st : List Value} {h : am_H} {u : Nat × List (Nat × Value) × List Value × am_H}, am_go n mi k pc lo st h = some u → am_gr h u.2.2.2 := by
  intro k
  induction k with
  | zero => intro pc lo st h u hs; cases hs; exact am_gr.rf
  | succ k ih =>
    intro pc lo st h u hs
    unfold am_go at hs
    split at hs
    · rename_i w hw
      exact (am_st1_gr hw).tr (ih hs)
    · cases hs
/-- what a road needs of the method and of where it stands -/
def am_On (M : am_M) (p : Program) (s : State) (m : MethodId) (args : Array Value) (meth : Method) (c : Code) (R : Room) : Prop := am_X M.2.1 (am_cn M.1.1) p s m args c ∧ c.maxLocals = M.1.2.1 ∧ (M.1.2.2.1 = true → meth.name = "<init>") ∧ M.1.2.2.2.1 ≤ R.frames ∧ M.1.2.2.2.2.1 ≤ R.locals
/-- the heap and the frame are the abstract ones -/
def am_Be (M : am_M) (s : State) (D : va_G) (cy : Nat → ClassId) (A : Nat → Prop) (ad : Nat → Nat) (h : am_H) (H : Heap) (locs : List Loc) (lo : List (Nat × Value)) (st : List Value) (ls : Array Slot) : Prop := am_R D cy A ad h s H locs ∧ am_Od A ad s s.heap ∧ lv_has ls M.1.2.1 (am_lo ad lo) ∧ am_fc h.1 lo st
section AMST
variable {p : Program} {l : Launch} {e : Env} {R : Room} {s : State} {m : MethodId} {args : Array Value} {below : List Frame} {meth : Method} {c : Code} {H : Heap} {locs : List Loc} {cells slots : Nat} {Q : State → Prop}
variable {ls : Array Slot} {ad : Nat → Nat} {D : va_G} {cy : Nat → ClassId} {A : Nat → Prop} {n mi pc : Nat} {M : am_M} {lo : List (Nat × Value)} {st : List Value} {h : am_H} {u : Nat × List (Nat × Value) × List Value × am_H}
set_option maxHeartbeats 4000000 in
theorem am_st1_ok (hM : am_tab[mi]? = some M) (hs : am_st1 n mi pc lo st h = some u) (O : am_On M p s m args meth c R) (B : am_Be M s D cy A ad h H locs lo st ls) (hrc : cells + (u.2.2.2.2.1 - h.2.1) ≤ R.cells) (hrs : slots + (u.2.2.2.2.2.1 - h.2.2.1) ≤ R.slots)
    (k : ∀ (ad' : Nat → Nat) (H' : Heap) (locs' : List Loc) (ls' : Array Slot), (∀ k, k < h.1 ∨ 1000000000 ≤ k → ad' k = ad k) → am_Be M s D cy A ad' u.2.2.2 H' locs' u.2.1 u.2.2.1 ls' → W p l e R s m args below meth c H' locs' (cells + (u.2.2.2.2.1 - h.2.1)) (slots + (u.2.2.2.2.2.1 - h.2.2.1)) Q (F0 m u.1 ls' (u.2.2.1.map (am_v ad')))) :
    W p l e R s m args below meth c H locs cells slots Q (F0 m pc ls (st.map (am_v ad))) := by
  obtain ⟨X, hml, hini, hfr, hlo⟩ := O
  obtain ⟨r, hod, hL, hfc⟩ := B
  obtain ⟨hown, -, -⟩ := am_tab_f hM
  have gr := am_st1_gr hs
  unfold am_st1 at hs
  rw [hM] at hs
  dsimp only at hs
  split at hs
  · cases hs
  · rename_i x hcode
    obtain ⟨i, len⟩ := x
    obtain ⟨hd, hlen⟩ := am_tab_ok M (List.mem_of_getElem? hM) pc (i, len) hcode
    dsimp only at hs hlen
    split at hs
    · rename_i w htg
      split at hs
      · cases hs
      · rename_i M' hM'
        obtain ⟨hcan, hs⟩ := am_cg hs
        split at hs
        · rename_i rr hrun
          obtain ⟨v1, h1⟩ := rr
          cases hs
          have g1 : am_gr h h1 := am_exec_gr hrun
          have hcl2 := am_tgt_cl htg hfc.2
          unfold am_can at hcan
          obtain ⟨hcan, c5⟩ := am_b2 hcan
          obtain ⟨hcan, c4⟩ := am_b2 hcan
          obtain ⟨hcan, c3⟩ := am_b2 hcan
          obtain ⟨c1, c2⟩ := am_b2 hcan
          have c1 := Nat.le_of_ble_eq_true c1
          have c2 := Nat.le_of_ble_eq_true c2
          have c3 := Nat.le_of_ble_eq_true c3
          have c4 := Nat.le_of_ble_eq_true c4
          have c5 := Nat.eq_of_beq_eq_true c5
          obtain ⟨-, hin', hcn'⟩ := am_tab_f hM'
          obtain ⟨g11, g12, g13⟩ := g1
          have hr := am_run (e := e) (below := below) (meth := meth) (locs := locs) (cells := cells) (slots := slots) (ls := ls) (Qc := am_Qc D cy A ad h.1 v1 h1) (mc := h1.2.1 - h.2.1) (ms := h1.2.2.1 - h.2.2.1) (rm := { frames := M'.1.2.2.2.1, cells := h1.2.1 - h.2.1, slots := h1.2.2.1 - h.2.2.1, locals := M'.1.2.2.2.2.1 }) X hown hml r hod hM' htg c5 (fun hmo => am_met hmo hin' hcn' (am_sim l n w.1 M' 0 (lv_args 0 w.2.1) [] h v1 h1 hM' hrun) hcl2.1 c4 rfl rfl) ⟨rfl, rfl⟩ ⟨Nat.le_trans c1 hfr, Nat.le_trans c2 hlo⟩ hL.1 c3 hd hlen ⟨hrc, hrs⟩
          refine am_after hr (fun v2 st₀ t L h0 hLf hq => ?_)
          obtain ⟨ad', hext, hv2, hP, hD, hF, hcl', hcv'⟩ := hq
          have hv2 := Outcome.returned.inj hv2
          subst hv2
          obtain ⟨hK, -, -, hS, hA, -⟩ := r
          have r' : am_R D cy A ad' h1 s t.heap (locs ++ L) := by
            refine ⟨hK, hP, hD, ⟨?_, ?_, ?_⟩, hA, hcl'⟩
            · exact Nat.le_trans hS.1 (by rw [← h0]; exact hF.1)
            · intro q hq1 hq2
              have := hF.2 q (by rw [h0]; exact Nat.lt_of_lt_of_le hq1 hS.1) hq2
              rw [this, h0]
              exact hS.2.1 q hq1 hq2
            · intro z hz
              rcases List.mem_append.mp hz with hz | hz
              · exact hS.2.2 z hz
              · exact hLf z hz
          have hstk : (v1.map (am_v ad')).toList ++ w.2.2.map (am_v ad) = (v1.toList ++ w.2.2).map (am_v ad') := by
            rw [List.map_append, am_map_eq hext hcl2.2]
            cases v1 <;> rfl
          rw [hstk]
          have hfc' : am_fc h1.1 lo (v1.toList ++ w.2.2) := by
            refine ⟨fun q hq => am_cv_le g11 (hfc.1 q hq), fun z hz => ?_⟩
            rcases List.mem_append.mp hz with hz | hz
            · cases v1 with
              | none => cases hz
              | some y => cases List.mem_singleton.mp hz; exact hcv' _ rfl
            · exact am_cv_le g11 (hcl2.2 z hz)
          exact k ad' t.heap (locs ++ L) ls hext ⟨r', hod.ext (fun k hk => hext k (Or.inr hk)), by rw [am_lo_eq hext hfc.1]; exact hL, hfc'⟩
        · cases hs
    · split at hs
      · rename_i u0 hs0
        cases hs
        dsimp only at k
        rw [Nat.sub_self, Nat.sub_self, Nat.add_zero, Nat.add_zero] at k
        exact am_s0_ok X.1 X.2.1 hd hlen hs0 hL (fun ls' hL' => k ad H locs ls' (fun _ _ => rfl) ⟨r, hod, hL', am_s0_cl hs0 hfc⟩)
      · split at hs
        · rename_i u0 hs1
          cases hs
          obtain ⟨k1, g11, g12, g13⟩ := am_s1_cl hs1 hfc.2 r.2.2.2.2.2
          refine am_s1_ok X hown hini hd hlen hs1 r ⟨hod.1, hod.2.1⟩ hfc.2 hrc hrs (fun ad' H1 locs1 hext r1 => ?_)
          exact k ad' H1 locs1 ls hext ⟨r1, hod.ext (fun k hk => hext k (Or.inr hk)), by rw [am_lo_eq hext hfc.1]; exact hL, ⟨fun q hq => am_cv_le g11 (hfc.1 q hq), k1⟩⟩
        · split at hs
          · rename_i u0 hs2
            cases hs
            dsimp only at k hrc hrs
            rw [Nat.sub_self, Nat.add_zero] at hrc hrs
            rw [Nat.sub_self, Nat.sub_self, Nat.add_zero, Nat.add_zero] at k
            exact am_s2_ok X hown hml hL.1 hfr hlo hrc hrs r.2.2.2.1 hod hd hlen hs2 (k ad H locs ls (fun _ _ => rfl) ⟨r, hod, hL, hfc.1, am_s2_cl hs2 hfc.2⟩)
          · cases hs
end AMST
theorem am_go_ok {p : Program} {l : Launch} {e : Env} {R : Room} {s : State} {m : MethodId} {args : Array Value} {below : List Frame} {meth : Method} {c : Code} {Q : State → Prop} {D : va_G} {cy : Nat → ClassId} {A : Nat → Prop} {n mi : Nat} {M : am_M} (hM : am_tab[mi]? = some M) (O : am_On M p s m args meth c R) :
    ∀ {k pc : Nat} {lo : List (Nat × Value)} {st : List Value} {h : am_H} {u : Nat × List (Nat × Value) × List Value × am_H} {ad : Nat → Nat} {H : Heap} {locs : List Loc} {cells slots : Nat} {ls : Array Slot}, am_go n mi k pc lo st h = some u → am_Be M s D cy A ad h H locs lo st ls → cells + (u.2.2.2.2.1 - h.2.1) ≤ R.cells → slots + (u.2.2.2.2.2.1 - h.2.2.1) ≤ R.slots →
    (∀ (ad' : Nat → Nat) (H' : Heap) (locs' : List Loc) (ls' : Array Slot), (∀ k, k < h.1 ∨ 1000000000 ≤ k → ad' k = ad k) → am_Be M s D cy A ad' u.2.2.2 H' locs' u.2.1 u.2.2.1 ls' → W p l e R s m args below meth c H' locs' (cells + (u.2.2.2.2.1 - h.2.1)) (slots + (u.2.2.2.2.2.1 - h.2.2.1)) Q (F0 m u.1 ls' (u.2.2.1.map (am_v ad')))) →
    W p l e R s m args below meth c H locs cells slots Q (F0 m pc ls (st.map (am_v ad))) := by
  intro k
  induction k with
  | zero =>
    intro pc lo st h u ad H locs cells slots ls hs B hrc hrs k
    cases hs
    dsimp only at k
    rw [Nat.sub_self, Nat.sub_self, Nat.add_zero, Nat.add_zero] at k
    exact k ad H locs ls (fun _ _ => rfl) B
  | succ k ih =>
    intro pc lo st h u ad H locs cells slots ls hs B hrc hrs kk
    unfold am_go at hs
    split at hs
    · rename_i w hw
      obtain ⟨g1, g2, g3⟩ := am_st1_gr hw
      obtain ⟨g4, g5, g6⟩ := am_go_gr hs
      refine am_st1_ok hM hw O B (by omega) (by omega) (fun ad1 H1 locs1 ls1 hx1 B1 => ?_)
      refine ih hs B1 (by omega) (by omega) (fun ad2 H2 locs2 ls2 hx2 B2 => ?_)
      have e1 : cells + (w.2.2.2.2.1 - h.2.1) + (u.2.2.2.2.1 - w.2.2.2.2.1) = cells + (u.2.2.2.2.1 - h.2.1) := by omega
      have e2 : slots + (w.2.2.2.2.2.1 - h.2.2.1) + (u.2.2.2.2.2.1 - w.2.2.2.2.2.1) = slots + (u.2.2.2.2.2.1 - h.2.2.1) := by omega
      rw [e1, e2]
      exact kk ad2 H2 locs2 ls2 (fun q hq => (hx2 q (hq.imp (fun z => Nat.lt_of_lt_of_le z g1) id)).trans (hx1 q hq)) B2
    · cases hs
end
