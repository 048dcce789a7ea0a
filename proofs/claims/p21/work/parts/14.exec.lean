/-! A METHOD'S RUN ON THE ABSTRACT MACHINE, and that the machine follows it -/
def am_fv (t : List (Nat × Nat × Nat × Nat)) (idx ci : Nat) : Option (Nat × Nat) := match t with
  | [] => none
  | e :: r => bif Nat.beq e.1 idx && Nat.beq e.2.1 ci then some e.2.2 else am_fv r idx ci
theorem am_fv_mem {t : List (Nat × Nat × Nat × Nat)} {idx ci : Nat} {u : Nat × Nat} (h : am_fv t idx ci = some u) : (idx, ci, u) ∈ t := by
  induction t with
  | nil => cases h
  | cons e r ih =>
    unfold am_fv at h
    cases hb : (Nat.beq e.1 idx && Nat.beq e.2.1 ci) with
    | true =>
      rw [hb] at h
      simp only [Bool.and_eq_true] at hb
      obtain ⟨e1, e2, e3⟩ := e
      cases h
      have h1 : e1 = idx := Nat.eq_of_beq_eq_true hb.1
      have h2 : e2 = ci := Nat.eq_of_beq_eq_true hb.2
      subst h1; subst h2
      exact List.mem_cons_self
    | false =>
      rw [hb] at h
      exact List.mem_cons_of_mem _ (ih h)
/-- where a call goes: the method, its arguments, what stays on the stack -/
def am_tgt (own : Nat) (i : Instr) (st : List Value) (h : am_H) : Option (Nat × List Value × List Value) := match i with
  | .invokevirtual idx => match am_fnd (am_vn own) idx with
    | some np => match st.drop np with
      | .ref o :: rest => bif Nat.blt o h.1 then (match am_fv (am_vt own) idx (h.2.2.2 o).1 with
        | some w => some (w.1, .ref o :: (st.take np).reverse, rest)
        | none => none) else none
      | _ => none
    | none => none
  | .invokestatic idx => match am_fnd (am_sst own) idx with
    | some w => match am_tab[w.1]? with
      | some M => some (w.1, (st.take M.2.2.2.2).reverse, st.drop M.2.2.2.2)
      | none => none
    | none => none
  | .invokespecial idx => match am_fnd (am_spt own) idx with
    | some w => match am_tab[w.1]? with
      | some M => match st.drop M.2.2.2.2 with
        | .ref o :: rest => some (w.1, .ref o :: (st.take M.2.2.2.2).reverse, rest)
        | _ => none
      | none => none
    | none => none
  | _ => none
def am_ths (i : Instr) : Nat := match i with
  | .invokestatic _ => 0
  | _ => 1
/-- the room, the stack and the arguments fit -/
def am_can (M M' : am_M) (i : Instr) (w : Nat × List Value × List Value) : Bool := Nat.ble (M'.1.2.2.2.1 + 1) M.1.2.2.2.1 && Nat.ble (8 + (M'.1.2.1 + 11) + M'.1.2.2.2.2.1) M.1.2.2.2.2.1 && Nat.ble ((w.2.2.map fun v => v.category).sum) 8 && Nat.ble (lg_sl w.2.1).length M'.1.2.1 && Nat.beq w.2.1.length (M'.2.2.2.2 + am_ths i)
def am_rok (ret : Option FieldType) (v : Int32) : Bool := match ret with
  | some .int => true
  | some .boolean => decide (v = 0) || decide (v = 1)
  | _ => false
/-- a return, and with what -/
def am_retv (i : Instr) (ret : Option FieldType) (st : List Value) : Option (Option Value) := match i with
  | .ireturn => match st with
    | [.int v] => bif am_rok ret v then some (some (.int v)) else none
    | _ => none
  | .lreturn => match st, ret with
    | [.long v], some .long => some (some (.long v))
    | _, _ => none
  | .areturn => match st, ret with
    | [.ref k], some (.object _) => some (some (.ref k))
    | [.null], some (.object _) => some (some .null)
    | _, _ => none
  | .return_ => match st, ret with
    | [], none => some none
    | _, _ => none
  | _ => none
/-- Math's two: by the class and the entry -/
def am_mt (o : Nat) : List (Nat × Nat) := match o with
  | 3 => [(28, 0), (34, 1)]
  | 8 => [(71, 0)]
  | _ => []
/-- the static rows by their numbers -/
def am_oal : List (Nat × List Int32) := am_sa.zipIdx.map fun q => (1000000000 + q.2, q.1.2.2)
theorem am_oal_at {o : Nat} {a : List Int32} (h : am_fnd am_oal o = some a) : ∃ (j : Nat) (q : String × String × List Int32), am_sa[j]? = some q ∧ o = 1000000000 + j ∧ a = q.2.2 := by
  obtain ⟨⟨q, j⟩, hq, e1⟩ := List.mem_map.mp (am_fnd_mem h)
  have h1 := List.mem_zipIdx_iff_getElem?.mp hq
  exact ⟨j, q, h1, (congrArg Prod.fst e1).symm, (congrArg Prod.snd e1).symm⟩
/-- a text's length and character: by the class and the entry -/
def am_tx (o : Nat) : List (Nat × Nat) := match o with
  | 2 => [(27, 0), (33, 1)]
  | 4 => [(150, 0)]
  | _ => []
/-- the texts by their numbers -/
def am_otl : List (Nat × List Int32) := am_st.zipIdx.map fun q => (1000000100 + q.2, q.1.2.2.2)
theorem am_otl_at {o : Nat} {a : List Int32} (h : am_fnd am_otl o = some a) : ∃ (j : Nat) (q : String × Nat × String × List Int32), am_st[j]? = some q ∧ o = 1000000100 + j ∧ a = q.2.2.2 := by
  obtain ⟨⟨q, j⟩, hq, e1⟩ := List.mem_map.mp (am_fnd_mem h)
  have h1 := List.mem_zipIdx_iff_getElem?.mp hq
  exact ⟨j, q, h1, (congrArg Prod.fst e1).symm, (congrArg Prod.snd e1).symm⟩
/-- Object's own constructor, static rows, Math's two, texts -/
def am_s2 (own fr lo : Nat) (i : Instr) (pc : Nat) (st : List Value) : Option (Nat × List Value) := match i with
  | .invokespecial idx => match st with
    | .ref _ :: r => bif (am_oi own).contains idx && Nat.ble 1 fr && Nat.ble ((r.map fun v => v.category).sum + 12) lo then some (pc + 3, r) else none
    | _ => none
  | .getstatic idx => match am_fnd (am_gt own) idx with
    | some j => some (pc + 3, .ref (1000000000 + j) :: st)
    | none => none
  | .iaload => match st with
    | .int j :: .ref o :: r => match am_fnd am_oal o with
      | some a => bif am_in j a.length then some (pc + 1, .int (a.getD j.toNatClampNeg 0) :: r) else none
      | none => none
    | _ => none
  | .arraylength => match st with
    | .ref o :: r => match am_fnd am_oal o with
      | some a => some (pc + 1, .int (Int32.ofNat a.length) :: r)
      | none => none
    | _ => none
  | .invokestatic idx => match st, am_fnd (am_mt own) idx with
    | .int y :: .int x :: r, some k => bif Nat.ble 1 fr && Nat.ble ((r.map fun v => v.category).sum + 13) lo then some (pc + 3, .int (if Nat.beq k 0 then (if y < x then y else x) else (if x < y then y else x)) :: r) else none
    | _, _ => none
  | .ldc idx => match am_fnd (am_stt own) idx with
    | some j => some (pc + 2, .ref (1000000100 + j) :: st)
    | none => none
  | .invokevirtual idx => match am_fnd (am_tx own) idx with
    | some 0 => match st with
      | .ref o :: r => match am_fnd am_otl o with
        | some a => bif Nat.ble 5 fr && Nat.ble 145 lo && Nat.ble ((r.map fun v => v.category).sum) 8 then some (pc + 3, .int (Int32.ofNat a.length) :: r) else none
        | none => none
      | _ => none
    | some 1 => match st with
      | .int j :: .ref o :: r => match am_fnd am_otl o with
        | some a => bif Nat.ble 5 fr && Nat.ble 145 lo && Nat.ble ((r.map fun v => v.category).sum) 8 && am_in j a.length then some (pc + 3, .int (a.getD j.toNatClampNeg 0) :: r) else none
        | none => none
      | _ => none
    | _ => none
  | _ => none
def am_exec : Nat → Nat → Nat → List (Nat × Value) → List Value → am_H → Option (Option Value × am_H)
  | 0, _, _, _, _, _ => none
  | n + 1, mi, pc, lo, st, h => match am_tab[mi]? with
    | none => none
    | some M => match M.1.2.2.2.2.2 pc with
      | none => none
      | some x => match am_retv x.1 M.2.2.1 st with
        | some v => some (v, h)
        | none => match am_tgt M.1.1 x.1 st h with
          | some w => match am_tab[w.1]? with
            | none => none
            | some M' => bif am_can M M' x.1 w then (match am_exec n w.1 0 (lv_args 0 w.2.1) [] h with
              | some r => am_exec n mi (pc + 3) lo (r.1.toList ++ w.2.2) r.2
              | none => none) else none
          | none => match am_s0 M.1.2.1 x.1 pc lo st with
            | some u => am_exec n mi u.1 u.2.1 u.2.2 h
            | none => match am_s1 M.1.1 M.1.2.2.1 x.1 pc st h with
              | some u => am_exec n mi u.1 lo u.2.1 u.2.2
              | none => match am_s2 M.1.1 M.1.2.2.2.1 M.1.2.2.2.2.1 x.1 pc st with
                | some u => am_exec n mi u.1 lo u.2 h
                | none => none
theorem am_s1_gr {own pc : Nat} {ini : Bool} {i : Instr} {st : List Value} {h : am_H} {u : Nat × List Value × am_H} (hs : am_s1 own ini i pc st h = some u) : am_gr h u.2.2 := by
  unfold am_s1 at hs
  split at hs <;> (first | (split at hs) | skip) <;> (first | (cases hs; done) | skip) <;> (first | (replace hs := (am_cg hs).2) | skip) <;> (first | (split at hs) | skip) <;> (first | (cases hs; done) | skip) <;> (first | (replace hs := (am_cg hs).2) | skip) <;> (cases hs; first | exact am_gr.rf | exact am_gr.new)
theorem am_exec_gr : ∀ {n mi pc : Nat} {lo : List (Nat × Value)} {st : List Value} {h : am_H} {r : Option Value × am_H}, am_exec n mi pc lo st h = some r → am_gr h r.2 := by
  intro n
  induction n with
  | zero => intro mi pc lo st h r hx; cases hx
  | succ n ih =>
    intro mi pc lo st h r hx
    unfold am_exec at hx
    split at hx
    · cases hx
    · split at hx
      · cases hx
      · split at hx
        · cases hx; exact am_gr.rf
        · split at hx
          · split at hx
            · cases hx
            · obtain ⟨-, hx⟩ := am_cg hx
              split at hx
              · rename_i h1
                exact (ih h1).tr (ih hx)
              · cases hx
          · split at hx
            · exact ih hx
            · split at hx
              · rename_i h1
                exact (am_s1_gr h1).tr (ih hx)
              · split at hx
                · exact ih hx
                · cases hx
theorem am_v_eq {ad ad' : Nat → Nat} {n : Nat} {v : Value} (hx : ∀ k, k < n ∨ 1000000000 ≤ k → ad' k = ad k) (h : am_cv n v) : am_v ad' v = am_v ad v := by
  cases v with
  | ref k => exact congrArg Value.ref (hx k h)
  | _ => rfl
theorem am_map_eq {ad ad' : Nat → Nat} {n : Nat} {st : List Value} (hx : ∀ k, k < n ∨ 1000000000 ≤ k → ad' k = ad k) (h : ∀ v ∈ st, am_cv n v) : st.map (am_v ad') = st.map (am_v ad) := List.map_congr_left fun v hv => am_v_eq hx (h v hv)
theorem am_lo_eq {ad ad' : Nat → Nat} {n : Nat} {lo : List (Nat × Value)} (hx : ∀ k, k < n ∨ 1000000000 ≤ k → ad' k = ad k) (h : ∀ q ∈ lo, am_cv n q.2) : am_lo ad' lo = am_lo ad lo := List.map_congr_left fun q hq => by rw [am_v_eq hx (h q hq)]
theorem am_args_lo {ad : Nat → Nat} : ∀ (i : Nat) (av : List Value), lv_args i (av.map (am_v ad)) = am_lo ad (lv_args i av)
  | _, [] => rfl
  | i, v :: vs => by
    simp only [List.map_cons, lv_args, am_v_cat]
    rw [am_args_lo _ vs]
theorem am_args_cl {n : Nat} : ∀ {i : Nat} {av : List Value}, (∀ v ∈ av, am_cv n v) → ∀ q ∈ lv_args i av, am_cv n q.2
  | _, [], _ => fun q hq => by cases hq
  | i, v :: vs, h => fun q hq => by
    rcases List.mem_cons.mp hq with rfl | hq
    · exact am_h1 h
    · exact am_args_cl (am_t1 h) q hq
theorem am_sl_len {ad : Nat → Nat} : ∀ (av : List Value), (lg_sl (av.map (am_v ad))).length = (lg_sl av).length
  | [] => rfl
  | v :: vs => by
    simp only [lg_sl, List.map_cons, List.flatMap_cons, List.length_append, am_v_cat] at *
    have := am_sl_len (ad := ad) vs
    simp only [lg_sl] at this
    rw [this]
    split <;> rfl
/-- from here the method comes to its end, with v and the heap h' -/
def am_Sim (l : Launch) (M : am_M) (pc : Nat) (lo : List (Nat × Value)) (st : List Value) (h : am_H) (v : Option Value) (h' : am_H) : Prop :=
  ∀ (p : Program) (e : Env) (s : State) (m : MethodId) (args : Array Value) (below : List Frame) (meth : Method) (c : Code) (R : Room) (H : Heap) (locs : List Loc) (cells slots mc ms : Nat) (D : va_G) (cy : Nat → ClassId) (A : Nat → Prop) (ad ad0 : Nat → Nat) (n0 : Nat) (ls : Array Slot),
    am_X M.2.1 (am_cn M.1.1) p s m args c → c.maxLocals = M.1.2.1 → meth.sig.returnType = M.2.2.1 → meth.locks = false → (M.1.2.2.1 = true → meth.name = "<init>") → M.1.2.2.2.1 ≤ R.frames → M.1.2.2.2.2.1 ≤ R.locals →
    am_R D cy A ad h s H locs → am_Od A ad s s.heap → lv_has ls M.1.2.1 (am_lo ad lo) → am_fc h.1 lo st → n0 ≤ h.1 → (∀ k, k < n0 ∨ 1000000000 ≤ k → ad k = ad0 k) →
    cells + (h'.2.1 - h.2.1) = mc → slots + (h'.2.2.1 - h.2.2.1) = ms → mc ≤ R.cells → ms ≤ R.slots →
    W p l e R s m args below meth c H locs cells slots (MQ below (am_Qc D cy A ad0 n0 v h') args s mc ms A) (F0 m pc ls (st.map (am_v ad)))
theorem am_met {l : Launch} {M : am_M} {av : List Value} {h h1 : am_H} {v : Option Value} {D : va_G} {cy : Nat → ClassId} {A : Nat → Prop} {ad : Nat → Nat} {mc ms : Nat} (hmo : am_mok M) (hin : M.1.2.2.1 = true → M.2.2.2.1.name = "<init>") (hcn : M.2.2.2.1.cls = am_cn M.1.1) (hs : am_Sim l M 0 (lv_args 0 av) [] h v h1) (hc : ∀ w ∈ av, am_cv h.1 w) (hl : (lg_sl av).length ≤ M.1.2.1) (hmc : h1.2.1 - h.2.1 = mc) (hms : h1.2.2.1 - h.2.2.1 = ms) :
    Met l M.2.2.2.1 (am_ws M) { frames := M.1.2.2.2.1, cells := mc, slots := ms, locals := M.1.2.2.2.2.1 } (am_Pc D cy A ad h av) (am_Qc D cy A ad h.1 v h1) mc ms A := by
  obtain ⟨-, -, m3, -⟩ := am_mok_spec hmo
  refine Met.ofW (cc := M.2.1) (maxL := M.1.2.1) (ret := M.2.2.1) m3 rfl ?_
  intro p e s m args below meth c s₁ B hml hv
  obtain ⟨rfl, hK, hP, hD, hA, hcl, hnw, hod⟩ := hv
  have hts := atoms_spec (ws := am_ws M) B.pre
  have hown : s.vm.findClass M.2.2.2.1.cls = some m.cls := findClass_of_methodNamed B.named
  have hnm : meth.name = M.2.2.2.1.name := (name_of_methodNamed B.named B.method).1
  have hle := lv_entry (av.map (am_v ad)) (n := M.1.2.1) (by rw [am_sl_len]; exact hl)
  rw [lg_entry_eq]
  generalize (lg_sl (av.map (am_v ad)) ++ List.replicate (M.1.2.1 - (lg_sl (av.map (am_v ad))).length) Slot.unset).toArray = ls at hle ⊢
  rw [am_args_lo] at hle
  have hX : am_X M.2.1 (am_cn M.1.1) p s m (av.map (am_v ad)).toArray c := ⟨B.exec, B.bytes, by rw [← hcn]; exact hown, fun w hw => hts w (List.mem_cons_of_mem _ hw), fun w hw => va_Nw.use (am_nw_ot hw) (hnw w hw)⟩
  exact hs p e s m _ below meth c _ s.heap [] 0 0 mc ms D cy A ad ad h.1 ls hX hml B.returns B.notSynchronized (fun q => by rw [hnm]; exact hin q) (Nat.le_refl _) (Nat.le_refl _) ⟨hK, hP, hD, va_S.rf, hA, hcl⟩ hod hle ⟨am_args_cl hc, fun v hv => by cases hv⟩ (Nat.le_refl _) (fun _ _ => rfl) (by rw [Nat.zero_add]; exact hmc) (by rw [Nat.zero_add]; exact hms) (Nat.le_refl _) (Nat.le_refl _)
theorem am_tab_f {mi : Nat} {M : am_M} (h : am_tab[mi]? = some M) : M.1.1 < 17 ∧ (M.1.2.2.1 = true → M.2.2.2.1.name = "<init>") ∧ M.2.2.2.1.cls = am_cn M.1.1 := by
  have h1 := List.all_eq_true.mp am_tab_own M (List.mem_of_getElem? h)
  simp only [Bool.and_eq_true, Bool.or_eq_true, Bool.not_eq_true'] at h1
  obtain ⟨⟨h1, h2⟩, h3⟩ := h1
  exact ⟨Nat.blt_eq.mp h1, fun q => h2.elim (fun f => by rw [f] at q; cases q) of_decide_eq_true, of_decide_eq_true h3⟩
section AMN
variable {p : Program} {l : Launch} {e : Env} {R : Room} {s : State} {m : MethodId} {args : Array Value} {below : List Frame} {meth : Method} {c : Code} {H : Heap} {locs : List Loc} {cells slots : Nat}
variable {cc : ByteArray} {pc : Nat} {ls : Array Slot} {ad ad0 : Nat → Nat} {n0 : Nat} {D : va_G} {cy : Nat → ClassId} {A : Nat → Prop} {h : am_H} {own : String} {st : List Value} {i : Instr} {len : Nat} {v : Option Value} {ret : Option FieldType}
theorem am_r_ret (X : am_X cc own p s m args c) (hret : meth.sig.returnType = ret) (hlk : meth.locks = false) (r : am_R D cy A ad h s H locs) (hc : ∀ w ∈ st, am_cv h.1 w) (had : ∀ k, k < n0 ∨ 1000000000 ≤ k → ad k = ad0 k) (hd : decode cc pc = .ok (i, len)) (hlen : am_len i = 0 ∨ len = am_len i) (hv : am_retv i ret st = some v) :
    W p l e R s m args below meth c H locs cells slots (MQ below (am_Qc D cy A ad0 n0 v h) args s cells slots A) (F0 m pc ls (st.map (am_v ad))) := by
  obtain ⟨hK, hP, hD, hS, hA, hcl⟩ := r
  have hq : (∀ w, v = some w → am_cv h.1 w) → ∀ t : State, t.heap = H → am_Qc D cy A ad0 n0 v h args s (.returned (v.map (am_v ad))) t := fun hcv t ht => ⟨ad, had, rfl, by rw [ht]; exact hP, hD, hS.F ht, hcl, hcv⟩
  unfold am_retv at hv
  split at hv
  · replace hlen : len = 1 := by rcases hlen with q | q; exact absurd q (by simp [am_len]); simpa [am_len] using q
    subst hlen
    split at hv
    · obtain ⟨hb, rfl⟩ := am_cf hv
      have hq := hq (fun w hw => by cases hw; trivial)
      unfold am_rok at hb
      split at hb
      · exact W.zret X.1 X.2.1 hret rfl (fun t ht _ => hq t ht) hS.2.2 hd hlk
      · simp only [Bool.or_eq_true, decide_eq_true_eq] at hb
        exact W.zret X.1 X.2.1 hret (by rcases hb with rfl | rfl <;> decide +kernel) (fun t ht _ => hq t ht) hS.2.2 hd hlk
      · cases hb
    · cases hv
  · replace hlen : len = 1 := by rcases hlen with q | q; exact absurd q (by simp [am_len]); simpa [am_len] using q
    subst hlen
    split at hv
    · cases hv
      have hq := hq (fun w hw => by cases hw; trivial)
      exact W.lret X.1 X.2.1 hret (fun t ht _ => hq t ht) hS.2.2 hd hlk
    · cases hv
  · replace hlen : len = 1 := by rcases hlen with q | q; exact absurd q (by simp [am_len]); simpa [am_len] using q
    subst hlen
    split at hv
    · cases hv
      have hq := hq (fun w hw => by cases hw; exact am_h1 hc)
      exact W.aret X.1 X.2.1 hret (Or.inl ⟨_, rfl⟩) (Or.inr ⟨_, rfl⟩) (fun t ht _ => hq t ht) hS.2.2 hd hlk
    · cases hv
      have hq := hq (fun w hw => by cases hw; trivial)
      exact W.aret X.1 X.2.1 hret (Or.inl ⟨_, rfl⟩) (Or.inl rfl) (fun t ht _ => hq t ht) hS.2.2 hd hlk
    · cases hv
  · replace hlen : len = 1 := by rcases hlen with q | q; exact absurd q (by simp [am_len]); simpa [am_len] using q
    subst hlen
    split at hv
    · cases hv
      have hq := hq (fun w hw => by cases hw)
      exact W.vret X.1 X.2.1 hret (fun t ht _ => hq t ht) hS.2.2 hd hlk
    · cases hv
  · cases hv
theorem am_old {n j : Nat} : am_cv n (.ref (1000000000 + j)) := by
  have h : 1000000000 ≤ 1000000000 + j := by omega
  exact Or.inr h
theorem am_old2 {n j : Nat} : am_cv n (.ref (1000000100 + j)) := by
  have h : 1000000000 ≤ 1000000100 + j := by omega
  exact Or.inr h
theorem am_old2_v {ad : Nat → Nat} {j : Nat} : am_v ad (.ref (1000000100 + j)) = .ref (ad (1000000100 + j)) := rfl
theorem am_old_v {ad : Nat → Nat} {j : Nat} : am_v ad (.ref (1000000000 + j)) = .ref (ad (1000000000 + j)) := rfl
theorem am_s2_cl {own fr lo n : Nat} {u : Nat × List Value} (hs : am_s2 own fr lo i pc st = some u) (hc : ∀ v ∈ st, am_cv n v) : ∀ v ∈ u.2, am_cv n v := by
  unfold am_s2 at hs
  split at hs
  · split at hs
    · obtain ⟨-, rfl⟩ := am_cf hs
      exact am_t1 hc
    · cases hs
  · split at hs
    · cases hs
      exact am_p1 am_old hc
    · cases hs
  · split at hs
    · split at hs
      · obtain ⟨-, rfl⟩ := am_cf hs
        exact am_p1 trivial (am_t1 (am_t1 hc))
      · cases hs
    · cases hs
  · split at hs
    · split at hs
      · cases hs
        exact am_p1 trivial (am_t1 hc)
      · cases hs
    · cases hs
  · split at hs
    · obtain ⟨-, rfl⟩ := am_cf hs
      exact am_p1 trivial (am_t1 (am_t1 hc))
    · cases hs
  · split at hs
    · cases hs
      exact am_p1 am_old2 hc
    · cases hs
  · split at hs
    · split at hs
      · split at hs
        · obtain ⟨-, rfl⟩ := am_cf hs
          exact am_p1 trivial (am_t1 hc)
        · cases hs
      · cases hs
    · split at hs
      · split at hs
        · obtain ⟨-, rfl⟩ := am_cf hs
          exact am_p1 trivial (am_t1 (am_t1 hc))
        · cases hs
      · cases hs
    · cases hs
  · cases hs
theorem am_mw0 : Cond.initialized "java/lang/Math" ∈ am_gd ∧ Cond.static Lib.Math.min.name ∈ am_gd ∧ Cond.code Lib.Math.min.name Lib.Math.min.code 2 (some .int) ∈ am_gd ∧ Cond.static Lib.Math.max.name ∈ am_gd ∧ Cond.code Lib.Math.max.name Lib.Math.max.code 2 (some .int) ∈ am_gd :=
  ⟨am_gd_in (am_tb1 (List.mem_of_getElem? (i := 7) rfl)) rfl, am_gd_in (am_tb1 (List.mem_of_getElem? (i := 123) rfl)) rfl, am_gd_in (am_tb1 (List.mem_of_getElem? (i := 124) rfl)) rfl, am_gd_in (am_tb1 (List.mem_of_getElem? (i := 126) rfl)) rfl, am_gd_in (am_tb1 (List.mem_of_getElem? (i := 127) rfl)) rfl⟩
def am_mtok (own : String) (e : Nat × Nat) : Bool := (Nat.beq e.2 0 && decide (Cond.methodLink own e.1 Lib.Math.min.name ∈ lw_tbl)) || (Nat.beq e.2 1 && decide (Cond.methodLink own e.1 Lib.Math.max.name ∈ lw_tbl))
def am_txok (own : String) (e : Nat × Nat) : Bool := (Nat.beq e.2 0 && decide (Cond.methodLink own e.1 yJ0_length_8abf5 ∈ lw_tbl)) || (Nat.beq e.2 1 && decide (Cond.methodLink own e.1 yJ0_charAt_5068e ∈ lw_tbl))
theorem am_tx_all : (List.range 17).all (fun o => (am_tx o).all (am_txok (am_cn o))) = true := by decide +kernel
theorem am_mt_all : (List.range 17).all (fun o => (am_mt o).all (am_mtok (am_cn o))) = true := by decide +kernel
theorem am_cat_eq {r : List Value} : ((r.map (am_v ad)).map fun v => v.category).sum = (r.map fun v => v.category).sum := by
  rw [List.map_map]; congr 1; apply List.map_congr_left; intro v _; exact am_v_cat ad v
theorem am_s2_ok {own : Nat} {fr lo nL : Nat} {u : Nat × List Value} {Q : State → Prop} (X : am_X cc (am_cn own) p s m args c) (hown : own < 17) (hml : c.maxLocals = nL) (hsz : ls.size = nL) (hfr : fr ≤ R.frames) (hlo : lo ≤ R.locals) (hrc : cells ≤ R.cells) (hrs : slots ≤ R.slots) (hS : va_S A s.heap H locs) (hod : am_Od A ad s s.heap) (hd : decode cc pc = .ok (i, len)) (hlen : am_len i = 0 ∨ len = am_len i) (hs : am_s2 own fr lo i pc st = some u) (k : W p l e R s m args below meth c H locs cells slots Q (F0 m u.1 ls (u.2.map (am_v ad)))) : W p l e R s m args below meth c H locs cells slots Q (F0 m pc ls (st.map (am_v ad))) := by
  unfold am_s2 at hs
  split at hs
  · replace hlen : len = 3 := by rcases hlen with q | q; exact absurd q (by simp [am_len]); simpa [am_len] using q
    subst hlen
    split at hs
    · rename_i idx k0 r0
      obtain ⟨hb, rfl⟩ := am_cf hs
      obtain ⟨hb, h3⟩ := am_b2 hb
      obtain ⟨h1, h2⟩ := am_b2 hb
      have hlink := am_all am_oi_all hown (List.contains_iff_mem.mp h1)
      have h3 := Nat.le_of_ble_eq_true h3
      have h2 := Nat.le_of_ble_eq_true h2
      refine W.objInit X.1 X.2.1 X.2.2.1 (X.2.2.2.1 _ (am_gd_of hlink rfl)) (X.2.2.2.1 _ (am_gd_in am_obj.1 rfl)) (X.2.2.2.1 _ (am_gd_in am_obj.2 rfl)) rfl (by rw [hml]; exact hsz) rfl hd (by omega) ?_ k
      have e1 := am_cat_eq (ad := ad) (r := r0)
      show 2 * 0 + _ + 12 ≤ _
      rw [e1]
      omega
    · cases hs
  · replace hlen : len = 3 := by rcases hlen with q | q; exact absurd q (by simp [am_len]); simpa [am_len] using q
    subst hlen
    split at hs
    · rename_i idx j hf
      cases hs
      have hok := am_all am_gt_all hown (am_fnd_mem hf)
      unfold am_gtok at hok
      split at hok
      · rename_i q hq
        have hq : am_sa[j]? = some q := hq
        rw [List.map_cons, am_old_v] at k
        exact va_gets X.1 X.2.1 (hod.2.2.1 j q hq).1 hS X.2.2.1 (X.2.2.2.1 _ (am_gd_of hok rfl)) (fun _ h9 => h9) hd k
      · cases hok
    · cases hs
  · replace hlen : len = 1 := by rcases hlen with q | q; exact absurd q (by simp [am_len]); simpa [am_len] using q
    subst hlen
    split at hs
    · rename_i j o r0
      split at hs
      · rename_i a ha
        obtain ⟨h2, rfl⟩ := am_cf hs
        obtain ⟨jj, q, hq, rfl, rfl⟩ := am_oal_at ha
        exact va_ti X.1 X.2.1 (hod.2.2.1 jj q hq).2 hS (am_in_ok2 h2) rfl hd k
      · cases hs
    · cases hs
  · replace hlen : len = 1 := by rcases hlen with q | q; exact absurd q (by simp [am_len]); simpa [am_len] using q
    subst hlen
    split at hs
    · rename_i o r0
      split at hs
      · rename_i a ha
        cases hs
        obtain ⟨jj, q, hq, rfl, rfl⟩ := am_oal_at ha
        exact va_tlen X.1 X.2.1 (hod.2.2.1 jj q hq).2 hS rfl hd k
      · cases hs
    · cases hs
  · replace hlen : len = 3 := by rcases hlen with q | q; exact absurd q (by simp [am_len]); simpa [am_len] using q
    subst hlen
    split at hs
    · rename_i idx _ y x r0 k0 hf
      obtain ⟨hb, rfl⟩ := am_cf hs
      obtain ⟨h2, h3⟩ := am_b2 hb
      have h3 := Nat.le_of_ble_eq_true h3
      have h2 := Nat.le_of_ble_eq_true h2
      have hok := am_all am_mt_all hown (am_fnd_mem hf)
      unfold am_mtok at hok
      simp only [Bool.or_eq_true] at hok
      obtain ⟨w0, w1, w2, w3, w4⟩ := am_mw0
      have e1 := am_cat_eq (ad := ad) (r := r0)
      have hts := X.2.2.2.1
      rcases hok with hk | hk
      · obtain ⟨k1, k2⟩ := am_b2 hk
        have k1 : k0 = 0 := Nat.eq_of_beq_eq_true k1
        subst k1
        exact va_mmin X.1 X.2.1 (by rw [hml, hsz]) X.2.2.1 (hts _ (am_gd_of k2 rfl)) (hts _ w1) (hts _ w0) (hts _ w2) (by omega) (by rw [e1]; omega) hrc hrs hd k
      · obtain ⟨k1, k2⟩ := am_b2 hk
        have k1 : k0 = 1 := Nat.eq_of_beq_eq_true k1
        subst k1
        exact va_mmax X.1 X.2.1 (by rw [hml, hsz]) X.2.2.1 (hts _ (am_gd_of k2 rfl)) (hts _ w3) (hts _ w0) (hts _ w4) (by omega) (by rw [e1]; omega) hrc hrs hd k
    · cases hs
  · replace hlen : len = 2 := by rcases hlen with q | q; exact absurd q (by simp [am_len]); simpa [am_len] using q
    subst hlen
    split at hs
    · rename_i idx _ j hf
      cases hs
      have hok := am_all am_stt_all hown (am_fnd_mem hf)
      unfold am_sttok at hok
      split at hok
      · rename_i q hq
        have hq : am_st[j]? = some q := hq
        obtain ⟨s1, s2⟩ := am_b2 hok
        have s1 : q.1 = am_cn own := of_decide_eq_true s1
        have s2 : q.2.1 = idx := Nat.eq_of_beq_eq_true s2
        have k1 := (hod.2.2.2.1 j q hq).1
        rw [s1, s2] at k1
        rw [List.map_cons, am_old2_v] at k
        exact va_ldcS X.1 X.2.1 X.2.2.1 k1 hd k
      · cases hok
    · cases hs
  · replace hlen : len = 3 := by rcases hlen with q | q; exact absurd q (by simp [am_len]); simpa [am_len] using q
    subst hlen
    split at hs
    · rename_i idx _ hf
      have hok := am_all am_tx_all hown (am_fnd_mem hf)
      have hok : Cond.methodLink (am_cn own) idx yJ0_length_8abf5 ∈ lw_tbl := by
        unfold am_txok at hok
        rcases Bool.or_eq_true_iff.mp hok with hk | hk
        · exact of_decide_eq_true (am_b2 hk).2
        · cases (am_b2 hk).1
      split at hs
      · rename_i o r0
        split at hs
        · rename_i a ha
          obtain ⟨hb, rfl⟩ := am_cf hs
          obtain ⟨hb, h3⟩ := am_b2 hb
          obtain ⟨h1, h2⟩ := am_b2 hb
          have h1 := Nat.le_of_ble_eq_true h1
          have h2 := Nat.le_of_ble_eq_true h2
          have h3 := Nat.le_of_ble_eq_true h3
          obtain ⟨jj, q, hq, rfl, rfl⟩ := am_otl_at ha
          exact am_txtL X hml hsz (by omega) (by omega) hrc hrs hS hod hq hok hd h3 k
        · cases hs
      · cases hs
    · rename_i idx _ hf
      have hok := am_all am_tx_all hown (am_fnd_mem hf)
      have hok : Cond.methodLink (am_cn own) idx yJ0_charAt_5068e ∈ lw_tbl := by
        unfold am_txok at hok
        rcases Bool.or_eq_true_iff.mp hok with hk | hk
        · cases (am_b2 hk).1
        · exact of_decide_eq_true (am_b2 hk).2
      split at hs
      · rename_i j o r0
        split at hs
        · rename_i a ha
          obtain ⟨hb, rfl⟩ := am_cf hs
          obtain ⟨hb, h4⟩ := am_b2 hb
          obtain ⟨hb, h3⟩ := am_b2 hb
          obtain ⟨h1, h2⟩ := am_b2 hb
          have h1 := Nat.le_of_ble_eq_true h1
          have h2 := Nat.le_of_ble_eq_true h2
          have h3 := Nat.le_of_ble_eq_true h3
          obtain ⟨jj, q, hq, rfl, rfl⟩ := am_otl_at ha
          exact am_txtC X hml hsz (by omega) (by omega) hrc hrs hS hod hq hok hd h3 h4 k
        · cases hs
      · cases hs
    · cases hs
  · cases hs
end AMN
