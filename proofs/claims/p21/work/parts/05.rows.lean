/-! THE ABSTRACT HEAP'S ROWS: each instruction that touches the heap, over the abstract one -/
def am_gd : List Cond := lw_tbl.filter goodWord
def am_isN (w : Cond) : Bool := match w with
  | .fieldLinkNest _ _ _ _ _ _ => true
  | .methodLinkNest _ _ _ _ => true
  | .castable _ _ => true
  | .declares _ => true
  | _ => false
def am_nw : List Cond := lw_tbl.filter am_isN
theorem am_gd_in {w : Cond} (h : w ∈ lw_tbl) (hg : goodWord w = true) : w ∈ am_gd := List.mem_filter.mpr ⟨h, hg⟩
theorem am_u_good {C : String} {T : u_T} {N : Nat} : ∀ w ∈ u_ws C T N, goodWord w = true := by
  intro w hw
  unfold u_ws at hw
  obtain ⟨k, -, rfl⟩ := List.mem_map.mp hw
  unfold u_lay
  split <;> first | rfl | simp [goodWord, Cond.onTables, Cond.keeps, Cond.steady]
theorem am_in_gd {ci : Nat} {C : String} {T : u_T} {N : Nat} (h : am_cl[ci]? = some (C, T, N)) : ∀ w ∈ u_ws C T N, w ∈ am_gd := fun w hw => am_gd_in (am_in_ok h w hw) (am_u_good w hw)
theorem am_cl_lt {ci : Nat} {q : vw_C} (h : am_cl[ci]? = some q) : ci < 12 := (List.getElem?_eq_some_iff.mp h).1
theorem am_nf_eq {ci : Nat} {C : String} {T : u_T} {N : Nat} (h : am_cl[ci]? = some (C, T, N)) : am_nf ci = N := by
  unfold am_nf; rw [h]
theorem am_E_ob {cy : Nat → ClassId} {ad : Nat → Nat} {c : am_C} {ci : Nat} (h : c.1 = ci) (hl : ci < 20) : am_E cy ad c = .inr (ci, (List.range (am_nf ci)).map fun k => am_v ad (c.2.2 k)) := by
  subst h
  unfold am_E
  rw [if_neg (by omega), if_neg (by omega), if_neg (by omega), if_neg (by omega), if_neg (by omega)]
theorem am_E_i {cy : Nat → ClassId} {ad : Nat → Nat} {c : am_C} (h : c.1 = 20) : am_E cy ad c = .inl (cy 0, c.2.1, .inl fun j => am_i (c.2.2 j)) := by
  unfold am_E; rw [if_pos h]
theorem am_E_l {cy : Nat → ClassId} {ad : Nat → Nat} {c : am_C} (h : c.1 = 21) : am_E cy ad c = .inl (cy 1, c.2.1, .inr (.inl fun j => am_l (c.2.2 j))) := by
  unfold am_E; rw [if_neg (by omega), if_pos h]
theorem am_E_z {cy : Nat → ClassId} {ad : Nat → Nat} {c : am_C} (h : c.1 = 22) : am_E cy ad c = .inl (cy 2, c.2.1, .inl fun j => am_i (c.2.2 j)) := by
  unfold am_E; rw [if_neg (by omega), if_neg (by omega), if_pos h]
theorem am_E_a {cy : Nat → ClassId} {ad : Nat → Nat} {c : am_C} (h : c.1 = 23) : am_E cy ad c = .inl (cy 3, c.2.1, .inr (.inr (.inr (.inr fun j => am_o ad (c.2.2 j))))) := by
  unfold am_E; rw [if_neg (by omega), if_neg (by omega), if_neg (by omega), if_pos h]
theorem am_E_m {cy : Nat → ClassId} {ad : Nat → Nat} {c : am_C} (h : c.1 = 24) : am_E cy ad c = .inl (cy 4, c.2.1, .inr (.inr (.inr (.inr fun j => am_o ad (c.2.2 j))))) := by
  unfold am_E; rw [if_neg (by omega), if_neg (by omega), if_neg (by omega), if_neg (by omega), if_pos h]
theorem am_map_set {α : Type} {N k : Nat} {f : Nat → α} {v : α} : ((List.range N).map f).set k v = (List.range N).map (am_up f k v) := by
  apply List.ext_getElem?
  intro j
  rw [List.getElem?_set]
  by_cases hj : k = j
  · subst hj
    by_cases hk : k < N
    · simp [hk, am_up_s]
    · simp [hk]
  · rw [if_neg hj]
    by_cases hk : j < N
    · simp [hk, am_up_n (Ne.symm hj)]
    · simp [hk]
theorem am_v_up {ad : Nat → Nat} {f : Nat → Value} {k : Nat} {v : Value} : am_up (fun j => am_v ad (f j)) k (am_v ad v) = fun j => am_v ad (am_up f k v j) := by
  funext j
  by_cases e : j = k
  · subst e; simp only [am_up_s]
  · simp only [am_up_n e]
theorem am_i_up {f : Nat → Value} {k : Nat} {x : Int32} : upd (fun j => am_i (f j)) k x = fun j => am_i (am_up f k (.int x) j) := by
  funext j
  by_cases e : j = k
  · subst e; simp only [am_up_s, pk_us]; rfl
  · simp only [am_up_n e, pk_un e]
theorem am_l_up {f : Nat → Value} {k : Nat} {x : Int64} : vp_updL (fun j => am_l (f j)) k x = fun j => am_l (am_up f k (.long x) j) := by
  funext j
  by_cases e : j = k
  · subst e; simp only [am_up_s, pk_uLs]; rfl
  · simp only [am_up_n e, pk_uLn e]
theorem am_o_up {ad : Nat → Nat} {f : Nat → Value} {k o : Nat} : va_up (fun j => am_o ad (f j)) k (some (ad o)) = fun j => am_o ad (am_up f k (.ref o) j) := by
  funext j
  by_cases e : j = k
  · subst e; simp [am_up_s, va_up, am_o]
  · simp [am_up_n e, va_up, e]
section AMR
variable {p : Program} {l : Launch} {e : Env} {R : Room} {s : State} {m : MethodId} {args : Array Value} {below : List Frame} {meth : Method} {c : Code} {H : Heap} {locs : List Loc} {cells slots : Nat} {Q : State → Prop}
variable {cc : ByteArray} {pc : Nat} {ls : Array Slot} {ad : Nat → Nat} {rest : List Value} {own : String} {D : va_G} {cy : Nat → ClassId} {A : Nat → Prop} {h : am_H}
/-- a method's own: the machine, its code, its class, the tables' words -/
def am_X (cc : ByteArray) (own : String) (p : Program) (s : State) (m : MethodId) (args : Array Value) (c : Code) : Prop := p.tables.exec = Jvm.exec ∧ c.code = cc ∧ s.vm.findClass own = some m.cls ∧ (∀ w ∈ am_gd, w.before args s = true) ∧ ∀ w ∈ am_nw, w.before args s = true
/-- the heap is the abstract one -/
def am_R (D : va_G) (cy : Nat → ClassId) (A : Nat → Prop) (ad : Nat → Nat) (h : am_H) (s : State) (H : Heap) (locs : List Loc) : Prop := va_K D am_cl (am_tys cy) s ∧ va_P D am_cl (am_wl cy ad h) H ∧ va_D A (am_wl cy ad h) ∧ va_S A s.heap H locs ∧ (∀ q, s.heap.size ≤ q → A q) ∧ am_cls h
theorem am_r_get (X : am_X cc own p s m args c) (r : am_R D cy A ad h s H locs) {o ci k idx : Nat} (ho : o < h.1) (hci : (h.2.2.2 o).1 = ci) {C ref : String} {T : u_T} {N : Nat} (hc : am_cl[ci]? = some (C, T, N)) (hk : k < N) (hlink : Cond.fieldLink own idx ref (T k).2.1 (T k).2.2.1 ∈ am_gd) (hsame : ref = (T k).1 ∨ Cond.sameField ref (T k).1 (T k).2.1 (T k).2.2.1 ∈ am_gd) (hd : decode cc pc = .ok (.getfield idx, 3))
    (kk : W p l e R s m args below meth c H locs cells slots Q (F0 m (pc + 3) ls (am_v ad ((h.2.2.2 o).2.2 k) :: rest))) : W p l e R s m args below meth c H locs cells slots Q (F0 m pc ls (.ref (ad o) :: rest)) := by
  obtain ⟨hx, hb, hown, hts, hnw⟩ := X
  obtain ⟨hK, hP, hD, hS, hA, hcl⟩ := r
  have hl : ci < 20 := Nat.lt_trans (am_cl_lt hc) (by decide)
  refine va_get (C := C) (T := T) (N := N) (ci := ci) (fs := (List.range (am_nf ci)).map fun k => am_v ad ((h.2.2.2 o).2.2 k)) hx hb hts (am_in_gd hc) hown hK hP o (by rw [am_wl_at ho, am_E_ob hci hl]) hc k hk (hts _ hlink) ?_ ?_ hd kk
  · rcases hsame with e1 | e1
    · intro x hx; rw [e1]; exact hx
    · exact u_same (hts _ e1)
  · rw [am_nf_eq hc]; simp [hk]
theorem am_r_getN (X : am_X cc own p s m args c) (r : am_R D cy A ad h s H locs) {o ci k idx : Nat} (ho : o < h.1) (hci : (h.2.2.2 o).1 = ci) {C ref host : String} {T : u_T} {N : Nat} (hc : am_cl[ci]? = some (C, T, N)) (hk : k < N) (hlink : Cond.fieldLinkNest own idx ref (T k).2.1 (T k).2.2.1 host ∈ am_nw) (hsame : ref = (T k).1) (hd : decode cc pc = .ok (.getfield idx, 3))
    (kk : W p l e R s m args below meth c H locs cells slots Q (F0 m (pc + 3) ls (am_v ad ((h.2.2.2 o).2.2 k) :: rest))) : W p l e R s m args below meth c H locs cells slots Q (F0 m pc ls (.ref (ad o) :: rest)) := by
  obtain ⟨hx, hb, hown, hts, hnw⟩ := X
  obtain ⟨hK, hP, hD, hS, hA, hcl⟩ := r
  have hl : ci < 20 := Nat.lt_trans (am_cl_lt hc) (by decide)
  refine va_getN (C := C) (T := T) (N := N) (ci := ci) (fs := (List.range (am_nf ci)).map fun k => am_v ad ((h.2.2.2 o).2.2 k)) hx hb hts (am_in_gd hc) hown hK hP o (by rw [am_wl_at ho, am_E_ob hci hl]) hc k hk (hnw _ hlink) ?_ ?_ hd kk
  · intro x hx; rw [hsame]; exact hx
  · rw [am_nf_eq hc]; simp [hk]
theorem am_R.put (hK : va_K D am_cl (am_tys cy) s) (hA : ∀ q, s.heap.size ≤ q → A q) (hcl : am_cls h) {o : Nat} (ho : o < h.1) {c' : am_C} (hc' : ∀ j, am_cv h.1 (c'.2.2 j)) {x : va_E} (hx : x = am_E cy ad c') (hP : va_P D am_cl ((am_wl cy ad h).set o (ad o, x)) H) (hD : va_D A ((am_wl cy ad h).set o (ad o, x))) (hS : va_S A s.heap H locs) : am_R D cy A ad (am_put h o c') s H locs := by
  subst hx
  rw [am_wl_set ho] at hP hD
  exact ⟨hK, hP, hD, hS, hA, am_cls_put hcl hc'⟩
theorem am_r_put (X : am_X cc own p s m args c) (r : am_R D cy A ad h s H locs) {o ci k idx : Nat} (ho : o < h.1) (hci : (h.2.2.2 o).1 = ci) {C ref : String} {T : u_T} {N : Nat} (hc : am_cl[ci]? = some (C, T, N)) (hk : k < N) (hlink : Cond.fieldLink own idx ref (T k).2.1 (T k).2.2.1 ∈ am_gd) (hsame : ref = (T k).1 ∨ Cond.sameField ref (T k).1 (T k).2.1 (T k).2.2.1 ∈ am_gd) (hfin : (T k).2.2.2 = false ∨ (meth.name = "<init>" ∧ (T k).1 = own)) {v : Value} (hfit : am_fit (am_ty0 ci k) v = true) (hv : am_cv h.1 v) (hd : decode cc pc = .ok (.putfield idx, 3))
    (kk : ∀ (H1 : Heap) (locs1 : List Loc), am_R D cy A ad (am_put h o ((h.2.2.2 o).1, (h.2.2.2 o).2.1, am_up (h.2.2.2 o).2.2 k v)) s H1 locs1 → W p l e R s m args below meth c H1 locs1 cells slots Q (F0 m (pc + 3) ls rest)) : W p l e R s m args below meth c H locs cells slots Q (F0 m pc ls (am_v ad v :: .ref (ad o) :: rest)) := by
  obtain ⟨hx, hb, hown, hts, hnw⟩ := X
  obtain ⟨hK, hP, hD, hS, hA, hcl⟩ := r
  have hl : ci < 20 := Nat.lt_trans (am_cl_lt hc) (by decide)
  have he : (am_wl cy ad h)[o]? = some (ad o, .inr (ci, (List.range (am_nf ci)).map fun k => am_v ad ((h.2.2.2 o).2.2 k))) := by rw [am_wl_at ho, am_E_ob hci hl]
  have hsm : ∀ x, s.fieldFound? (T k).1 (T k).2.1 (T k).2.2.1 = some x → s.fieldFound? ref (T k).2.1 (T k).2.2.1 = some x := by
    rcases hsame with e1 | e1
    · intro x hx; rw [e1]; exact hx
    · exact u_same (hts _ e1)
  have hff := am_fit_ok (ad := ad) hfit
  have hxx : (.inr (ci, ((List.range (am_nf ci)).map fun k => am_v ad ((h.2.2.2 o).2.2 k)).set k (am_v ad v)) : va_E) = am_E cy ad ((h.2.2.2 o).1, (h.2.2.2 o).2.1, am_up (h.2.2.2 o).2.2 k v) := by
    rw [am_E_ob (c := ((h.2.2.2 o).1, (h.2.2.2 o).2.1, am_up (h.2.2.2 o).2.2 k v)) hci hl, am_map_set, am_v_up]
  have hgo : ∀ (H1 : Heap) (locs1 : List Loc), va_P D am_cl ((am_wl cy ad h).set o (ad o, .inr (ci, ((List.range (am_nf ci)).map fun k => am_v ad ((h.2.2.2 o).2.2 k)).set k (am_v ad v)))) H1 → va_D A ((am_wl cy ad h).set o (ad o, .inr (ci, ((List.range (am_nf ci)).map fun k => am_v ad ((h.2.2.2 o).2.2 k)).set k (am_v ad v)))) → va_S A s.heap H1 locs1 → W p l e R s m args below meth c H1 locs1 cells slots Q (F0 m (pc + 3) ls rest) :=
    fun H1 locs1 hP1 hD1 hS1 => kk H1 locs1 (am_R.put hK hA hcl ho (am_cv_up (fun j => hcl o ho j) hv) hxx hP1 hD1 hS1)
  rcases hfin with hfin | ⟨hin2, hdecl⟩
  · exact va_put hx hb hts (am_in_gd hc) (am_ty0 ci) (am_ty_ok hc) (am_nm_ok hc) hown hK hP hD hS o he hc k hk (hts _ hlink) hsm hfin (am_ty_ok hc k hk) hff.1 hff.2 (by rw [am_nf_eq hc]; simpa using hk) hd hgo
  · cases hfb : (T k).2.2.2 with
    | false => exact va_put hx hb hts (am_in_gd hc) (am_ty0 ci) (am_ty_ok hc) (am_nm_ok hc) hown hK hP hD hS o he hc k hk (hts _ hlink) hsm hfb (am_ty_ok hc k hk) hff.1 hff.2 (by rw [am_nf_eq hc]; simpa using hk) hd hgo
    | true => exact va_putF hx hb hts (am_in_gd hc) (am_ty0 ci) (am_ty_ok hc) (am_nm_ok hc) hown hK hP hD hS o he hc k hk (hts _ hlink) hsm hfb hin2 hdecl (am_ty_ok hc k hk) hff.1 hff.2 (by rw [am_nf_eq hc]; simpa using hk) hd hgo
theorem am_r_putN (X : am_X cc own p s m args c) (r : am_R D cy A ad h s H locs) {o ci k idx : Nat} (ho : o < h.1) (hci : (h.2.2.2 o).1 = ci) {C ref host : String} {T : u_T} {N : Nat} (hc : am_cl[ci]? = some (C, T, N)) (hk : k < N) (hlink : Cond.fieldLinkNest own idx ref (T k).2.1 (T k).2.2.1 host ∈ am_nw) (hsame : ref = (T k).1) (hfin : (T k).2.2.2 = false) {v : Value} (hfit : am_fit (am_ty0 ci k) v = true) (hv : am_cv h.1 v) (hd : decode cc pc = .ok (.putfield idx, 3))
    (kk : ∀ (H1 : Heap) (locs1 : List Loc), am_R D cy A ad (am_put h o ((h.2.2.2 o).1, (h.2.2.2 o).2.1, am_up (h.2.2.2 o).2.2 k v)) s H1 locs1 → W p l e R s m args below meth c H1 locs1 cells slots Q (F0 m (pc + 3) ls rest)) : W p l e R s m args below meth c H locs cells slots Q (F0 m pc ls (am_v ad v :: .ref (ad o) :: rest)) := by
  obtain ⟨hx, hb, hown, hts, hnw⟩ := X
  obtain ⟨hK, hP, hD, hS, hA, hcl⟩ := r
  have hl : ci < 20 := Nat.lt_trans (am_cl_lt hc) (by decide)
  have he : (am_wl cy ad h)[o]? = some (ad o, .inr (ci, (List.range (am_nf ci)).map fun k => am_v ad ((h.2.2.2 o).2.2 k))) := by rw [am_wl_at ho, am_E_ob hci hl]
  have hff := am_fit_ok (ad := ad) hfit
  have hxx : (.inr (ci, ((List.range (am_nf ci)).map fun k => am_v ad ((h.2.2.2 o).2.2 k)).set k (am_v ad v)) : va_E) = am_E cy ad ((h.2.2.2 o).1, (h.2.2.2 o).2.1, am_up (h.2.2.2 o).2.2 k v) := by
    rw [am_E_ob (c := ((h.2.2.2 o).1, (h.2.2.2 o).2.1, am_up (h.2.2.2 o).2.2 k v)) hci hl, am_map_set, am_v_up]
  exact va_putN hx hb hts (am_in_gd hc) (am_ty0 ci) (am_ty_ok hc) (am_nm_ok hc) hown hK hP hD hS o he hc k hk (hnw _ hlink) (fun x hx => by rw [hsame]; exact hx) hfin (am_ty_ok hc k hk) hff.1 hff.2 (by rw [am_nf_eq hc]; simpa using hk) hd (fun H1 locs1 hP1 hD1 hS1 => kk H1 locs1 (am_R.put hK hA hcl ho (am_cv_up (fun j => hcl o ho j) hv) hxx hP1 hD1 hS1))
end AMR
