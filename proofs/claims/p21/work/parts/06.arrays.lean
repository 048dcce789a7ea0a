/-! THE ABSTRACT HEAP'S ROWS: arrays, new objects -/
section AMA
variable {p : Program} {l : Launch} {e : Env} {R : Room} {s : State} {m : MethodId} {args : Array Value} {below : List Frame} {meth : Method} {c : Code} {H : Heap} {locs : List Loc} {cells slots : Nat} {Q : State → Prop}
variable {cc : ByteArray} {pc : Nat} {ls : Array Slot} {ad : Nat → Nat} {rest : List Value} {own : String} {D : va_G} {cy : Nat → ClassId} {A : Nat → Prop} {h : am_H}
theorem am_r_iald (X : am_X cc own p s m args c) (r : am_R D cy A ad h s H locs) {o : Nat} (ho : o < h.1) (hk : (h.2.2.2 o).1 = 20) {i : Int32} (hin : vp_in i (h.2.2.2 o).2.1) (hd : decode cc pc = .ok (.iaload, 1))
    (kk : W p l e R s m args below meth c H locs cells slots Q (F0 m (pc + 1) ls (.int (am_i ((h.2.2.2 o).2.2 i.toNatClampNeg)) :: rest))) : W p l e R s m args below meth c H locs cells slots Q (F0 m pc ls (.int i :: .ref (ad o) :: rest)) :=
  va_iald X.1 X.2.1 r.1 r.2.1 o 0 (by rw [am_wl_at ho, am_E_i hk]) rfl hin hd kk
theorem am_r_iast (X : am_X cc own p s m args c) (r : am_R D cy A ad h s H locs) {o : Nat} (ho : o < h.1) (hk : (h.2.2.2 o).1 = 20) {i x : Int32} (hin : vp_in i (h.2.2.2 o).2.1) (hd : decode cc pc = .ok (.iastore, 1))
    (kk : ∀ (H1 : Heap) (locs1 : List Loc), am_R D cy A ad (am_put h o ((h.2.2.2 o).1, (h.2.2.2 o).2.1, am_up (h.2.2.2 o).2.2 i.toNatClampNeg (.int x))) s H1 locs1 → W p l e R s m args below meth c H1 locs1 cells slots Q (F0 m (pc + 1) ls rest)) : W p l e R s m args below meth c H locs cells slots Q (F0 m pc ls (.int x :: .int i :: .ref (ad o) :: rest)) := by
  obtain ⟨hK, hP, hD, hS, hA, hcl⟩ := r
  exact va_iast X.1 X.2.1 hK hP hD hS o 0 (by rw [am_wl_at ho, am_E_i hk]) rfl hin hd (fun H1 locs1 hP1 hD1 hS1 => kk H1 locs1 (am_R.put hK hA hcl ho (am_cv_up (fun j => hcl o ho j) trivial) (by rw [am_E_i (c := ((h.2.2.2 o).1, (h.2.2.2 o).2.1, am_up (h.2.2.2 o).2.2 i.toNatClampNeg (.int x))) hk, am_i_up]) hP1 hD1 hS1))
theorem am_r_lald (X : am_X cc own p s m args c) (r : am_R D cy A ad h s H locs) {o : Nat} (ho : o < h.1) (hk : (h.2.2.2 o).1 = 21) {i : Int32} (hin : vp_in i (h.2.2.2 o).2.1) (hd : decode cc pc = .ok (.laload, 1))
    (kk : W p l e R s m args below meth c H locs cells slots Q (F0 m (pc + 1) ls (.long (am_l ((h.2.2.2 o).2.2 i.toNatClampNeg)) :: rest))) : W p l e R s m args below meth c H locs cells slots Q (F0 m pc ls (.int i :: .ref (ad o) :: rest)) :=
  va_lald X.1 X.2.1 r.1 r.2.1 o 1 (by rw [am_wl_at ho, am_E_l hk]) rfl hin hd kk
theorem am_r_last (X : am_X cc own p s m args c) (r : am_R D cy A ad h s H locs) {o : Nat} (ho : o < h.1) (hk : (h.2.2.2 o).1 = 21) {i : Int32} {x : Int64} (hin : vp_in i (h.2.2.2 o).2.1) (hd : decode cc pc = .ok (.lastore, 1))
    (kk : ∀ (H1 : Heap) (locs1 : List Loc), am_R D cy A ad (am_put h o ((h.2.2.2 o).1, (h.2.2.2 o).2.1, am_up (h.2.2.2 o).2.2 i.toNatClampNeg (.long x))) s H1 locs1 → W p l e R s m args below meth c H1 locs1 cells slots Q (F0 m (pc + 1) ls rest)) : W p l e R s m args below meth c H locs cells slots Q (F0 m pc ls (.long x :: .int i :: .ref (ad o) :: rest)) := by
  obtain ⟨hK, hP, hD, hS, hA, hcl⟩ := r
  exact va_last X.1 X.2.1 hK hP hD hS o 1 (by rw [am_wl_at ho, am_E_l hk]) rfl hin hd (fun H1 locs1 hP1 hD1 hS1 => kk H1 locs1 (am_R.put hK hA hcl ho (am_cv_up (fun j => hcl o ho j) trivial) (by rw [am_E_l (c := ((h.2.2.2 o).1, (h.2.2.2 o).2.1, am_up (h.2.2.2 o).2.2 i.toNatClampNeg (.long x))) hk, am_l_up]) hP1 hD1 hS1))
theorem am_r_zald (X : am_X cc own p s m args c) (r : am_R D cy A ad h s H locs) {o : Nat} (ho : o < h.1) (hk : (h.2.2.2 o).1 = 22) {i : Int32} (hin : vp_in i (h.2.2.2 o).2.1) (hd : decode cc pc = .ok (.baload, 1))
    (kk : W p l e R s m args below meth c H locs cells slots Q (F0 m (pc + 1) ls (.int (am_i ((h.2.2.2 o).2.2 i.toNatClampNeg)) :: rest))) : W p l e R s m args below meth c H locs cells slots Q (F0 m pc ls (.int i :: .ref (ad o) :: rest)) :=
  va_zald X.1 X.2.1 r.1 r.2.1 o 2 (by rw [am_wl_at ho, am_E_z hk]) rfl hin hd kk
theorem am_r_zast (X : am_X cc own p s m args c) (r : am_R D cy A ad h s H locs) {o : Nat} (ho : o < h.1) (hk : (h.2.2.2 o).1 = 22) {i x : Int32} (hin : vp_in i (h.2.2.2 o).2.1) (hd : decode cc pc = .ok (.bastore, 1))
    (kk : ∀ (H1 : Heap) (locs1 : List Loc), am_R D cy A ad (am_put h o ((h.2.2.2 o).1, (h.2.2.2 o).2.1, am_up (h.2.2.2 o).2.2 i.toNatClampNeg (.int (vp_nar .boolean x)))) s H1 locs1 → W p l e R s m args below meth c H1 locs1 cells slots Q (F0 m (pc + 1) ls rest)) : W p l e R s m args below meth c H locs cells slots Q (F0 m pc ls (.int x :: .int i :: .ref (ad o) :: rest)) := by
  obtain ⟨hK, hP, hD, hS, hA, hcl⟩ := r
  exact va_zast X.1 X.2.1 hK hP hD hS o 2 (by rw [am_wl_at ho, am_E_z hk]) rfl hin hd (fun H1 locs1 hP1 hD1 hS1 => kk H1 locs1 (am_R.put hK hA hcl ho (am_cv_up (fun j => hcl o ho j) trivial) (by rw [am_E_z (c := ((h.2.2.2 o).1, (h.2.2.2 o).2.1, am_up (h.2.2.2 o).2.2 i.toNatClampNeg (.int (vp_nar .boolean x)))) hk, am_i_up]) hP1 hD1 hS1))
/-- what an array of references gives -/
def am_rv (v : Value) : Value := match v with
  | .ref k => .ref k
  | _ => .null
theorem am_rv_o {ad : Nat → Nat} {v : Value} : va_rf (am_o ad v) = am_v ad (am_rv v) := by cases v <;> rfl
theorem am_rv_c {n : Nat} {v : Value} (hv : am_cv n v) : am_cv n (am_rv v) := by cases v <;> first | exact hv | trivial
theorem am_r_aald (X : am_X cc own p s m args c) (r : am_R D cy A ad h s H locs) {o : Nat} (ho : o < h.1) (hk : (h.2.2.2 o).1 = 23 ∨ (h.2.2.2 o).1 = 24) {i : Int32} (hin : vp_in i (h.2.2.2 o).2.1) (hd : decode cc pc = .ok (.aaload, 1))
    (kk : W p l e R s m args below meth c H locs cells slots Q (F0 m (pc + 1) ls (am_v ad (am_rv ((h.2.2.2 o).2.2 i.toNatClampNeg)) :: rest))) : W p l e R s m args below meth c H locs cells slots Q (F0 m pc ls (.int i :: .ref (ad o) :: rest)) := by
  rw [← am_rv_o] at kk
  rcases hk with hk | hk
  · exact va_aldq X.1 X.2.1 r.1 r.2.1 o 3 (by rw [am_wl_at ho, am_E_a hk]) rfl hin hd kk
  · exact va_aldq X.1 X.2.1 r.1 r.2.1 o 4 (by rw [am_wl_at ho, am_E_m hk]) rfl hin hd kk
theorem am_r_aastM (X : am_X cc own p s m args c) (r : am_R D cy A ad h s H locs) {o q : Nat} (ho : o < h.1) (hk : (h.2.2.2 o).1 = 24) (hq : q < h.1) (hqk : (h.2.2.2 q).1 = 6) {i : Int32} (hin : vp_in i (h.2.2.2 o).2.1) (hd : decode cc pc = .ok (.aastore, 1))
    (kk : ∀ (H1 : Heap) (locs1 : List Loc), am_R D cy A ad (am_put h o ((h.2.2.2 o).1, (h.2.2.2 o).2.1, am_up (h.2.2.2 o).2.2 i.toNatClampNeg (.ref q))) s H1 locs1 → W p l e R s m args below meth c H1 locs1 cells slots Q (F0 m (pc + 1) ls rest)) : W p l e R s m args below meth c H locs cells slots Q (F0 m pc ls (.ref (ad q) :: .int i :: .ref (ad o) :: rest)) := by
  obtain ⟨hK, hP, hD, hS, hA, hcl⟩ := r
  exact va_astq X.1 X.2.1 hK hP hD hS o 4 q 6 (r := (RX7, TX7, 3)) (by rw [am_wl_at ho, am_E_m hk]) rfl (by rw [am_wl_at hq, am_E_ob hqk (by decide)]) rfl hin hd (fun H1 locs1 hP1 hD1 hS1 => kk H1 locs1 (am_R.put hK hA hcl ho (am_cv_up (fun j => hcl o ho j) (Or.inl hq)) (by rw [am_E_m (c := ((h.2.2.2 o).1, (h.2.2.2 o).2.1, am_up (h.2.2.2 o).2.2 i.toNatClampNeg (.ref q))) hk, am_o_up]) hP1 hD1 hS1))
theorem am_r_aastA (X : am_X cc own p s m args c) (r : am_R D cy A ad h s H locs) {o q ci : Nat} (ho : o < h.1) (hk : (h.2.2.2 o).1 = 23) (hq : q < h.1) (hqk : (h.2.2.2 q).1 = ci) {C : String} {T : u_T} {N : Nat} (hc : am_cl[ci]? = some (C, T, N)) (hca : Cond.castable C "ArchiveShelf$Archive" ∈ am_nw) {i : Int32} (hin : vp_in i (h.2.2.2 o).2.1) (hd : decode cc pc = .ok (.aastore, 1))
    (kk : ∀ (H1 : Heap) (locs1 : List Loc), am_R D cy A ad (am_put h o ((h.2.2.2 o).1, (h.2.2.2 o).2.1, am_up (h.2.2.2 o).2.2 i.toNatClampNeg (.ref q))) s H1 locs1 → W p l e R s m args below meth c H1 locs1 cells slots Q (F0 m (pc + 1) ls rest)) : W p l e R s m args below meth c H locs cells slots Q (F0 m pc ls (.ref (ad q) :: .int i :: .ref (ad o) :: rest)) := by
  obtain ⟨hK, hP, hD, hS, hA, hcl⟩ := r
  have hl : ci < 20 := Nat.lt_trans (am_cl_lt hc) (by decide)
  exact va_astqO X.1 X.2.1 hK hP hD hS o 3 q ci (r := (C, T, N)) (E := "ArchiveShelf$Archive") (by rw [am_wl_at ho, am_E_a hk]) rfl (va_Nw.of rfl (X.2.2.2.2 _ hca)) (by rw [am_wl_at hq, am_E_ob hqk hl]) hc hin hd (fun H1 locs1 hP1 hD1 hS1 => kk H1 locs1 (am_R.put hK hA hcl ho (am_cv_up (fun j => hcl o ho j) (Or.inl hq)) (by rw [am_E_a (c := ((h.2.2.2 o).1, (h.2.2.2 o).2.1, am_up (h.2.2.2 o).2.2 i.toNatClampNeg (.ref q))) hk, am_o_up]) hP1 hD1 hS1))
theorem am_r_alen (X : am_X cc own p s m args c) (r : am_R D cy A ad h s H locs) {o : Nat} (ho : o < h.1) (hk : (h.2.2.2 o).1 = 20 ∨ (h.2.2.2 o).1 = 21 ∨ (h.2.2.2 o).1 = 22 ∨ (h.2.2.2 o).1 = 23 ∨ (h.2.2.2 o).1 = 24) (hd : decode cc pc = .ok (.arraylength, 1))
    (kk : W p l e R s m args below meth c H locs cells slots Q (F0 m (pc + 1) ls (.int (Int32.ofNat (h.2.2.2 o).2.1) :: rest))) : W p l e R s m args below meth c H locs cells slots Q (F0 m pc ls (.ref (ad o) :: rest)) := by
  rcases hk with hk | hk | hk | hk | hk
  · exact va_alen X.1 X.2.1 r.1 r.2.1 o 0 (by rw [am_wl_at ho, am_E_i hk]) rfl rfl hd kk
  · exact va_alen X.1 X.2.1 r.1 r.2.1 o 1 (by rw [am_wl_at ho, am_E_l hk]) rfl rfl hd kk
  · exact va_alen X.1 X.2.1 r.1 r.2.1 o 2 (by rw [am_wl_at ho, am_E_z hk]) rfl rfl hd kk
  · exact va_alen X.1 X.2.1 r.1 r.2.1 o 3 (by rw [am_wl_at ho, am_E_a hk]) rfl rfl hd kk
  · exact va_alen X.1 X.2.1 r.1 r.2.1 o 4 (by rw [am_wl_at ho, am_E_m hk]) rfl rfl hd kk
/-- a new cell, at the next number -/
theorem am_R.new (hK : va_K D am_cl (am_tys cy) s) (hA : ∀ q, s.heap.size ≤ q → A q) (hcl : am_cls h) (hn : h.1 < 1000000000) {sl q : Nat} {c' : am_C} (hc' : ∀ j, am_cv h.1 (c'.2.2 j)) {x : va_E} (hx : x = am_E cy ad c') (hP : va_P D am_cl (am_wl cy ad h ++ [(q, x)]) H) (hD : va_D A (am_wl cy ad h ++ [(q, x)])) (hS : va_S A s.heap H locs) : am_R D cy A (am_up ad h.1 q) (am_new h sl c') s H locs := by
  subst hx
  rw [am_wl_new (sl := sl) hn hcl hc'] at hP hD
  exact ⟨hK, hP, hD, hS, hA, am_cls_new hcl hc'⟩
theorem am_r_new (X : am_X cc own p s m args c) (r : am_R D cy A ad h s H locs) (hn : h.1 < 1000000000) {ci idx : Nat} {C : String} {T : u_T} {N : Nat} (hc : am_cl[ci]? = some (C, T, N)) (hlink : Cond.classLink own idx C ∈ am_gd) (hinst : Cond.instantiable C N ∈ am_gd) (hini : Cond.initialized C ∈ am_gd) (hcells : cells + 1 ≤ R.cells) (hslots : slots + N ≤ R.slots) (hd : decode cc pc = .ok (.new idx, 3))
    (kk : ∀ (q : Nat) (H1 : Heap), am_R D cy A (am_up ad h.1 q) (am_new h N (ci, 0, fun j => defaultValue (am_ty0 ci j))) s H1 locs → W p l e R s m args below meth c H1 locs (cells + 1) (slots + N) Q (F0 m (pc + 3) ls (.ref q :: rest))) : W p l e R s m args below meth c H locs cells slots Q (F0 m pc ls rest) := by
  obtain ⟨hx, hb, hown, hts, hnw⟩ := X
  obtain ⟨hK, hP, hD, hS, hA, hcl⟩ := r
  have hl : ci < 20 := Nat.lt_trans (am_cl_lt hc) (by decide)
  have hdv : ∀ j, am_cv h.1 (defaultValue (am_ty0 ci j)) := fun j => by cases am_ty0 ci j <;> trivial
  have hdm : ∀ j, am_v ad (defaultValue (am_ty0 ci j)) = defaultValue (am_ty0 ci j) := fun j => by cases am_ty0 ci j <;> rfl
  refine va_new (ci := ci) (fs := (List.range N).map fun j => defaultValue (am_ty0 ci j)) (C := C) (T := T) (N := N) hx hb hts (am_in_gd hc) (am_ty0 ci) (am_ty_ok hc) hown (hts _ hlink) (hts _ hinst) (hts _ hini) hK hP hD hS hA hc (fun j hj => by simp [vp_V, hj]) hcells hslots hd (fun q H1 hP1 hD1 hS1 => kk q H1 ?_)
  exact am_R.new hK hA hcl hn hdv (by rw [am_E_ob (c := (ci, 0, fun j => defaultValue (am_ty0 ci j))) rfl hl, am_nf_eq hc]; simp only [hdm]) hP1 hD1 hS1
theorem am_cy {t : Nat} {ty : FieldType} {cA : ClassId} (hK : va_K D am_cl (am_tys cy) s) (ht : (am_tys cy)[t]? = some (cy t, ty)) (hK1 : va_K D am_cl (am_tys cy ++ [(cA, ty)]) s) : cA = cy t := by
  have h1 := (hK.2 t _ ht).2
  have h2 := (hK1.2 5 (cA, ty) rfl).2
  unfold va_RA at h1 h2
  cases ty with
  | object C =>
    obtain ⟨_, _, -, -, -, h3⟩ := h1
    obtain ⟨_, _, -, -, -, h4⟩ := h2
    exact Option.some.inj (h4.symm.trans h3)
  | _ => exact Option.some.inj (h2.symm.trans h1)
/-- kind and element of a new array -/
def am_at (ty : ArrayType) : Option (Nat × Nat × Value) := match ty with
  | .int => some (0, 20, .int 0)
  | .long => some (1, 21, .long 0)
  | .boolean => some (2, 22, .int 0)
  | _ => none
theorem am_r_newa (X : am_X cc own p s m args c) (r : am_R D cy A ad h s H locs) (hn : h.1 < 1000000000) {ty : ArrayType} {t kd : Nat} {v0 : Value} (hat : am_at ty = some (t, kd, v0)) (harr : Cond.arrayClass (newarray.typeOf ty) ∈ am_gd) {n : Int32} (hp : ¬ n < 0) (hbytes : n.toNatClampNeg * 8 ≤ 536870912) (hcells : cells + 1 ≤ R.cells) (hslots : slots + n.toNatClampNeg ≤ R.slots) (hd : decode cc pc = .ok (.newarray ty, 2))
    (kk : ∀ (q : Nat) (H1 : Heap), am_R D cy A (am_up ad h.1 q) (am_new h n.toNatClampNeg (kd, n.toNatClampNeg, fun _ => v0)) s H1 locs → W p l e R s m args below meth c H1 locs (cells + 1) (slots + n.toNatClampNeg) Q (F0 m (pc + 2) ls (.ref q :: rest))) : W p l e R s m args below meth c H locs cells slots Q (F0 m pc ls (.int n :: rest)) := by
  obtain ⟨hx, hb, hown, hts, hnw⟩ := X
  obtain ⟨hK, hP, hD, hS, hA, hcl⟩ := r
  cases ty <;> simp only [am_at, Option.some.injEq, Prod.mk.injEq, reduceCtorEq] at hat
  · obtain ⟨rfl, rfl, rfl⟩ := hat
    refine va_newa hx hb (hts _ harr) (ty := .boolean) rfl hK hP hD hS hA (a0 := (n.toNatClampNeg, .inl fun _ => 0)) (fun cA => rfl) hp rfl (Nat.le_trans (Nat.mul_le_mul_left _ (by decide)) hbytes) hcells hslots hd (fun q cA H1 hK1 hP1 hD1 hS1 => kk q H1 ?_)
    rw [am_cy (t := 2) hK rfl hK1] at hP1 hD1
    exact am_R.new hK hA hcl hn (fun _ => trivial) (by rw [am_E_z rfl]; rfl) hP1 hD1 hS1
  · obtain ⟨rfl, rfl, rfl⟩ := hat
    refine va_newa hx hb (hts _ harr) (ty := .int) rfl hK hP hD hS hA (a0 := (n.toNatClampNeg, .inl fun _ => 0)) (fun cA => rfl) hp rfl (Nat.le_trans (Nat.mul_le_mul_left _ (by decide)) hbytes) hcells hslots hd (fun q cA H1 hK1 hP1 hD1 hS1 => kk q H1 ?_)
    rw [am_cy (t := 0) hK rfl hK1] at hP1 hD1
    exact am_R.new hK hA hcl hn (fun _ => trivial) (by rw [am_E_i rfl]; rfl) hP1 hD1 hS1
  · obtain ⟨rfl, rfl, rfl⟩ := hat
    refine va_newa hx hb (hts _ harr) (ty := .long) rfl hK hP hD hS hA (a0 := (n.toNatClampNeg, .inr (.inl fun _ => 0))) (fun cA => rfl) hp rfl (Nat.le_trans (Nat.mul_le_mul_left _ (by decide)) hbytes) hcells hslots hd (fun q cA H1 hK1 hP1 hD1 hS1 => kk q H1 ?_)
    rw [am_cy (t := 1) hK rfl hK1] at hP1 hD1
    exact am_R.new hK hA hcl hn (fun _ => trivial) (by rw [am_E_l rfl]; rfl) hP1 hD1 hS1
/-- kind of a new array of references, by its element's class -/
def am_aq (C : String) : Option (Nat × Nat) := if C = "ArchiveShelf$Archive" then some (3, 23) else if C = "ArchiveShelf$Member" then some (4, 24) else none
theorem am_r_newq (X : am_X cc own p s m args c) (r : am_R D cy A ad h s H locs) (hn : h.1 < 1000000000) {idx : Nat} {C : String} {t kd : Nat} (haq : am_aq C = some (t, kd)) (hlink : Cond.classLink own idx C ∈ am_gd) (hover : va_AO C s) {n : Int32} (hp : ¬ n < 0) (hbytes : n.toNatClampNeg * 4 ≤ 536870912) (hcells : cells + 1 ≤ R.cells) (hslots : slots + n.toNatClampNeg ≤ R.slots) (hd : decode cc pc = .ok (.anewarray idx, 3))
    (kk : ∀ (q : Nat) (H1 : Heap), am_R D cy A (am_up ad h.1 q) (am_new h n.toNatClampNeg (kd, n.toNatClampNeg, fun _ => .null)) s H1 locs → W p l e R s m args below meth c H1 locs (cells + 1) (slots + n.toNatClampNeg) Q (F0 m (pc + 3) ls (.ref q :: rest))) : W p l e R s m args below meth c H locs cells slots Q (F0 m pc ls (.int n :: rest)) := by
  obtain ⟨hx, hb, hown, hts, hnw⟩ := X
  obtain ⟨hK, hP, hD, hS, hA, hcl⟩ := r
  unfold am_aq at haq
  split at haq
  · rename_i hC; subst hC; cases haq
    refine va_newq hx hb hown (hts _ hlink) hover hK hP hD hS hA hp rfl hbytes hcells hslots hd (fun q cA H1 hK1 hP1 hD1 hS1 => kk q H1 ?_)
    rw [am_cy (t := 3) hK rfl hK1] at hP1 hD1
    exact am_R.new hK hA hcl hn (fun _ => trivial) (by rw [am_E_a rfl]; rfl) hP1 hD1 hS1
  · split at haq
    · rename_i hC; subst hC; cases haq
      refine va_newq hx hb hown (hts _ hlink) hover hK hP hD hS hA hp rfl hbytes hcells hslots hd (fun q cA H1 hK1 hP1 hD1 hS1 => kk q H1 ?_)
      rw [am_cy (t := 4) hK rfl hK1] at hP1 hD1
      exact am_R.new hK hA hcl hn (fun _ => trivial) (by rw [am_E_m rfl]; rfl) hP1 hD1 hS1
    · cases haq
end AMA
