abbrev am_cl : List vw_C := [(RX1, TX1, 3), (RX2, TX2, 2), (RX3, TX3, 5), (RX4, TX4, 3), (RX5, TX5, 16), (RX6, TX6, 2), (RX7, TX7, 3), (RX8, TX8, 4), (RX9, TX9, 2), (RX10, TX10, 16), (RX11, TX11, 10), (RX12, TX12, 39)]
def am_ty0 (ci : Nat) : Nat → FieldType := match ci with
  | 0 => tyX1
  | 1 => tyX2
  | 2 => tyX3
  | 3 => tyX4
  | 4 => tyX5
  | 5 => tyX6
  | 6 => tyX7
  | 7 => tyX8
  | 8 => tyX9
  | 9 => tyX10
  | 10 => tyX11
  | 11 => tyX12
  | _ => fun _ => .int
/-- a number of a word, to tell words apart at little cost -/
def ctb_key (c : Cond) : Nat := match c with
  | .classLink _ k _ => 16 * k + 1
  | .methodLink _ k _ => 16 * k + 2
  | .fieldLink _ k _ _ _ => 16 * k + 3
  | .methodLinkNest _ k _ _ => 16 * k + 4
  | .fieldLinkNest _ k _ _ _ _ => 16 * k + 5
  | .constant _ k _ => 16 * k + 6
  | .constantLong _ k _ => 16 * k + 7
  | .stringLink _ k _ => 16 * k + 8
  | .initialized _ => 16
  | .instantiable _ k => 16 * k + 9
  | .lays _ _ _ _ => 32
  | .laysFinal _ _ _ _ => 48
  | .sameField _ _ _ _ => 64
  | .code _ _ _ _ => 80
  | .selects _ _ _ => 96
  | .instanceMethod _ => 112
  | .static _ => 128
  | .castable _ _ => 144
  | .codeWith _ _ _ _ _ => 160
  | .superclass _ _ => 176
  | .arrayClass _ => 192
  | _ => 0
def ctb_ceq (a b : Cond) : Bool := Nat.beq (ctb_key a) (ctb_key b) && decide (a = b)
def ctb_mem (w : Cond) : Bool := lw_tbl.any (ctb_ceq w)
theorem ctb_ceq_eq (a b : Cond) : ctb_ceq a b = decide (a = b) := by
  unfold ctb_ceq
  by_cases h : a = b
  · subst h
    rw [Nat.beq_refl]
    rfl
  · rw [decide_eq_false h, Bool.and_false]
theorem ctb_mem_eq (w : Cond) : decide (w ∈ lw_tbl) = ctb_mem w := by
  unfold ctb_mem
  by_cases h : w ∈ lw_tbl
  · rw [decide_eq_true h]
    exact (List.any_eq_true.mpr ⟨w, h, by rw [ctb_ceq_eq]; exact decide_eq_true rfl⟩).symm
  · rw [decide_eq_false h]
    refine (Bool.eq_false_iff.mpr fun hc => h ?_).symm
    obtain ⟨x, hx, he⟩ := List.any_eq_true.mp hc
    rw [ctb_ceq_eq] at he
    rw [of_decide_eq_true he]
    exact hx
theorem ctb_memall {l : List Cond} (h : l.all ctb_mem = true) : ∀ w ∈ l, w ∈ lw_tbl := fun w hw => of_decide_eq_true ((ctb_mem_eq w).trans (List.all_eq_true.mp h w hw))
theorem am_in0 : ∀ w ∈ wsX10, w ∈ lw_tbl := ctb_memall (by decide +kernel)
theorem am_in1 : ∀ w ∈ wsX20, w ∈ lw_tbl := ctb_memall (by decide +kernel)
theorem am_in2 : ∀ w ∈ wsX30, w ∈ lw_tbl := ctb_memall (by decide +kernel)
theorem am_in3 : ∀ w ∈ wsX40, w ∈ lw_tbl := ctb_memall (by decide +kernel)
theorem am_in4 : ∀ w ∈ wsX50, w ∈ lw_tbl := ctb_memall (by decide +kernel)
theorem am_in5 : ∀ w ∈ wsX60, w ∈ lw_tbl := ctb_memall (by decide +kernel)
theorem am_in6 : ∀ w ∈ wsX70, w ∈ lw_tbl := ctb_memall (by decide +kernel)
theorem am_in7 : ∀ w ∈ wsX80, w ∈ lw_tbl := ctb_memall (by decide +kernel)
theorem am_in8 : ∀ w ∈ wsX90, w ∈ lw_tbl := ctb_memall (by decide +kernel)
theorem am_in9 : ∀ w ∈ wsX100, w ∈ lw_tbl := ctb_memall (by decide +kernel)
theorem am_in10 : ∀ w ∈ wsX110, w ∈ lw_tbl := ctb_memall (by decide +kernel)
theorem am_in11 : ∀ w ∈ wsX120, w ∈ lw_tbl := ctb_memall (by decide +kernel)
theorem am_ty_ok {ci : Nat} {C : String} {T : u_T} {N : Nat} (h : am_cl[ci]? = some (C, T, N)) : ∀ k, k < N → parseFieldDescriptor (T k).2.2.1 = some (am_ty0 ci k) := by
  match ci, h with
  | 0, h => cases h; exact tyX1_ok
  | 1, h => cases h; exact tyX2_ok
  | 2, h => cases h; exact tyX3_ok
  | 3, h => cases h; exact tyX4_ok
  | 4, h => cases h; exact tyX5_ok
  | 5, h => cases h; exact tyX6_ok
  | 6, h => cases h; exact tyX7_ok
  | 7, h => cases h; exact tyX8_ok
  | 8, h => cases h; exact tyX9_ok
  | 9, h => cases h; exact tyX10_ok
  | 10, h => cases h; exact tyX11_ok
  | 11, h => cases h; exact tyX12_ok
  | n + 12, h => simp [am_cl] at h
theorem am_nm_ok {ci : Nat} {C : String} {T : u_T} {N : Nat} (h : am_cl[ci]? = some (C, T, N)) : ∀ a, a < N → ∀ b, b < N → a ≠ b → (T a).2.1 ≠ (T b).2.1 := by
  match ci, h with
  | 0, h => cases h; exact nmX1
  | 1, h => cases h; exact nmX2
  | 2, h => cases h; exact nmX3
  | 3, h => cases h; exact nmX4
  | 4, h => cases h; exact nmX5
  | 5, h => cases h; exact nmX6
  | 6, h => cases h; exact nmX7
  | 7, h => cases h; exact nmX8
  | 8, h => cases h; exact nmX9
  | 9, h => cases h; exact nmX10
  | 10, h => cases h; exact nmX11
  | 11, h => cases h; exact nmX12
  | n + 12, h => simp [am_cl] at h
theorem am_in_ok {ci : Nat} {C : String} {T : u_T} {N : Nat} (h : am_cl[ci]? = some (C, T, N)) : ∀ w ∈ u_ws C T N, w ∈ lw_tbl := by
  match ci, h with
  | 0, h => cases h; exact am_in0
  | 1, h => cases h; exact am_in1
  | 2, h => cases h; exact am_in2
  | 3, h => cases h; exact am_in3
  | 4, h => cases h; exact am_in4
  | 5, h => cases h; exact am_in5
  | 6, h => cases h; exact am_in6
  | 7, h => cases h; exact am_in7
  | 8, h => cases h; exact am_in8
  | 9, h => cases h; exact am_in9
  | 10, h => cases h; exact am_in10
  | 11, h => cases h; exact am_in11
  | n + 12, h => simp [am_cl] at h

/-! THE ABSTRACT HEAP -/
abbrev am_C : Type := Nat × Nat × (Nat → Value)
/-- how many numbers, cells, slots; what stands at each number: kind, length, contents -/
abbrev am_H : Type := Nat × Nat × Nat × (Nat → am_C)
def am_up {α : Type} (f : Nat → α) (k : Nat) (v : α) : Nat → α := fun j => bif Nat.beq j k then v else f j
theorem am_up_s {α : Type} (f : Nat → α) (k : Nat) (v : α) : am_up f k v k = v := by simp [am_up]
theorem am_up_n {α : Type} {f : Nat → α} {k j : Nat} {v : α} (h : j ≠ k) : am_up f k v j = f j := by
  have : Nat.beq j k = false := by cases hb : Nat.beq j k with | true => exact absurd (Nat.eq_of_beq_eq_true hb) h | false => rfl
  simp [am_up, this]
def am_i (v : Value) : Int32 := match v with
  | .int x => x
  | _ => 0
def am_l (v : Value) : Int64 := match v with
  | .long x => x
  | _ => 0
def am_o (ad : Nat → Nat) (v : Value) : Option Nat := match v with
  | .ref k => some (ad k)
  | _ => none
def am_nf (ci : Nat) : Nat := match am_cl[ci]? with
  | some q => q.2.2
  | none => 0
def am_E (cy : Nat → ClassId) (ad : Nat → Nat) (c : am_C) : va_E :=
  if c.1 = 20 then .inl (cy 0, c.2.1, .inl fun j => am_i (c.2.2 j))
  else if c.1 = 21 then .inl (cy 1, c.2.1, .inr (.inl fun j => am_l (c.2.2 j)))
  else if c.1 = 22 then .inl (cy 2, c.2.1, .inl fun j => am_i (c.2.2 j))
  else if c.1 = 23 then .inl (cy 3, c.2.1, .inr (.inr (.inr (.inr fun j => am_o ad (c.2.2 j)))))
  else if c.1 = 24 then .inl (cy 4, c.2.1, .inr (.inr (.inr (.inr fun j => am_o ad (c.2.2 j)))))
  else .inr (c.1, (List.range (am_nf c.1)).map fun k => am_v ad (c.2.2 k))
def am_wl (cy : Nat → ClassId) (ad : Nat → Nat) (h : am_H) : va_W := (List.range h.1).map fun k => (ad k, am_E cy ad (h.2.2.2 k))
abbrev am_tys (cy : Nat → ClassId) : List (ClassId × FieldType) := [(cy 0, .int), (cy 1, .long), (cy 2, .boolean), (cy 3, .object "ArchiveShelf$Archive"), (cy 4, .object "ArchiveShelf$Member")]
/-- a value whose reference is a number that stands, or one of the old ones -/
def am_cv (n : Nat) (v : Value) : Prop := match v with
  | .ref k => k < n ∨ 1000000000 ≤ k
  | _ => True
def am_put (h : am_H) (o : Nat) (c : am_C) : am_H := (h.1, h.2.1, h.2.2.1, am_up h.2.2.2 o c)
def am_new (h : am_H) (sl : Nat) (c : am_C) : am_H := (h.1 + 1, h.2.1 + 1, h.2.2.1 + sl, am_up h.2.2.2 h.1 c)
theorem am_wl_at {cy : Nat → ClassId} {ad : Nat → Nat} {h : am_H} {o : Nat} (ho : o < h.1) : (am_wl cy ad h)[o]? = some (ad o, am_E cy ad (h.2.2.2 o)) := by
  simp [am_wl, ho]
theorem am_wl_set {cy : Nat → ClassId} {ad : Nat → Nat} {h : am_H} {o : Nat} (ho : o < h.1) (c : am_C) : (am_wl cy ad h).set o (ad o, am_E cy ad c) = am_wl cy ad (am_put h o c) := by
  apply List.ext_getElem?
  intro k
  rw [List.getElem?_set]
  by_cases hk : o = k
  · subst hk
    simp [am_wl, am_put, ho, am_up_s]
  · rw [if_neg hk]
    by_cases hkn : k < h.1
    · simp [am_wl, am_put, hkn, am_up_n (Ne.symm hk)]
    · simp [am_wl, am_put, hkn]
theorem am_lt {k n : Nat} (h : k < n ∨ 1000000000 ≤ k) (hn : n < 1000000000) : k ≠ n := by omega
theorem am_lt2 {k n : Nat} (h : k < n ∨ 1000000000 ≤ k) : k < n + 1 ∨ 1000000000 ≤ k := by omega
theorem am_v_ext {ad : Nat → Nat} {n q : Nat} {v : Value} (hn : n < 1000000000) (h : am_cv n v) : am_v (am_up ad n q) v = am_v ad v := by
  cases v with
  | ref k =>
    have hk : k ≠ n := am_lt h hn
    simp [am_v, am_up_n hk]
  | _ => rfl
theorem am_o_ext {ad : Nat → Nat} {n q : Nat} {v : Value} (hn : n < 1000000000) (h : am_cv n v) : am_o (am_up ad n q) v = am_o ad v := by
  cases v with
  | ref k =>
    have hk : k ≠ n := am_lt h hn
    simp [am_o, am_up_n hk]
  | _ => rfl
theorem am_E_ext {cy : Nat → ClassId} {ad : Nat → Nat} {n q : Nat} {c : am_C} (hn : n < 1000000000) (h : ∀ j, am_cv n (c.2.2 j)) : am_E cy (am_up ad n q) c = am_E cy ad c := by
  unfold am_E
  simp only [am_v_ext hn (h _), am_o_ext hn (h _)]
theorem am_wl_new {cy : Nat → ClassId} {ad : Nat → Nat} {h : am_H} {sl q : Nat} {c : am_C} (hn : h.1 < 1000000000) (hc : ∀ o, o < h.1 → ∀ j, am_cv h.1 ((h.2.2.2 o).2.2 j)) (hc' : ∀ j, am_cv h.1 (c.2.2 j)) : am_wl cy ad h ++ [(q, am_E cy ad c)] = am_wl cy (am_up ad h.1 q) (am_new h sl c) := by
  unfold am_wl am_new
  rw [List.range_succ, List.map_append]
  congr 1
  · apply List.map_congr_left
    intro k hk
    have hk : k < h.1 := List.mem_range.mp hk
    have hne : k ≠ h.1 := by omega
    simp only [am_up_n hne]
    rw [am_E_ext hn (hc k hk)]
  · simp only [List.map_cons, List.map_nil, am_up_s]
    rw [am_E_ext hn hc']
def am_cls (h : am_H) : Prop := ∀ o, o < h.1 → ∀ j, am_cv h.1 ((h.2.2.2 o).2.2 j)
theorem am_cv_mono {n : Nat} {v : Value} (h : am_cv n v) : am_cv (n + 1) v := by
  cases v with
  | ref k => exact am_lt2 h
  | _ => trivial
theorem am_cls_put {h : am_H} {o : Nat} {c : am_C} (hc : am_cls h) (h2 : ∀ j, am_cv h.1 (c.2.2 j)) : am_cls (am_put h o c) := by
  intro a ha j
  show am_cv h.1 ((am_up h.2.2.2 o c a).2.2 j)
  by_cases e : a = o
  · subst e; rw [am_up_s]; exact h2 j
  · rw [am_up_n e]; exact hc a ha j
theorem am_cls_new {h : am_H} {sl : Nat} {c : am_C} (hc : am_cls h) (h2 : ∀ j, am_cv h.1 (c.2.2 j)) : am_cls (am_new h sl c) := by
  intro a ha j
  have ha : a < h.1 + 1 := ha
  show am_cv (h.1 + 1) ((am_up h.2.2.2 h.1 c a).2.2 j)
  by_cases e : a = h.1
  · subst e; rw [am_up_s]; exact am_cv_mono (h2 j)
  · rw [am_up_n e]; exact am_cv_mono (hc a (by omega) j)
theorem am_cv_up {n i : Nat} {f : Nat → Value} {v : Value} (hf : ∀ j, am_cv n (f j)) (hv : am_cv n v) : ∀ j, am_cv n (am_up f i v j) := by
  intro j
  by_cases e : j = i
  · subst e; rw [am_up_s]; exact hv
  · rw [am_up_n e]; exact hf j
/-- what may be stored in a field -/
def am_fit (ty : FieldType) (v : Value) : Bool := match ty, v with
  | .int, .int _ => true
  | .boolean, .int x => decide (x = 0) || decide (x = 1)
  | .long, .long _ => true
  | .object _, .ref _ => true
  | .object _, .null => true
  | .array _, .ref _ => true
  | .array _, .null => true
  | _, _ => false
theorem am_fit_ok {ad : Nat → Nat} {ty : FieldType} {v : Value} (h : am_fit ty v = true) : narrow ty (am_v ad v) = am_v ad v ∧ fits ty (am_v ad v) = true := by
  unfold am_fit at h
  split at h
  · exact ⟨rfl, rfl⟩
  · rename_i x
    simp only [Bool.or_eq_true, decide_eq_true_eq] at h
    rcases h with rfl | rfl
    · exact (by decide +kernel : narrow FieldType.boolean (Value.int 0) = Value.int 0 ∧ fits FieldType.boolean (Value.int 0) = true)
    · exact (by decide +kernel : narrow FieldType.boolean (Value.int 1) = Value.int 1 ∧ fits FieldType.boolean (Value.int 1) = true)
  · exact ⟨rfl, rfl⟩
  · exact ⟨rfl, rfl⟩
  · exact ⟨rfl, rfl⟩
  · exact ⟨rfl, rfl⟩
  · exact ⟨rfl, rfl⟩
  · cases h

