/-! THE CONSTRUCTORS' RUN -/
noncomputable def sx_allI (c : sx_C) : Bool := Nat.beq c.1 20 && (match c.2.2.1 with | some v => sx_isI v | none => true) && c.2.2.2.all (fun e => sx_isI e.2)
theorem sx_allI_ok {c : sx_C} (hc : sx_allI c = true) : c.1 = 20 ∧ ∀ i, sx_isI (sx_vl c i) = true := by
  obtain ⟨hc, h3⟩ := am_b2 hc
  obtain ⟨h1, h2⟩ := am_b2 hc
  have h1 := Nat.eq_of_beq_eq_true h1
  refine ⟨h1, fun i => ?_⟩
  unfold sx_vl
  split
  · rename_i v hv
    exact List.all_eq_true.mp h3 _ (am_fnd_mem hv)
  · split
    · rename_i v hv
      rw [hv] at h2
      exact h2
    · rw [h1]
      rfl
noncomputable def sx_h0 : sx_H := (0, 0, 0, sx_t0 9)
/-- the second one says no more than the first -/
noncomputable def sx_capp (c d : sx_C) : Bool := Nat.beq c.1 d.1 && Nat.beq c.2.1 d.2.1 && (match d.2.2.1 with
  | some v => decide (v = .retAddr 100) && d.2.2.2.isEmpty && sx_allI c
  | none => c.2.2.1.isNone && c.2.2.2.all (fun e => decide (sx_vl d e.1 = sx_vl c e.1)) && d.2.2.2.all (fun e => decide (sx_vl d e.1 = sx_vl c e.1)))
noncomputable def sx_app (f g : sx_H) : Bool := Nat.beq f.1 g.1 && Nat.beq f.2.1 g.2.1 && Nat.beq f.2.2.1 g.2.2.1 && (List.range f.1).all (fun o => sx_capp (sx_cl f o) (sx_cl g o))
theorem am_fnd_none {α : Type} {t : List (Nat × α)} {j : Nat} (h : ∀ e ∈ t, e.1 ≠ j) : am_fnd t j = none := by
  induction t with
  | nil => rfl
  | cons e r ih =>
    unfold am_fnd
    have hb : Nat.beq e.1 j = false := by
      cases hb : Nat.beq e.1 j with
      | true => exact absurd (Nat.eq_of_beq_eq_true hb) (h e List.mem_cons_self)
      | false => rfl
    rw [hb]
    exact ih (fun x hx => h x (List.mem_cons_of_mem _ hx))
theorem sx_capp_ok {ρ : Nat → Int32} {c d : sx_C} (h : sx_capp c d = true) : c.1 = d.1 ∧ c.2.1 = d.2.1 ∧ ∀ j w, sx_rel ρ (sx_vl c j) w → sx_rel ρ (sx_vl d j) w := by
  obtain ⟨h, h3⟩ := am_b2 h
  obtain ⟨h1, h2⟩ := am_b2 h
  have h1 := Nat.eq_of_beq_eq_true h1
  have h2 := Nat.eq_of_beq_eq_true h2
  refine ⟨h1, h2, fun j w hw => ?_⟩
  split at h3
  · rename_i v hv
    obtain ⟨h3, h5⟩ := am_b2 h3
    obtain ⟨h3, h4⟩ := am_b2 h3
    have h3 := of_decide_eq_true h3
    subst h3
    have e : sx_vl d j = .retAddr 100 := by
      unfold sx_vl
      rw [List.isEmpty_iff.mp h4, hv]
      rfl
    rw [e]
    obtain ⟨x, rfl⟩ := sx_isI_ok ((sx_allI_ok h5).2 j) hw
    exact sx_top
  · rename_i hd
    obtain ⟨h3, h5⟩ := am_b2 h3
    obtain ⟨h3, h4⟩ := am_b2 h3
    have e : sx_vl d j = sx_vl c j := by
      by_cases z : ∃ x ∈ c.2.2.2, x.1 = j
      · obtain ⟨x, hx, rfl⟩ := z
        exact of_decide_eq_true (List.all_eq_true.mp h4 x hx)
      · by_cases y : ∃ x ∈ d.2.2.2, x.1 = j
        · obtain ⟨x, hx, rfl⟩ := y
          exact of_decide_eq_true (List.all_eq_true.mp h5 x hx)
        · unfold sx_vl
          rw [am_fnd_none (fun x hx q => z ⟨x, hx, q⟩), am_fnd_none (fun x hx q => y ⟨x, hx, q⟩), hd, Option.isNone_iff_eq_none.mp h3, h1]
    rw [e]
    exact hw
theorem sx_app_ok {ρ : Nat → Int32} {f g : sx_H} {h : am_H} (ha : sx_app f g = true) (hr : sx_hr ρ f h) : sx_hr ρ g h := by
  obtain ⟨ha, a4⟩ := am_b2 ha
  obtain ⟨ha, a3⟩ := am_b2 ha
  obtain ⟨a1, a2⟩ := am_b2 ha
  have a1 := Nat.eq_of_beq_eq_true a1
  have a2 := Nat.eq_of_beq_eq_true a2
  have a3 := Nat.eq_of_beq_eq_true a3
  obtain ⟨h1, h2, h3, h4, h5⟩ := hr
  refine ⟨h1.trans a1, h2.trans a2, h3.trans a3, by rw [← a1]; exact h4, fun o ho => ?_⟩
  have ho : o < f.1 := by rw [a1]; exact ho
  obtain ⟨k1, k2, k3⟩ := h5 o ho
  obtain ⟨c1, c2, c3⟩ := sx_capp_ok (ρ := ρ) (List.all_eq_true.mp a4 o (List.mem_range.mpr ho))
  exact ⟨k1.trans c1, k2.trans c2, fun j => c3 j _ (k3 j)⟩
noncomputable def sx_lapp (L K : List Value) : Bool := decide (L = K)
noncomputable def sx_ck (r : Option (Nat × List Value × List Value × sx_H)) : Bool := match r with
  | some u => Nat.beq u.1 26 && sx_lapp u.2.1 sx_fL && sx_lapp u.2.2.1 [.ref 1000000300, .int 0] && sx_app u.2.2.2 sx_fr
  | none => false
noncomputable def sx_ct : Bool := sx_ck (sx_to sx_mt (sx_tb []) am_i_L_law 100000 0 (sx_al 8 [.ref 1000000300]) [] sx_h0)
theorem sx_ct_ok : sx_ct = true := by decide +kernel
