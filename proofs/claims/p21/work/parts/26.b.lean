/-! THE STATE BEHIND THE CONSTRUCTORS -/
noncomputable def cst (h : am_H) : hS := (fun o j => match (h.2.2.2 o).2.2 j with | .int x => x | _ => 0, fun o j => match (h.2.2.2 o).2.2 j with | .long x => x | _ => 0, fun o j => match (h.2.2.2 o).2.2 j with | .ref x => x | _ => 0)
theorem cst_i {h : am_H} {o j : Nat} {x : Int32} (e : (h.2.2.2 o).2.2 j = .int x) : (cst h).1 o j = x := by
  show (match (h.2.2.2 o).2.2 j with | .int x => x | _ => 0) = x
  rw [e]
theorem cst_l {h : am_H} {o j : Nat} {x : Int64} (e : (h.2.2.2 o).2.2 j = .long x) : (cst h).2.1 o j = x := by
  show (match (h.2.2.2 o).2.2 j with | .long x => x | _ => 0) = x
  rw [e]
theorem cst_r {h : am_H} {o j : Nat} {x : Nat} (e : (h.2.2.2 o).2.2 j = .ref x) : (cst h).2.2 o j = x := by
  show (match (h.2.2.2 o).2.2 j with | .ref x => x | _ => 0) = x
  rw [e]
noncomputable def ck_v (o ci j : Nat) (v : Value) : Bool := match l1_ty ci j with
  | 0 => sx_isI v
  | 1 => sx_isL v
  | 2 => (match v with | .ref k => Nat.beq k (l1_rf o ci j) | _ => false)
  | _ => (match v with | .ref _ => true | _ => false)
theorem ck_v_ok {ρ : Nat → Int32} {h : am_H} {o ci j : Nat} {v : Value} (hr : sx_rel ρ v ((h.2.2.2 o).2.2 j)) (hc : ck_v o ci j v = true) : (h.2.2.2 o).2.2 j = l1_ct (cst h) o ci j := by
  unfold ck_v at hc
  unfold l1_ct
  generalize l1_ty ci j = t at hc ⊢
  match t, hc with
  | 0, hc =>
    obtain ⟨x, hx⟩ := sx_isI_ok hc hr
    show (h.2.2.2 o).2.2 j = Value.int ((cst h).1 o j)
    rw [cst_i hx, hx]
  | 1, hc =>
    obtain ⟨x, hx⟩ := sx_isL_ok hc hr
    show (h.2.2.2 o).2.2 j = Value.long ((cst h).2.1 o j)
    rw [cst_l hx, hx]
  | 2, hc =>
    show (h.2.2.2 o).2.2 j = Value.ref (l1_rf o ci j)
    cases v with
    | ref k =>
      have hk := Nat.eq_of_beq_eq_true hc
      have hr : (h.2.2.2 o).2.2 j = .ref k := hr
      rw [hr, hk]
    | _ => cases hc
  | n + 3, hc =>
    show (h.2.2.2 o).2.2 j = Value.ref ((cst h).2.2 o j)
    cases v with
    | ref k =>
      have hr : (h.2.2.2 o).2.2 j = .ref k := hr
      rw [cst_r hr, hr]
    | _ => cases hc
noncomputable def ck_o (o ci : Nat) (c : sx_C) : Bool := Nat.beq c.1 ci && Nat.beq c.2.1 (ln o) && (bif Nat.beq ci 20 then sx_allI c else (List.range (l1_wd ci o)).all (fun j => ck_v o ci j (sx_vl c j)))
noncomputable def ck_f (f : sx_H) (kf : Nat → Nat) : Bool := (List.range 220).all (fun o => bif Nat.blt (kf o) 99 then ck_o o (kf o) (sx_cl f o) else true)
theorem ck_f_ok {ρ : Nat → Int32} {f : sx_H} {h : am_H} {kf : Nat → Nat} (hf : f.1 = 220) (hr : sx_hr ρ f h) (hk : ∀ o, kf o < 99 → o < 220) (hc : ck_f f kf = true) : l1_R kf (cst h) h := by
  intro o ho
  have h1 := List.all_eq_true.mp hc o (List.mem_range.mpr (hk o ho))
  rw [show Nat.blt (kf o) 99 = true from Nat.blt_eq.mpr ho, cond_true] at h1
  obtain ⟨h1, h4⟩ := am_b2 h1
  obtain ⟨h2, h3⟩ := am_b2 h1
  have h2 := Nat.eq_of_beq_eq_true h2
  have h3 := Nat.eq_of_beq_eq_true h3
  obtain ⟨k1, k2, k3⟩ := hr.2.2.2.2 o (by rw [hf]; exact hk o ho)
  refine ⟨by rw [hr.1, hf]; exact hk o ho, k1.trans h2, k2.trans h3, fun j hj => ?_⟩
  cases hb : Nat.beq (kf o) 20 with
  | true =>
    rw [hb, cond_true] at h4
    have hb := Nat.eq_of_beq_eq_true hb
    refine ck_v_ok (k3 j) ?_
    rw [hb]
    exact (sx_allI_ok h4).2 j
  | false =>
    rw [hb, cond_false] at h4
    exact ck_v_ok (k3 j) (List.all_eq_true.mp h4 j (List.mem_range.mpr hj))
theorem fr_c : ck_f sx_fr kc = true := by decide +kernel
theorem fr_m : ck_f sx_fr km = true := by decide +kernel
section CST
variable {ρ : Nat → Int32} {h : am_H}
theorem fr_i (hr : sx_hr ρ sx_fr h) {o j : Nat} {x : Int32} (ho : o < 220) (hv : sx_vl (sx_cl sx_fr o) j = .int x) : (cst h).1 o j = x := by
  have := (hr.2.2.2.2 o ho).2.2 j
  rw [hv] at this
  exact cst_i this
theorem fr_r (hr : sx_hr ρ sx_fr h) {o j x : Nat} (ho : o < 220) (hv : sx_vl (sx_cl sx_fr o) j = .ref x) : (cst h).2.2 o j = x := by
  have := (hr.2.2.2.2 o ho).2.2 j
  rw [hv] at this
  exact cst_r this
theorem fr_row (hr : sx_hr ρ sx_fr h) {o : Nat} (ho : o < 220) (hv : sx_vl (sx_cl sx_fr o) 1 = .int 0) : row (cst h) o [] := ⟨Nat.zero_le _, fr_i hr ho hv, fun i hi => absurd hi (Nat.not_lt_zero _), fun x hx => by cases hx⟩
noncomputable def ck_s (s : Nat) : Bool := (List.range 16).all (fun i => decide (sx_vl (sx_cl sx_fr (s + 1)) i = .ref (s + 2 + 5 * i)) && decide (sx_vl (sx_cl sx_fr (s + 2 + 5 * i + 1)) 1 = .int 0) && decide (sx_vl (sx_cl sx_fr (s + 2 + 5 * i + 3)) 1 = .int 0) && decide (sx_vl (sx_cl sx_fr (s + 2 + 5 * i)) 2 = .int 0))
theorem ck_s_all : ck_s 37 = true ∧ ck_s 119 = true := by decide +kernel
theorem fr_shf (hr : sx_hr ρ sx_fr h) {s : Nat} (hs : s ≤ 119) (h1 : sx_vl (sx_cl sx_fr s) 1 = .int 0) (hc : ck_s s = true) : shf (cst h) s [] := by
  have e : ∀ i, i < 16 → (cst h).2.2 (s + 1) i = s + 2 + 5 * i ∧ mbr (cst h) (s + 2 + 5 * i) ([], [], false) := fun i hi => by
    have q := List.all_eq_true.mp hc i (List.mem_range.mpr hi)
    obtain ⟨q, q4⟩ := am_b2 q
    obtain ⟨q, q3⟩ := am_b2 q
    obtain ⟨q1, q2⟩ := am_b2 q
    exact ⟨fr_r hr (by omega) (of_decide_eq_true q1), fr_row hr (by omega) (of_decide_eq_true q2), fr_row hr (by omega) (of_decide_eq_true q3), fr_i hr (by omega) (of_decide_eq_true q4)⟩
  refine ⟨Nat.zero_le _, fr_i hr (by omega) h1, fun i hi => ⟨i, hi, (e i hi).1⟩, fun i j hi hj q => ?_, fun i hi => ⟨([], [], false), by rw [(e i hi).1]; exact (e i hi).2, fun q => absurd q (Nat.not_lt_zero _)⟩⟩
  rw [(e i hi).1, (e j hj).1] at q
  omega
noncomputable def ck_l (c : sx_C) : List Nat → Nat → Bool
  | [], _ => true
  | x :: r, k => decide (sx_vl c k = .int (nI x)) && ck_l c r (k + 1)
theorem ck_l_ok {c : sx_C} : ∀ {l : List Nat} {k i : Nat}, ck_l c l k = true → i < l.length → sx_vl c (k + i) = .int (nI (gt l i))
  | [], _, _, _, hi => absurd hi (Nat.not_lt_zero _)
  | x :: r, k, 0, hc, _ => of_decide_eq_true (am_b2 hc).1
  | x :: r, k, i + 1, hc, hi => by
    have := ck_l_ok (i := i) (am_b2 hc).2 (Nat.lt_of_succ_lt_succ hi)
    rw [show k + (i + 1) = k + 1 + i by omega]
    exact this
noncomputable def ck_c (d : Nat) (lens : List Nat) : Bool := (List.range 16).all (fun l => decide (l = 0) || (decide (sx_vl (sx_cl sx_fr (d + 1)) l = .int (nI (cnt lens l))) && ck_l (sx_cl sx_fr (d + 3)) (idxN lens l lens.length) (off lens l)))
theorem fr_cd (hr : sx_hr ρ sx_fr h) {d : Nat} {lens : List Nat} (hd : d ≤ 16) (h0 : lens.length ≤ ln (d + 3)) (hc : ck_c d lens = true) (h3 : sx_vl (sx_cl sx_fr d) 3 = .int (nI (off lens 16))) (h4 : sx_vl (sx_cl sx_fr d) 4 = .int (nI (mxN lens 15))) : cdC (cst h) d lens := by
  have e : ∀ l, 1 ≤ l → l < 16 → sx_vl (sx_cl sx_fr (d + 1)) l = .int (nI (cnt lens l)) ∧ ck_l (sx_cl sx_fr (d + 3)) (idxN lens l lens.length) (off lens l) = true := fun l a b => by
    have q := List.all_eq_true.mp hc l (List.mem_range.mpr b)
    rw [show decide (l = 0) = false from decide_eq_false (by omega), Bool.false_or] at q
    obtain ⟨q1, q2⟩ := am_b2 q
    exact ⟨of_decide_eq_true q1, q2⟩
  exact ⟨h0, fun l a b => fr_i hr (by omega) (e l a b).1, fr_i hr (by omega) h3, fr_i hr (by omega) h4, fun l k a b hk => fr_i hr (by omega) (ck_l_ok (e l a b).2 hk)⟩
theorem ck_c16 : ck_c 16 fxD = true := by decide +kernel
theorem ck_c12 : ck_c 12 fxS = true := by decide +kernel
theorem fx_n : sx_vl (sx_cl sx_fr 12) 3 = .int (nI (off fxS 16)) ∧ sx_vl (sx_cl sx_fr 12) 4 = .int (nI (mxN fxS 15)) ∧ sx_vl (sx_cl sx_fr 16) 3 = .int (nI (off fxD 16)) ∧ sx_vl (sx_cl sx_fr 16) 4 = .int (nI (mxN fxD 15)) := by decide +kernel
theorem JP0 (hr : sx_hr ρ sx_fr h) : JP (cst h) h [] [] [] := by
  obtain ⟨n1, n2, n3, n4⟩ := fx_n
  refine ⟨⟨⟨hr.1, hr.2.1, hr.2.2.1⟩, ck_f_ok rfl hr (fun o ho => Nat.lt_trans (kc_lt ho) (by decide)) fr_c, ck_f_ok rfl hr (fun o ho => (km_ge ho).2) fr_m⟩, ?_, ?_⟩
  · refine ⟨fr_row hr (by decide) (by decide +kernel), fr_row hr (by decide) (by decide +kernel), ?_, ?_, ⟨fr_cd hr (by decide) (by decide +kernel) ck_c12 n1 n2, fr_cd hr (by decide) (by decide +kernel) ck_c16 n3 n4⟩, ⟨⟨Nat.zero_le _, fun x hx => by cases hx⟩, xt.rf⟩, 37, 119, [], fr_r hr (by decide) (by decide +kernel), fr_r hr (by decide) (by decide +kernel), Or.inl ⟨rfl, rfl⟩, fr_shf hr (by decide) (by decide +kernel) ck_s_all.1, fr_shf hr (by decide) (by decide +kernel) ck_s_all.2⟩
    · rw [fr_i (x := 0) hr (by decide) (by decide +kernel)]; decide
    · rw [fr_i (x := 0) hr (by decide) (by decide +kernel)]; decide
  · have z : ∀ j, sx_vl (sx_cl sx_fr 201) j = .int 0 → (cst h).1 201 j = 0 := fun j hj => fr_i hr (by decide) hj
    refine ⟨⟨Nat.zero_le _, z 2 (by decide +kernel), fun i hi => absurd hi (Nat.not_lt_zero _), fun x hx => by cases hx⟩, ⟨Nat.zero_le _, z 4 (by decide +kernel), fun i hi => absurd hi (Nat.not_lt_zero _), fun x hx => by cases hx⟩, z 7 (by decide +kernel), Nat.zero_le _, fun i hi => absurd hi (Nat.not_lt_zero _), fun x hx => by cases hx⟩
end CST
