/-! THE HEAP AS DATA: a tree of cells; a cell: kind, length, what stands where nothing is said, what is said -/
noncomputable abbrev sx_C : Type := Nat × Nat × Option Value × List (Nat × Value)
noncomputable def sx_T : Nat → Type
  | 0 => sx_C
  | k + 1 => sx_T k × sx_T k
noncomputable def sx_tg : (k : Nat) → sx_T k → Nat → sx_C
  | 0, t, _ => t
  | k + 1, t, o => bif Nat.beq (o % 2) 0 then sx_tg k (Prod.fst (α := sx_T k) (β := sx_T k) t) (o / 2) else sx_tg k (Prod.snd (α := sx_T k) (β := sx_T k) t) (o / 2)
noncomputable def sx_ts : (k : Nat) → sx_T k → Nat → sx_C → sx_T k
  | 0, _, _, c => c
  | k + 1, t, o, c => bif Nat.beq (o % 2) 0 then Prod.mk (α := sx_T k) (β := sx_T k) (sx_ts k (Prod.fst (α := sx_T k) (β := sx_T k) t) (o / 2) c) (Prod.snd (α := sx_T k) (β := sx_T k) t) else Prod.mk (α := sx_T k) (β := sx_T k) (Prod.fst (α := sx_T k) (β := sx_T k) t) (sx_ts k (Prod.snd (α := sx_T k) (β := sx_T k) t) (o / 2) c)
noncomputable def sx_t0 : (k : Nat) → sx_T k
  | 0 => ((0, 0, none, []) : sx_C)
  | k + 1 => Prod.mk (α := sx_T k) (β := sx_T k) (sx_t0 k) (sx_t0 k)
theorem sx_ts_s : ∀ (k : Nat) (t : sx_T k) (o : Nat) (c : sx_C), sx_tg k (sx_ts k t o c) o = c
  | 0, t, o, c => rfl
  | k + 1, t, o, c => by
    unfold sx_tg sx_ts
    cases hb : Nat.beq (o % 2) 0 with
    | true => exact sx_ts_s k _ _ _
    | false => exact sx_ts_s k _ _ _
theorem sx_ts_n : ∀ (k : Nat) (t : sx_T k) (o q : Nat) (c : sx_C), q ≠ o → q < 2 ^ k → o < 2 ^ k → sx_tg k (sx_ts k t o c) q = sx_tg k t q
  | 0, t, o, q, c, h, h1, h2 => by
    rw [Nat.pow_zero] at h1 h2
    omega
  | k + 1, t, o, q, c, h, h1, h2 => by
    rw [Nat.pow_succ] at h1 h2
    unfold sx_tg sx_ts
    cases hb : Nat.beq (o % 2) 0 with
    | true =>
      have hb := Nat.eq_of_beq_eq_true hb
      cases hc : Nat.beq (q % 2) 0 with
      | true =>
        have hc := Nat.eq_of_beq_eq_true hc
        exact sx_ts_n k _ _ _ _ (by omega) (by omega) (by omega)
      | false => rfl
    | false =>
      have hb : o % 2 ≠ 0 := fun q => by rw [q] at hb; cases hb
      cases hc : Nat.beq (q % 2) 0 with
      | true => rfl
      | false =>
        have hc : q % 2 ≠ 0 := fun q => by rw [q] at hc; cases hc
        exact sx_ts_n k _ _ _ _ (by omega) (by omega) (by omega)
noncomputable abbrev sx_H : Type := Nat × Nat × Nat × sx_T 9
noncomputable def sx_cl (f : sx_H) (o : Nat) : sx_C := sx_tg 9 f.2.2.2 o
noncomputable def sx_put (f : sx_H) (o : Nat) (c : sx_C) : sx_H := (f.1, f.2.1, f.2.2.1, sx_ts 9 f.2.2.2 o c)
noncomputable def sx_new (f : sx_H) (sl : Nat) (c : sx_C) : sx_H := (f.1 + 1, f.2.1 + 1, f.2.2.1 + sl, sx_ts 9 f.2.2.2 f.1 c)
/-- what a new cell holds -/
noncomputable def sx_df (kd j : Nat) : Value := bif Nat.blt kd 12 then defaultValue (am_ty0 kd j) else bif Nat.beq kd 21 then .long 0 else bif Nat.blt kd 23 then .int 0 else .null
noncomputable def sx_vl (c : sx_C) (j : Nat) : Value := match am_fnd c.2.2.2 j with
  | some v => v
  | none => match c.2.2.1 with
    | some v => v
    | none => sx_df c.1 j
noncomputable def sx_up (c : sx_C) (j : Nat) (v : Value) : sx_C := (c.1, c.2.1, c.2.2.1, (j, v) :: c.2.2.2)
theorem sx_up_at (c : sx_C) (j k : Nat) (v : Value) : sx_vl (sx_up c j v) k = bif Nat.beq k j then v else sx_vl c k := by
  unfold sx_vl sx_up
  show (match (bif Nat.beq j k then some v else am_fnd c.2.2.2 k) with | some v => v | none => _) = _
  by_cases h : k = j
  · subst h
    rw [Nat.beq_refl]
    rfl
  · have h1 : Nat.beq k j = false := by
      cases hb : Nat.beq k j with
      | true => exact absurd (Nat.eq_of_beq_eq_true hb) h
      | false => rfl
    have h2 : Nat.beq j k = false := by
      cases hb : Nat.beq j k with
      | true => exact absurd (Nat.eq_of_beq_eq_true hb).symm h
      | false => rfl
    rw [h1, h2]
    rfl
noncomputable def sx_hr (ρ : Nat → Int32) (f : sx_H) (h : am_H) : Prop := h.1 = f.1 ∧ h.2.1 = f.2.1 ∧ h.2.2.1 = f.2.2.1 ∧ f.1 ≤ 512 ∧ ∀ o, o < f.1 → (h.2.2.2 o).1 = (sx_cl f o).1 ∧ (h.2.2.2 o).2.1 = (sx_cl f o).2.1 ∧ ∀ j, sx_rel ρ (sx_vl (sx_cl f o) j) ((h.2.2.2 o).2.2 j)
section SXH
variable {ρ : Nat → Int32} {f : sx_H} {h : am_H}
theorem sx_hr_up {o j : Nat} {v w : Value} {kd len : Nat} (hr : sx_hr ρ f h) (ho : o < f.1) (hk : kd = (h.2.2.2 o).1) (hl : len = (h.2.2.2 o).2.1) (hv : sx_rel ρ v w) : sx_hr ρ (sx_put f o (sx_up (sx_cl f o) j v)) (am_put h o (kd, len, am_up (h.2.2.2 o).2.2 j w)) := by
  obtain ⟨h1, h2, h3, h4, h5⟩ := hr
  refine ⟨h1, h2, h3, h4, fun q hq => ?_⟩
  have hq : q < f.1 := hq
  by_cases e : q = o
  · subst e
    rw [am_put_s]
    have e1 : sx_cl (sx_put f q (sx_up (sx_cl f q) j v)) q = sx_up (sx_cl f q) j v := sx_ts_s 9 _ _ _
    rw [e1]
    obtain ⟨k1, k2, k3⟩ := h5 q hq
    refine ⟨by rw [hk]; exact k1, by rw [hl]; exact k2, fun i => ?_⟩
    rw [sx_up_at]
    show sx_rel ρ _ (bif Nat.beq i j then w else (h.2.2.2 q).2.2 i)
    cases Nat.beq i j with
    | true => exact hv
    | false => exact k3 i
  · rw [am_put_n h e]
    have e1 : sx_cl (sx_put f o (sx_up (sx_cl f o) j v)) q = sx_cl f q := sx_ts_n 9 _ _ _ _ e (by omega) (by omega)
    rw [e1]
    exact h5 q hq
theorem sx_hr_new {sl kd len : Nat} {g : Nat → Value} (hr : sx_hr ρ f h) (hn : Nat.blt f.1 512 = true) (hg : ∀ j, sx_rel ρ (sx_df kd j) (g j)) : sx_hr ρ (sx_new f sl (kd, len, none, [])) (am_new h sl (kd, len, g)) := by
  obtain ⟨h1, h2, h3, h4, h5⟩ := hr
  have hn := Nat.blt_eq.mp hn
  refine ⟨congrArg (· + 1) h1, congrArg (· + 1) h2, congrArg (· + sl) h3, hn, fun q hq => ?_⟩
  have hq : q < f.1 + 1 := hq
  show ((am_up h.2.2.2 h.1 (kd, len, g)) q).1 = _ ∧ ((am_up h.2.2.2 h.1 (kd, len, g)) q).2.1 = _ ∧ ∀ j, sx_rel ρ _ (((am_up h.2.2.2 h.1 (kd, len, g)) q).2.2 j)
  by_cases e : q = f.1
  · subst e
    have e1 : sx_cl (sx_new f sl (kd, len, none, [])) f.1 = (kd, len, none, []) := sx_ts_s 9 _ _ _
    rw [e1, ← h1, am_up_s]
    exact ⟨rfl, rfl, hg⟩
  · have e1 : sx_cl (sx_new f sl (kd, len, none, [])) q = sx_cl f q := sx_ts_n 9 _ _ _ _ e (by omega) (by omega)
    rw [e1, am_up_n (by rw [h1]; exact e)]
    exact h5 q (by omega)
end SXH
/-- no field is a float or a double -/
noncomputable def sx_nf (v : Value) : Bool := match v with
  | .float _ => false
  | .double _ => false
  | .retAddr _ => false
  | _ => true
theorem sx_nf_ok {ρ : Nat → Int32} {v : Value} (h : sx_nf v = true) : sx_rel ρ v v := by
  cases v <;> first | rfl | cases h
