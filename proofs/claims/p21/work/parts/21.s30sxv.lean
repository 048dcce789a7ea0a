/-! RUNS WITH VALUES LEFT OPEN: '.retAddr k' stands for an int that is not said (k < 100: the script's int number k), '.double b' for a long; '.float' for a local that isn't set -/
noncomputable def sx_rel (ρ : Nat → Int32) (v w : Value) : Prop := match v with
  | .retAddr k => ∃ x : Int32, w = .int x ∧ (k < 100 → x = ρ k)
  | .double b => ∃ x : Int64, w = .long x ∧ (b.toNat < 100 → x = (ρ b.toNat).toInt64)
  | .float _ => False
  | v => w = v
theorem sx_cat {ρ : Nat → Int32} {v w : Value} (h : sx_rel ρ v w) : w.category = v.category := by
  cases v with
  | retAddr k => obtain ⟨x, rfl, -⟩ := h; rfl
  | double b => obtain ⟨x, rfl, -⟩ := h; rfl
  | float b => exact h.elim
  | int x => rw [show w = .int x from h]
  | long x => rw [show w = .long x from h]
  | ref x => rw [show w = .ref x from h]
  | null => rw [show w = .null from h]
noncomputable def sx_rs (ρ : Nat → Int32) : List Value → List Value → Prop
  | [], [] => True
  | v :: r, w :: t => sx_rel ρ v w ∧ sx_rs ρ r t
  | _, _ => False
section SXV
variable {ρ : Nat → Int32}
theorem sx_mk {v w : Value} {r t : List Value} (h1 : sx_rel ρ v w) (h2 : sx_rs ρ r t) : sx_rs ρ (v :: r) (w :: t) := ⟨h1, h2⟩
theorem sx_cV {v : Value} {r st : List Value} (h : sx_rs ρ (v :: r) st) : ∃ w t, st = w :: t ∧ sx_rel ρ v w ∧ sx_rs ρ r t := by
  cases st with
  | nil => exact h.elim
  | cons w t => exact ⟨w, t, rfl, h.1, h.2⟩
theorem sx_c0 {st : List Value} (h : sx_rs ρ [] st) : st = [] := by
  cases st with
  | nil => rfl
  | cons w t => exact h.elim
theorem sx_cI {y : Int32} {r st : List Value} (h : sx_rs ρ (.int y :: r) st) : ∃ t, st = .int y :: t ∧ sx_rs ρ r t := by
  obtain ⟨w, t, rfl, h1, h2⟩ := sx_cV h
  have h1 : w = .int y := h1
  subst h1
  exact ⟨t, rfl, h2⟩
theorem sx_cL {y : Int64} {r st : List Value} (h : sx_rs ρ (.long y :: r) st) : ∃ t, st = .long y :: t ∧ sx_rs ρ r t := by
  obtain ⟨w, t, rfl, h1, h2⟩ := sx_cV h
  have h1 : w = .long y := h1
  subst h1
  exact ⟨t, rfl, h2⟩
theorem sx_cR {y : Nat} {r st : List Value} (h : sx_rs ρ (.ref y :: r) st) : ∃ t, st = .ref y :: t ∧ sx_rs ρ r t := by
  obtain ⟨w, t, rfl, h1, h2⟩ := sx_cV h
  have h1 : w = .ref y := h1
  subst h1
  exact ⟨t, rfl, h2⟩
theorem sx_cN {r st : List Value} (h : sx_rs ρ (.null :: r) st) : ∃ t, st = .null :: t ∧ sx_rs ρ r t := by
  obtain ⟨w, t, rfl, h1, h2⟩ := sx_cV h
  have h1 : w = .null := h1
  subst h1
  exact ⟨t, rfl, h2⟩
/-- an int, said or not -/
noncomputable def sx_isI (v : Value) : Bool := match v with
  | .int _ => true
  | .retAddr _ => true
  | _ => false
noncomputable def sx_isL (v : Value) : Bool := match v with
  | .long _ => true
  | .double _ => true
  | _ => false
noncomputable def sx_isA (v : Value) : Bool := match v with
  | .ref _ => true
  | .null => true
  | _ => false
noncomputable def sx_isF (v : Value) : Bool := match v with
  | .float _ => true
  | _ => false
theorem sx_isI_ok {v w : Value} (h : sx_isI v = true) (hr : sx_rel ρ v w) : ∃ x, w = .int x := by
  cases v with
  | int x => exact ⟨x, hr⟩
  | retAddr k => obtain ⟨x, rfl, -⟩ := hr; exact ⟨x, rfl⟩
  | _ => cases h
theorem sx_isL_ok {v w : Value} (h : sx_isL v = true) (hr : sx_rel ρ v w) : ∃ x, w = .long x := by
  cases v with
  | long x => exact ⟨x, hr⟩
  | double k => obtain ⟨x, rfl, -⟩ := hr; exact ⟨x, rfl⟩
  | _ => cases h
theorem sx_isA_ok {v w : Value} (h : sx_isA v = true) (hr : sx_rel ρ v w) : w = v := by
  cases v with
  | ref x => exact hr
  | null => exact hr
  | _ => cases h
/-- some int, some long -/
theorem sx_top {x : Int32} : sx_rel ρ (.retAddr 100) (.int x) := ⟨x, rfl, fun h => absurd h (by decide)⟩
theorem sx_topL {x : Int64} : sx_rel ρ (.double 100) (.long x) := ⟨x, rfl, fun h => absurd h (by decide)⟩
theorem sx_rs_len : ∀ {st st' : List Value}, sx_rs ρ st st' → st'.length = st.length
  | [], st', h => by rw [sx_c0 h]
  | v :: r, st', h => by
    obtain ⟨w, t, rfl, -, h2⟩ := sx_cV h
    exact congrArg Nat.succ (sx_rs_len h2)
theorem sx_rs_app : ∀ {a a' b b' : List Value}, sx_rs ρ a a' → sx_rs ρ b b' → sx_rs ρ (a ++ b) (a' ++ b')
  | [], a', b, b', h, h2 => by rw [sx_c0 h]; exact h2
  | v :: r, a', b, b', h, h2 => by
    obtain ⟨w, t, rfl, h1, h3⟩ := sx_cV h
    exact sx_mk h1 (sx_rs_app h3 h2)
theorem sx_rs_rev : ∀ {a a' : List Value}, sx_rs ρ a a' → sx_rs ρ a.reverse a'.reverse
  | [], a', h => by rw [sx_c0 h]; trivial
  | v :: r, a', h => by
    obtain ⟨w, t, rfl, h1, h3⟩ := sx_cV h
    rw [List.reverse_cons, List.reverse_cons]
    exact sx_rs_app (sx_rs_rev h3) (sx_mk h1 trivial)
theorem sx_rs_take : ∀ {n : Nat} {a a' : List Value}, sx_rs ρ a a' → sx_rs ρ (a.take n) (a'.take n)
  | 0, a, a', h => by simp; trivial
  | n + 1, [], a', h => by rw [sx_c0 h]; trivial
  | n + 1, v :: r, a', h => by
    obtain ⟨w, t, rfl, h1, h3⟩ := sx_cV h
    exact sx_mk h1 (sx_rs_take h3)
theorem sx_rs_drop : ∀ {n : Nat} {a a' : List Value}, sx_rs ρ a a' → sx_rs ρ (a.drop n) (a'.drop n)
  | 0, a, a', h => by simpa using h
  | n + 1, [], a', h => by rw [sx_c0 h]; trivial
  | n + 1, v :: r, a', h => by
    obtain ⟨w, t, rfl, h1, h3⟩ := sx_cV h
    exact (sx_rs_drop (n := n) h3 : sx_rs ρ (r.drop n) (t.drop n))
theorem sx_rs_cats : ∀ {a a' : List Value}, sx_rs ρ a a' → a'.map (fun v => v.category) = a.map fun v => v.category
  | [], a', h => by rw [sx_c0 h]
  | v :: r, a', h => by
    obtain ⟨w, t, rfl, h1, h3⟩ := sx_cV h
    rw [List.map_cons, List.map_cons, sx_cat h1, sx_rs_cats h3]
theorem sx_rs_sl : ∀ {a a' : List Value}, sx_rs ρ a a' → (lg_sl a').length = (lg_sl a).length
  | [], a', h => by rw [sx_c0 h]
  | v :: r, a', h => by
    obtain ⟨w, t, rfl, h1, h3⟩ := sx_cV h
    have h4 := sx_rs_sl h3
    unfold lg_sl at h4 ⊢
    rw [List.flatMap_cons, List.flatMap_cons, List.length_append, List.length_append, h4, sx_cat h1]
    split <;> rfl
/-! locals -/
noncomputable def sx_g : List Value → Nat → Option Value
  | [], _ => none
  | a :: _, 0 => some a
  | _ :: r, k + 1 => sx_g r k
noncomputable def sx_rL (ρ : Nat → Int32) (L : List Value) (lo : List (Nat × Value)) : Prop := ∀ k v, sx_g L k = some v → sx_isF v = true ∨ ∃ w, am_get lo k = some w ∧ sx_rel ρ v w
noncomputable def sx_clr (v : Value) : Value := bif Nat.beq v.category 2 then .float 0 else v
noncomputable def sx_st : List Value → Nat → Value → List Value
  | [], _, _ => []
  | _ :: r, 0, v => v :: r
  | a :: r, 1, v => sx_clr a :: sx_st r 0 v
  | a :: r, i + 2, v => a :: sx_st r (i + 1) v
noncomputable def sx_un : List Value → List Value
  | [] => []
  | _ :: r => .float 0 :: r
noncomputable def sx_stL : List Value → Nat → Value → List Value
  | [], _, _ => []
  | _ :: r, 0, v => v :: sx_un r
  | a :: r, 1, v => sx_clr a :: sx_stL r 0 v
  | a :: r, i + 2, v => a :: sx_stL r (i + 1) v
theorem sx_clr_ok {a x : Value} (h : sx_clr a = x) : sx_isF x = true ∨ (a = x ∧ x.category ≠ 2) := by
  unfold sx_clr at h
  cases hb : Nat.beq a.category 2 with
  | true => rw [hb] at h; subst h; exact Or.inl rfl
  | false =>
    rw [hb] at h
    have h : a = x := h
    subst h
    refine Or.inr ⟨rfl, fun h2 => ?_⟩
    rw [h2] at hb
    cases hb
theorem sx_st_at : ∀ {L : List Value} {i k : Nat} {v x : Value}, sx_g (sx_st L i v) k = some x → (k = i ∧ x = v) ∨ (k ≠ i ∧ sx_g L k = some x ∧ ¬ (k + 1 = i ∧ x.category = 2)) ∨ sx_isF x = true
  | [], i, k, v, x, h => by cases h
  | a :: r, 0, k, v, x, h => by
    cases k with
    | zero => exact Or.inl ⟨rfl, (Option.some.inj h).symm⟩
    | succ k => exact Or.inr (Or.inl ⟨by omega, h, fun q => by omega⟩)
  | a :: r, 1, k, v, x, h => by
    cases k with
    | zero =>
      rcases sx_clr_ok (Option.some.inj h) with hf | ⟨hf, h2⟩
      · exact Or.inr (Or.inr hf)
      · exact Or.inr (Or.inl ⟨by omega, congrArg some hf, fun q => h2 q.2⟩)
    | succ k =>
      rcases sx_st_at (L := r) (i := 0) h with ⟨h1, h2⟩ | ⟨h1, h2, h3⟩ | h1
      · exact Or.inl ⟨by omega, h2⟩
      · exact Or.inr (Or.inl ⟨by omega, h2, fun q => h3 ⟨by omega, q.2⟩⟩)
      · exact Or.inr (Or.inr h1)
  | a :: r, i + 2, k, v, x, h => by
    cases k with
    | zero => exact Or.inr (Or.inl ⟨by omega, h, fun q => by omega⟩)
    | succ k =>
      rcases sx_st_at (L := r) (i := i + 1) h with ⟨h1, h2⟩ | ⟨h1, h2, h3⟩ | h1
      · exact Or.inl ⟨by omega, h2⟩
      · exact Or.inr (Or.inl ⟨by omega, h2, fun q => h3 ⟨by omega, q.2⟩⟩)
      · exact Or.inr (Or.inr h1)
theorem sx_un_at {r : List Value} {k : Nat} {x : Value} (h : sx_g (sx_un r) k = some x) : (k ≠ 0 ∧ sx_g r k = some x) ∨ sx_isF x = true := by
  cases r with
  | nil => cases h
  | cons a r =>
    cases k with
    | zero => cases h; exact Or.inr rfl
    | succ k => exact Or.inl ⟨by omega, h⟩
theorem sx_stL_at : ∀ {L : List Value} {i k : Nat} {v x : Value}, sx_g (sx_stL L i v) k = some x → (k = i ∧ x = v) ∨ (k ≠ i ∧ k ≠ i + 1 ∧ sx_g L k = some x ∧ ¬ (k + 1 = i ∧ x.category = 2)) ∨ sx_isF x = true
  | [], i, k, v, x, h => by cases h
  | a :: r, 0, k, v, x, h => by
    cases k with
    | zero => exact Or.inl ⟨rfl, (Option.some.inj h).symm⟩
    | succ k =>
      rcases sx_un_at (r := r) h with ⟨h1, h2⟩ | h1
      · exact Or.inr (Or.inl ⟨by omega, by omega, h2, fun q => by omega⟩)
      · exact Or.inr (Or.inr h1)
  | a :: r, 1, k, v, x, h => by
    cases k with
    | zero =>
      rcases sx_clr_ok (Option.some.inj h) with hf | ⟨hf, h2⟩
      · exact Or.inr (Or.inr hf)
      · exact Or.inr (Or.inl ⟨by omega, by omega, congrArg some hf, fun q => h2 q.2⟩)
    | succ k =>
      rcases sx_stL_at (L := r) (i := 0) h with ⟨h1, h2⟩ | ⟨h1, h4, h2, h3⟩ | h1
      · exact Or.inl ⟨by omega, h2⟩
      · exact Or.inr (Or.inl ⟨by omega, by omega, h2, fun q => h3 ⟨by omega, q.2⟩⟩)
      · exact Or.inr (Or.inr h1)
  | a :: r, i + 2, k, v, x, h => by
    cases k with
    | zero => exact Or.inr (Or.inl ⟨by omega, by omega, h, fun q => by omega⟩)
    | succ k =>
      rcases sx_stL_at (L := r) (i := i + 1) h with ⟨h1, h2⟩ | ⟨h1, h4, h2, h3⟩ | h1
      · exact Or.inl ⟨by omega, h2⟩
      · exact Or.inr (Or.inl ⟨by omega, by omega, h2, fun q => h3 ⟨by omega, q.2⟩⟩)
      · exact Or.inr (Or.inr h1)
theorem sx_get_fil {P : Nat × Value → Bool} : ∀ {lo : List (Nat × Value)} {k : Nat} {w : Value}, am_get lo k = some w → P (k, w) = true → am_get (lo.filter P) k = some w
  | [], k, w, h, _ => by cases h
  | (j, u) :: r, k, w, h, hp => by
    unfold am_get at h
    cases hb : Nat.beq j k with
    | true =>
      rw [hb] at h
      have h : u = w := Option.some.inj h
      have hj : j = k := Nat.eq_of_beq_eq_true hb
      subst h; subst hj
      rw [List.filter_cons, if_pos hp]
      simp [am_get]
    | false =>
      rw [hb] at h
      have h : am_get r k = some w := h
      have ih := sx_get_fil h hp
      rw [List.filter_cons]
      split
      · unfold am_get
        rw [hb]
        exact ih
      · exact ih
theorem sx_get_ne {j k : Nat} {u : Value} {lo : List (Nat × Value)} (h : k ≠ j) : am_get ((j, u) :: lo) k = am_get lo k := by
  have hb : Nat.beq j k = false := by
    cases hb : Nat.beq j k with
    | true => exact absurd (Nat.eq_of_beq_eq_true hb).symm h
    | false => rfl
  show (bif Nat.beq j k then some u else am_get lo k) = am_get lo k
  rw [hb]; rfl
theorem sx_get_eq {k : Nat} {u : Value} {lo : List (Nat × Value)} : am_get ((k, u) :: lo) k = some u := by
  show (bif Nat.beq k k then some u else am_get lo k) = some u
  rw [Nat.beq_refl]; rfl
theorem sx_rL_set {L : List Value} {lo : List (Nat × Value)} {i : Nat} {v w : Value} (hL : sx_rL ρ L lo) (hv : sx_rel ρ v w) : sx_rL ρ (sx_st L i v) (am_set lo i w) := by
  intro k x hx
  rcases sx_st_at hx with ⟨rfl, rfl⟩ | ⟨h1, h2, h3⟩ | h1
  · exact Or.inr ⟨w, sx_get_eq, hv⟩
  · rcases hL k x h2 with hf | ⟨w2, g1, g2⟩
    · exact Or.inl hf
    · refine Or.inr ⟨w2, ?_, g2⟩
      unfold am_set
      rw [sx_get_ne h1]
      refine sx_get_fil g1 ?_
      have hc := sx_cat g2
      have a1 : (k == i) = false := by simpa using h1
      by_cases hk : k + 1 = i
      · have a2 : (w2.category == 2) = false := by
          rw [hc]
          simpa using fun q => h3 ⟨hk, q⟩
        simp [a1, a2]
      · have a2 : (k + 1 == i) = false := by simpa using hk
        simp [a1, a2]
  · exact Or.inl h1
theorem sx_rL_setL {L : List Value} {lo : List (Nat × Value)} {i : Nat} {v w : Value} (hL : sx_rL ρ L lo) (hv : sx_rel ρ v w) : sx_rL ρ (sx_stL L i v) (am_setL lo i w) := by
  intro k x hx
  rcases sx_stL_at hx with ⟨rfl, rfl⟩ | ⟨h1, h4, h2, h3⟩ | h1
  · exact Or.inr ⟨w, sx_get_eq, hv⟩
  · rcases hL k x h2 with hf | ⟨w2, g1, g2⟩
    · exact Or.inl hf
    · refine Or.inr ⟨w2, ?_, g2⟩
      unfold am_setL
      rw [sx_get_ne h1]
      refine sx_get_fil g1 ?_
      have hc := sx_cat g2
      have a1 : (k == i) = false := by simpa using h1
      have a4 : (k == i + 1) = false := by simpa using h4
      by_cases hk : k + 1 = i
      · have a2 : (w2.category == 2) = false := by
          rw [hc]
          simpa using fun q => h3 ⟨hk, q⟩
        simp [a1, a2, a4]
      · have a2 : (k + 1 == i) = false := by simpa using hk
        simp [a1, a2, a4]
  · exact Or.inl h1
/-- a method's locals at its start -/
noncomputable def sx_al : Nat → List Value → List Value
  | n, [] => List.replicate n (.float 0)
  | n, v :: r => bif Nat.beq v.category 2 then v :: .float 0 :: sx_al (n - 2) r else v :: sx_al (n - 1) r
theorem sx_rep : ∀ {n k : Nat} {x : Value}, sx_g (List.replicate n (.float 0)) k = some x → sx_isF x = true
  | 0, k, x, h => by cases h
  | n + 1, 0, x, h => by rw [← Option.some.inj h]; rfl
  | n + 1, k + 1, x, h => sx_rep (n := n) (k := k) h
theorem sx_al_ok : ∀ {av av' : List Value} {n i k : Nat} {x : Value}, sx_rs ρ av av' → sx_g (sx_al n av) k = some x → sx_isF x = true ∨ ∃ w, am_get (lv_args i av') (i + k) = some w ∧ sx_rel ρ x w
  | [], av', n, i, k, x, h, hg => Or.inl (sx_rep hg)
  | v :: r, av', n, i, k, x, h, hg => by
    obtain ⟨w, t, rfl, h1, h3⟩ := sx_cV h
    unfold sx_al at hg
    have hc := sx_cat h1
    cases hb : Nat.beq v.category 2 with
    | true =>
      rw [hb] at hg
      have h2 : v.category = 2 := Nat.eq_of_beq_eq_true hb
      cases k with
      | zero => rw [← Option.some.inj hg]; exact Or.inr ⟨w, sx_get_eq, h1⟩
      | succ k =>
        cases k with
        | zero => rw [← Option.some.inj hg]; exact Or.inl rfl
        | succ k =>
          have hg : sx_g (sx_al (n - 2) r) k = some x := hg
          rcases sx_al_ok (i := i + 2) h3 hg with hf | ⟨w2, g1, g2⟩
          · exact Or.inl hf
          · refine Or.inr ⟨w2, ?_, g2⟩
            unfold lv_args
            rw [sx_get_ne (by omega), hc, h2, if_pos rfl, show i + (k + 1 + 1) = i + 2 + k from by omega]
            exact g1
    | false =>
      rw [hb] at hg
      have h2 : v.category ≠ 2 := fun q => by rw [q] at hb; cases hb
      cases k with
      | zero => rw [← Option.some.inj hg]; exact Or.inr ⟨w, sx_get_eq, h1⟩
      | succ k =>
        have hg : sx_g (sx_al (n - 1) r) k = some x := hg
        rcases sx_al_ok (i := i + 1) h3 hg with hf | ⟨w2, g1, g2⟩
        · exact Or.inl hf
        · refine Or.inr ⟨w2, ?_, g2⟩
          unfold lv_args
          rw [sx_get_ne (by omega), hc, if_neg h2, show i + (k + 1) = i + 1 + k from by omega]
          exact g1
theorem sx_al_rL {av av' : List Value} {n : Nat} (h : sx_rs ρ av av') : sx_rL ρ (sx_al n av) (lv_args 0 av') := fun k x hx => by
  have := sx_al_ok (i := 0) h hx
  rw [Nat.zero_add] at this
  exact this
end SXV
